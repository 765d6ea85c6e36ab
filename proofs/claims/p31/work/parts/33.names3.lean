set_option maxRecDepth 20000 in
theorem gX4_bestOf_X4_countBests : GoodIn wsX4_bestOf (wsV RX4 43 RX4 yX4_countBests wsX4_countBests) := goodIn_app (goodIn_of _ (by decide +kernel)) ggX4_bestOf_X4_countBests
theorem dX4_bestOf_0 : decode cX4_bestOf 0 = .ok (.aload_n 0, 1) := by decide +kernel
theorem dX4_bestOf_1 : decode cX4_bestOf 1 = .ok (.iload_n 2, 1) := by decide +kernel
theorem dX4_bestOf_2 : decode cX4_bestOf 2 = .ok (.invokevirtual 43, 3) := by decide +kernel
theorem dX4_bestOf_5 : decode cX4_bestOf 5 = .ok (.aload_n 0, 1) := by decide +kernel
theorem dX4_bestOf_6 : decode cX4_bestOf 6 = .ok (.getfield 21, 3) := by decide +kernel
theorem dX4_bestOf_9 : decode cX4_bestOf 9 = .ok (.iload_n 2, 1) := by decide +kernel
theorem dX4_bestOf_10 : decode cX4_bestOf 10 = .ok (.aaload, 1) := by decide +kernel
theorem dX4_bestOf_11 : decode cX4_bestOf 11 = .ok (.iload_n 1, 1) := by decide +kernel
theorem dX4_bestOf_12 : decode cX4_bestOf 12 = .ok (.laload, 1) := by decide +kernel
theorem dX4_bestOf_13 : decode cX4_bestOf 13 = .ok (.lreturn, 1) := by decide +kernel
set_option maxRecDepth 20000 in
theorem ggX4_isBestToStop_X4_countBests : GoodIn wsX4_isBestToStop wsX4_countBests := goodIn_r _ [5, 6, 7, 8, 9, 10, 11, 12, 13, 14, 15, 4, 16, 17, 18, 19, 20, 21, 22, 23, 24, 25, 26, 27, 28, 29, 30, 31, 32, 33, 34, 35, 36, 37, 38, 39, 40] (by decide +kernel) (by decide +kernel)
set_option maxRecDepth 20000 in
theorem gX4_isBestToStop_X4_countBests : GoodIn wsX4_isBestToStop (wsV RX4 43 RX4 yX4_countBests wsX4_countBests) := goodIn_app (goodIn_of _ (by decide +kernel)) ggX4_isBestToStop_X4_countBests
set_option maxRecDepth 20000 in
theorem ggX4_isBestToStop_X4_byStopping : GoodIn wsX4_isBestToStop wsX4_byStopping := goodIn_r _ [16, 17, 6, 18, 19, 20, 21, 22, 23, 34, 35, 36, 37, 38, 39, 40] (by decide +kernel) (by decide +kernel)
set_option maxRecDepth 20000 in
theorem gX4_isBestToStop_X4_byStopping : GoodIn wsX4_isBestToStop (wsV RX4 47 RX4 yX4_byStopping wsX4_byStopping) := goodIn_app (goodIn_of _ (by decide +kernel)) ggX4_isBestToStop_X4_byStopping
set_option maxRecDepth 20000 in
theorem ggX4_isBestToStop_X4_byGoingOn : GoodIn wsX4_isBestToStop wsX4_byGoingOn := goodIn_r _ [27, 6, 8, 13, 14, 15, 4, 16, 17, 18, 19, 20, 21, 22, 23, 28, 29, 30, 31, 32, 33, 34, 35, 36, 37, 38, 39, 40] (by decide +kernel) (by decide +kernel)
set_option maxRecDepth 20000 in
theorem gX4_isBestToStop_X4_byGoingOn : GoodIn wsX4_isBestToStop (wsV RX4 51 RX4 yX4_byGoingOn wsX4_byGoingOn) := goodIn_app (goodIn_of _ (by decide +kernel)) ggX4_isBestToStop_X4_byGoingOn
theorem dX4_isBestToStop_0 : decode cX4_isBestToStop 0 = .ok (.aload_n 0, 1) := by decide +kernel
theorem dX4_isBestToStop_1 : decode cX4_isBestToStop 1 = .ok (.iload_n 2, 1) := by decide +kernel
theorem dX4_isBestToStop_2 : decode cX4_isBestToStop 2 = .ok (.invokevirtual 43, 3) := by decide +kernel
theorem dX4_isBestToStop_5 : decode cX4_isBestToStop 5 = .ok (.aload_n 0, 1) := by decide +kernel
theorem dX4_isBestToStop_6 : decode cX4_isBestToStop 6 = .ok (.iload_n 1, 1) := by decide +kernel
theorem dX4_isBestToStop_7 : decode cX4_isBestToStop 7 = .ok (.iload_n 2, 1) := by decide +kernel
theorem dX4_isBestToStop_8 : decode cX4_isBestToStop 8 = .ok (.invokevirtual 47, 3) := by decide +kernel
theorem dX4_isBestToStop_11 : decode cX4_isBestToStop 11 = .ok (.aload_n 0, 1) := by decide +kernel
theorem dX4_isBestToStop_12 : decode cX4_isBestToStop 12 = .ok (.iload_n 1, 1) := by decide +kernel
theorem dX4_isBestToStop_13 : decode cX4_isBestToStop 13 = .ok (.iload_n 2, 1) := by decide +kernel
theorem dX4_isBestToStop_14 : decode cX4_isBestToStop 14 = .ok (.invokevirtual 51, 3) := by decide +kernel
theorem dX4_isBestToStop_17 : decode cX4_isBestToStop 17 = .ok (.lcmp, 1) := by decide +kernel
theorem dX4_isBestToStop_18 : decode cX4_isBestToStop 18 = .ok (.ifCond .lt 7, 3) := by decide +kernel
theorem dX4_isBestToStop_21 : decode cX4_isBestToStop 21 = .ok (.iconst 1, 1) := by decide +kernel
theorem dX4_isBestToStop_22 : decode cX4_isBestToStop 22 = .ok (.goto 4, 3) := by decide +kernel
theorem dX4_isBestToStop_25 : decode cX4_isBestToStop 25 = .ok (.iconst 0, 1) := by decide +kernel
theorem dX4_isBestToStop_26 : decode cX4_isBestToStop 26 = .ok (.ireturn, 1) := by decide +kernel
set_option maxRecDepth 20000 in
theorem ggX4_countBests_X4_byStopping : GoodIn wsX4_countBests wsX4_byStopping := goodIn_r _ [12, 13, 1, 14, 15, 16, 17, 18, 19, 30, 31, 32, 33, 34, 35, 36] (by decide +kernel) (by decide +kernel)
set_option maxRecDepth 20000 in
theorem gX4_countBests_X4_byStopping : GoodIn wsX4_countBests (wsV RX4 47 RX4 yX4_byStopping wsX4_byStopping) := goodIn_app (goodIn_of _ (by decide +kernel)) ggX4_countBests_X4_byStopping
set_option maxRecDepth 20000 in
theorem ggX4_countBests_X4_byGoingOn : GoodIn wsX4_countBests wsX4_byGoingOn := goodIn_r _ [23, 1, 3, 8, 9, 10, 11, 12, 13, 14, 15, 16, 17, 18, 19, 24, 25, 26, 27, 28, 29, 30, 31, 32, 33, 34, 35, 36] (by decide +kernel) (by decide +kernel)
set_option maxRecDepth 20000 in
theorem gX4_countBests_X4_byGoingOn : GoodIn wsX4_countBests (wsV RX4 51 RX4 yX4_byGoingOn wsX4_byGoingOn) := goodIn_app (goodIn_of _ (by decide +kernel)) ggX4_countBests_X4_byGoingOn
theorem dX4_countBests_0 : decode cX4_countBests 0 = .ok (.iconst 0, 1) := by decide +kernel
theorem dX4_countBests_1 : decode cX4_countBests 1 = .ok (.istore_n 2, 1) := by decide +kernel
theorem dX4_countBests_2 : decode cX4_countBests 2 = .ok (.iload_n 2, 1) := by decide +kernel
theorem dX4_countBests_3 : decode cX4_countBests 3 = .ok (.iload_n 1, 1) := by decide +kernel
theorem dX4_countBests_4 : decode cX4_countBests 4 = .ok (.if_icmp .gt 51, 3) := by decide +kernel
theorem dX4_countBests_7 : decode cX4_countBests 7 = .ok (.iconst 0, 1) := by decide +kernel
theorem dX4_countBests_8 : decode cX4_countBests 8 = .ok (.istore_n 3, 1) := by decide +kernel
theorem dX4_countBests_9 : decode cX4_countBests 9 = .ok (.iload_n 3, 1) := by decide +kernel
theorem dX4_countBests_10 : decode cX4_countBests 10 = .ok (.aload_n 0, 1) := by decide +kernel
theorem dX4_countBests_11 : decode cX4_countBests 11 = .ok (.getfield 9, 3) := by decide +kernel
theorem dX4_countBests_14 : decode cX4_countBests 14 = .ok (.getfield 30, 3) := by decide +kernel
theorem dX4_countBests_17 : decode cX4_countBests 17 = .ok (.if_icmp .ge 32, 3) := by decide +kernel
theorem dX4_countBests_20 : decode cX4_countBests 20 = .ok (.aload_n 0, 1) := by decide +kernel
theorem dX4_countBests_21 : decode cX4_countBests 21 = .ok (.getfield 21, 3) := by decide +kernel
theorem dX4_countBests_24 : decode cX4_countBests 24 = .ok (.iload_n 2, 1) := by decide +kernel
theorem dX4_countBests_25 : decode cX4_countBests 25 = .ok (.aaload, 1) := by decide +kernel
theorem dX4_countBests_26 : decode cX4_countBests 26 = .ok (.iload_n 3, 1) := by decide +kernel
theorem dX4_countBests_27 : decode cX4_countBests 27 = .ok (.aload_n 0, 1) := by decide +kernel
theorem dX4_countBests_28 : decode cX4_countBests 28 = .ok (.iload_n 3, 1) := by decide +kernel
theorem dX4_countBests_29 : decode cX4_countBests 29 = .ok (.iload_n 2, 1) := by decide +kernel
theorem dX4_countBests_30 : decode cX4_countBests 30 = .ok (.invokevirtual 47, 3) := by decide +kernel
theorem dX4_countBests_33 : decode cX4_countBests 33 = .ok (.aload_n 0, 1) := by decide +kernel
theorem dX4_countBests_34 : decode cX4_countBests 34 = .ok (.iload_n 3, 1) := by decide +kernel
theorem dX4_countBests_35 : decode cX4_countBests 35 = .ok (.iload_n 2, 1) := by decide +kernel
theorem dX4_countBests_36 : decode cX4_countBests 36 = .ok (.invokevirtual 51, 3) := by decide +kernel
theorem dX4_countBests_39 : decode cX4_countBests 39 = .ok (.invokestatic 54, 3) := by decide +kernel
theorem dX4_countBests_42 : decode cX4_countBests 42 = .ok (.lastore, 1) := by decide +kernel
theorem dX4_countBests_43 : decode cX4_countBests 43 = .ok (.iinc 3 1, 3) := by decide +kernel
theorem dX4_countBests_46 : decode cX4_countBests 46 = .ok (.goto (-37), 3) := by decide +kernel
theorem dX4_countBests_49 : decode cX4_countBests 49 = .ok (.iinc 2 1, 3) := by decide +kernel
theorem dX4_countBests_52 : decode cX4_countBests 52 = .ok (.goto (-50), 3) := by decide +kernel
theorem dX4_countBests_55 : decode cX4_countBests 55 = .ok (.return_, 1) := by decide +kernel
set_option maxRecDepth 20000 in
theorem ggX4_byStopping_X0_countWords : GoodIn wsX4_byStopping wsX0_countWords := goodIn_r _ [7, 8, 12, 13, 14, 15] (by decide +kernel) (by decide +kernel)
set_option maxRecDepth 20000 in
theorem gX4_byStopping_X0_countWords : GoodIn wsX4_byStopping (wsV RX4 60 RX0 yX0_countWords wsX0_countWords) := goodIn_app (goodIn_of _ (by decide +kernel)) ggX4_byStopping_X0_countWords
theorem dX4_byStopping_0 : decode cX4_byStopping 0 = .ok (.aload_n 0, 1) := by decide +kernel
theorem dX4_byStopping_1 : decode cX4_byStopping 1 = .ok (.getfield 15, 3) := by decide +kernel
theorem dX4_byStopping_4 : decode cX4_byStopping 4 = .ok (.iload_n 1, 1) := by decide +kernel
theorem dX4_byStopping_5 : decode cX4_byStopping 5 = .ok (.iaload, 1) := by decide +kernel
theorem dX4_byStopping_6 : decode cX4_byStopping 6 = .ok (.i2l, 1) := by decide +kernel
theorem dX4_byStopping_7 : decode cX4_byStopping 7 = .ok (.aload_n 0, 1) := by decide +kernel
theorem dX4_byStopping_8 : decode cX4_byStopping 8 = .ok (.getfield 9, 3) := by decide +kernel
theorem dX4_byStopping_11 : decode cX4_byStopping 11 = .ok (.iload_n 2, 1) := by decide +kernel
theorem dX4_byStopping_12 : decode cX4_byStopping 12 = .ok (.invokevirtual 60, 3) := by decide +kernel
theorem dX4_byStopping_15 : decode cX4_byStopping 15 = .ok (.lmul, 1) := by decide +kernel
theorem dX4_byStopping_16 : decode cX4_byStopping 16 = .ok (.lreturn, 1) := by decide +kernel
set_option maxRecDepth 20000 in
theorem ggX4_byGoingOn_X4_byStopping : GoodIn wsX4_byGoingOn wsX4_byStopping := goodIn_r _ [7, 8, 1, 9, 10, 11, 12, 13, 14, 21, 22, 23, 24, 25, 26, 27] (by decide +kernel) (by decide +kernel)
set_option maxRecDepth 20000 in
theorem gX4_byGoingOn_X4_byStopping : GoodIn wsX4_byGoingOn (wsV RX4 47 RX4 yX4_byStopping wsX4_byStopping) := goodIn_app (goodIn_of _ (by decide +kernel)) ggX4_byGoingOn_X4_byStopping
set_option maxRecDepth 20000 in
theorem ggX4_byGoingOn_X0_sumOverSlots : GoodIn wsX4_byGoingOn wsX0_sumOverSlots := goodIn_r _ [18, 19, 20, 24, 25, 26, 27] (by decide +kernel) (by decide +kernel)
set_option maxRecDepth 20000 in
theorem gX4_byGoingOn_X0_sumOverSlots : GoodIn wsX4_byGoingOn (wsV RX4 64 RX0 yX0_sumOverSlots wsX0_sumOverSlots) := goodIn_app (goodIn_of _ (by decide +kernel)) ggX4_byGoingOn_X0_sumOverSlots
theorem dX4_byGoingOn_0 : decode cX4_byGoingOn 0 = .ok (.iload_n 2, 1) := by decide +kernel
theorem dX4_byGoingOn_1 : decode cX4_byGoingOn 1 = .ok (.iconst 1, 1) := by decide +kernel
theorem dX4_byGoingOn_2 : decode cX4_byGoingOn 2 = .ok (.if_icmp .ge 12, 3) := by decide +kernel
theorem dX4_byGoingOn_5 : decode cX4_byGoingOn 5 = .ok (.aload_n 0, 1) := by decide +kernel
theorem dX4_byGoingOn_6 : decode cX4_byGoingOn 6 = .ok (.iload_n 1, 1) := by decide +kernel
theorem dX4_byGoingOn_7 : decode cX4_byGoingOn 7 = .ok (.iload_n 2, 1) := by decide +kernel
theorem dX4_byGoingOn_8 : decode cX4_byGoingOn 8 = .ok (.invokevirtual 47, 3) := by decide +kernel
theorem dX4_byGoingOn_11 : decode cX4_byGoingOn 11 = .ok (.goto 19, 3) := by decide +kernel
theorem dX4_byGoingOn_14 : decode cX4_byGoingOn 14 = .ok (.aload_n 0, 1) := by decide +kernel
theorem dX4_byGoingOn_15 : decode cX4_byGoingOn 15 = .ok (.getfield 9, 3) := by decide +kernel
theorem dX4_byGoingOn_18 : decode cX4_byGoingOn 18 = .ok (.iload_n 1, 1) := by decide +kernel
theorem dX4_byGoingOn_19 : decode cX4_byGoingOn 19 = .ok (.aload_n 0, 1) := by decide +kernel
theorem dX4_byGoingOn_20 : decode cX4_byGoingOn 20 = .ok (.getfield 21, 3) := by decide +kernel
theorem dX4_byGoingOn_23 : decode cX4_byGoingOn 23 = .ok (.iload_n 2, 1) := by decide +kernel
theorem dX4_byGoingOn_24 : decode cX4_byGoingOn 24 = .ok (.iconst 1, 1) := by decide +kernel
theorem dX4_byGoingOn_25 : decode cX4_byGoingOn 25 = .ok (.isub, 1) := by decide +kernel
theorem dX4_byGoingOn_26 : decode cX4_byGoingOn 26 = .ok (.aaload, 1) := by decide +kernel
theorem dX4_byGoingOn_27 : decode cX4_byGoingOn 27 = .ok (.invokevirtual 64, 3) := by decide +kernel
theorem dX4_byGoingOn_30 : decode cX4_byGoingOn 30 = .ok (.lreturn, 1) := by decide +kernel
theorem dX5_init_0 : decode cX5_init 0 = .ok (.aload_n 0, 1) := by decide +kernel
theorem dX5_init_1 : decode cX5_init 1 = .ok (.invokespecial 3, 3) := by decide +kernel
theorem dX5_init_4 : decode cX5_init 4 = .ok (.aload_n 0, 1) := by decide +kernel
theorem dX5_init_5 : decode cX5_init 5 = .ok (.aload_n 1, 1) := by decide +kernel
theorem dX5_init_6 : decode cX5_init 6 = .ok (.putfield 9, 3) := by decide +kernel
theorem dX5_init_9 : decode cX5_init 9 = .ok (.aload_n 0, 1) := by decide +kernel
theorem dX5_init_10 : decode cX5_init 10 = .ok (.bipush 13, 2) := by decide +kernel
theorem dX5_init_12 : decode cX5_init 12 = .ok (.bipush 36, 2) := by decide +kernel
theorem dX5_init_14 : decode cX5_init 14 = .ok (.multianewarray 15 2, 4) := by decide +kernel
theorem dX5_init_18 : decode cX5_init 18 = .ok (.putfield 17, 3) := by decide +kernel
theorem dX5_init_21 : decode cX5_init 21 = .ok (.aload_n 0, 1) := by decide +kernel
theorem dX5_init_22 : decode cX5_init 22 = .ok (.bipush 13, 2) := by decide +kernel
theorem dX5_init_24 : decode cX5_init 24 = .ok (.bipush 6, 2) := by decide +kernel
theorem dX5_init_26 : decode cX5_init 26 = .ok (.multianewarray 15 2, 4) := by decide +kernel
theorem dX5_init_30 : decode cX5_init 30 = .ok (.putfield 20, 3) := by decide +kernel
theorem dX5_init_33 : decode cX5_init 33 = .ok (.return_, 1) := by decide +kernel
set_option maxRecDepth 20000 in
theorem ggX5_countLaws_X8_pairOf : GoodIn wsX5_countLaws wsX8_pairOf := goodIn_r _ [6] (by decide +kernel) (by decide +kernel)
set_option maxRecDepth 20000 in
theorem gX5_countLaws_X8_pairOf_n29 : GoodIn wsX5_countLaws (wsX8_pairOf) := ggX5_countLaws_X8_pairOf
set_option maxRecDepth 20000 in
theorem ggX5_countLaws_X5_goOneStep : GoodIn wsX5_countLaws wsX5_goOneStep := goodIn_r _ [11, 1, 2, 12, 4, 5, 6, 13, 14, 15, 16, 17, 18, 19] (by decide +kernel) (by decide +kernel)
set_option maxRecDepth 20000 in
theorem gX5_countLaws_X5_goOneStep : GoodIn wsX5_countLaws (wsV RX5 33 RX5 yX5_goOneStep wsX5_goOneStep) := goodIn_app (goodIn_of _ (by decide +kernel)) ggX5_countLaws_X5_goOneStep
theorem dX5_countLaws_0 : decode cX5_countLaws 0 = .ok (.iconst 0, 1) := by decide +kernel
theorem dX5_countLaws_1 : decode cX5_countLaws 1 = .ok (.istore_n 2, 1) := by decide +kernel
theorem dX5_countLaws_2 : decode cX5_countLaws 2 = .ok (.iload_n 2, 1) := by decide +kernel
theorem dX5_countLaws_3 : decode cX5_countLaws 3 = .ok (.aload_n 0, 1) := by decide +kernel
theorem dX5_countLaws_4 : decode cX5_countLaws 4 = .ok (.getfield 9, 3) := by decide +kernel
theorem dX5_countLaws_7 : decode cX5_countLaws 7 = .ok (.getfield 23, 3) := by decide +kernel
theorem dX5_countLaws_10 : decode cX5_countLaws 10 = .ok (.if_icmp .ge 50, 3) := by decide +kernel
theorem dX5_countLaws_13 : decode cX5_countLaws 13 = .ok (.iconst 0, 1) := by decide +kernel
theorem dX5_countLaws_14 : decode cX5_countLaws 14 = .ok (.istore_n 3, 1) := by decide +kernel
theorem dX5_countLaws_15 : decode cX5_countLaws 15 = .ok (.iload_n 3, 1) := by decide +kernel
theorem dX5_countLaws_16 : decode cX5_countLaws 16 = .ok (.aload_n 0, 1) := by decide +kernel
theorem dX5_countLaws_17 : decode cX5_countLaws 17 = .ok (.getfield 9, 3) := by decide +kernel
theorem dX5_countLaws_20 : decode cX5_countLaws 20 = .ok (.getfield 23, 3) := by decide +kernel
theorem dX5_countLaws_23 : decode cX5_countLaws 23 = .ok (.if_icmp .ge 31, 3) := by decide +kernel
theorem dX5_countLaws_26 : decode cX5_countLaws 26 = .ok (.aload_n 0, 1) := by decide +kernel
theorem dX5_countLaws_27 : decode cX5_countLaws 27 = .ok (.getfield 17, 3) := by decide +kernel
theorem dX5_countLaws_30 : decode cX5_countLaws 30 = .ok (.iconst 0, 1) := by decide +kernel
theorem dX5_countLaws_31 : decode cX5_countLaws 31 = .ok (.aaload, 1) := by decide +kernel
theorem dX5_countLaws_32 : decode cX5_countLaws 32 = .ok (.iload_n 2, 1) := by decide +kernel
theorem dX5_countLaws_33 : decode cX5_countLaws 33 = .ok (.iload_n 3, 1) := by decide +kernel
theorem dX5_countLaws_34 : decode cX5_countLaws 34 = .ok (.invokestatic 29, 3) := by decide +kernel
theorem dX5_countLaws_37 : decode cX5_countLaws 37 = .ok (.iload_n 2, 1) := by decide +kernel
theorem dX5_countLaws_38 : decode cX5_countLaws 38 = .ok (.iload_n 3, 1) := by decide +kernel
theorem dX5_countLaws_39 : decode cX5_countLaws 39 = .ok (.if_icmp .ne 7, 3) := by decide +kernel
theorem dX5_countLaws_42 : decode cX5_countLaws 42 = .ok (.lconst 1, 1) := by decide +kernel
theorem dX5_countLaws_43 : decode cX5_countLaws 43 = .ok (.goto 4, 3) := by decide +kernel
theorem dX5_countLaws_46 : decode cX5_countLaws 46 = .ok (.lconst 0, 1) := by decide +kernel
theorem dX5_countLaws_47 : decode cX5_countLaws 47 = .ok (.lastore, 1) := by decide +kernel
theorem dX5_countLaws_48 : decode cX5_countLaws 48 = .ok (.iinc 3 1, 3) := by decide +kernel
theorem dX5_countLaws_51 : decode cX5_countLaws 51 = .ok (.goto (-36), 3) := by decide +kernel
theorem dX5_countLaws_54 : decode cX5_countLaws 54 = .ok (.iinc 2 1, 3) := by decide +kernel
theorem dX5_countLaws_57 : decode cX5_countLaws 57 = .ok (.goto (-55), 3) := by decide +kernel
theorem dX5_countLaws_60 : decode cX5_countLaws 60 = .ok (.iconst 1, 1) := by decide +kernel
theorem dX5_countLaws_61 : decode cX5_countLaws 61 = .ok (.istore_n 2, 1) := by decide +kernel
theorem dX5_countLaws_62 : decode cX5_countLaws 62 = .ok (.iload_n 2, 1) := by decide +kernel
theorem dX5_countLaws_63 : decode cX5_countLaws 63 = .ok (.iload_n 1, 1) := by decide +kernel
theorem dX5_countLaws_64 : decode cX5_countLaws 64 = .ok (.if_icmp .gt 47, 3) := by decide +kernel
theorem dX5_countLaws_67 : decode cX5_countLaws 67 = .ok (.iconst 0, 1) := by decide +kernel
theorem dX5_countLaws_68 : decode cX5_countLaws 68 = .ok (.istore_n 3, 1) := by decide +kernel
theorem dX5_countLaws_69 : decode cX5_countLaws 69 = .ok (.iload_n 3, 1) := by decide +kernel
theorem dX5_countLaws_70 : decode cX5_countLaws 70 = .ok (.aload_n 0, 1) := by decide +kernel
theorem dX5_countLaws_71 : decode cX5_countLaws 71 = .ok (.getfield 9, 3) := by decide +kernel
theorem dX5_countLaws_74 : decode cX5_countLaws 74 = .ok (.getfield 23, 3) := by decide +kernel
theorem dX5_countLaws_77 : decode cX5_countLaws 77 = .ok (.if_icmp .ge 28, 3) := by decide +kernel
theorem dX5_countLaws_80 : decode cX5_countLaws 80 = .ok (.aload_n 0, 1) := by decide +kernel
theorem dX5_countLaws_81 : decode cX5_countLaws 81 = .ok (.iload_n 3, 1) := by decide +kernel
theorem dX5_countLaws_82 : decode cX5_countLaws 82 = .ok (.aload_n 0, 1) := by decide +kernel
theorem dX5_countLaws_83 : decode cX5_countLaws 83 = .ok (.getfield 17, 3) := by decide +kernel
theorem dX5_countLaws_86 : decode cX5_countLaws 86 = .ok (.iload_n 2, 1) := by decide +kernel
theorem dX5_countLaws_87 : decode cX5_countLaws 87 = .ok (.iconst 1, 1) := by decide +kernel
theorem dX5_countLaws_88 : decode cX5_countLaws 88 = .ok (.isub, 1) := by decide +kernel
theorem dX5_countLaws_89 : decode cX5_countLaws 89 = .ok (.aaload, 1) := by decide +kernel
theorem dX5_countLaws_90 : decode cX5_countLaws 90 = .ok (.aload_n 0, 1) := by decide +kernel
theorem dX5_countLaws_91 : decode cX5_countLaws 91 = .ok (.getfield 17, 3) := by decide +kernel
theorem dX5_countLaws_94 : decode cX5_countLaws 94 = .ok (.iload_n 2, 1) := by decide +kernel
theorem dX5_countLaws_95 : decode cX5_countLaws 95 = .ok (.aaload, 1) := by decide +kernel
theorem dX5_countLaws_96 : decode cX5_countLaws 96 = .ok (.invokevirtual 33, 3) := by decide +kernel
theorem dX5_countLaws_99 : decode cX5_countLaws 99 = .ok (.iinc 3 1, 3) := by decide +kernel
theorem dX5_countLaws_102 : decode cX5_countLaws 102 = .ok (.goto (-33), 3) := by decide +kernel
theorem dX5_countLaws_105 : decode cX5_countLaws 105 = .ok (.iinc 2 1, 3) := by decide +kernel
theorem dX5_countLaws_108 : decode cX5_countLaws 108 = .ok (.goto (-46), 3) := by decide +kernel
theorem dX5_countLaws_111 : decode cX5_countLaws 111 = .ok (.return_, 1) := by decide +kernel
set_option maxRecDepth 20000 in
theorem ggX5_goOneStep_X8_pairOf : GoodIn wsX5_goOneStep wsX8_pairOf := goodIn_r _ [6] (by decide +kernel) (by decide +kernel)
set_option maxRecDepth 20000 in
theorem gX5_goOneStep_X8_pairOf_n29 : GoodIn wsX5_goOneStep (wsX8_pairOf) := ggX5_goOneStep_X8_pairOf
theorem dX5_goOneStep_0 : decode cX5_goOneStep 0 = .ok (.iconst 0, 1) := by decide +kernel
theorem dX5_goOneStep_1 : decode cX5_goOneStep 1 = .ok (.istore 4, 2) := by decide +kernel
theorem dX5_goOneStep_3 : decode cX5_goOneStep 3 = .ok (.iload 4, 2) := by decide +kernel
theorem dX5_goOneStep_5 : decode cX5_goOneStep 5 = .ok (.aload_n 0, 1) := by decide +kernel
theorem dX5_goOneStep_6 : decode cX5_goOneStep 6 = .ok (.getfield 9, 3) := by decide +kernel
theorem dX5_goOneStep_9 : decode cX5_goOneStep 9 = .ok (.getfield 23, 3) := by decide +kernel
theorem dX5_goOneStep_12 : decode cX5_goOneStep 12 = .ok (.if_icmp .ge 71, 3) := by decide +kernel
theorem dX5_goOneStep_15 : decode cX5_goOneStep 15 = .ok (.lconst 0, 1) := by decide +kernel
theorem dX5_goOneStep_16 : decode cX5_goOneStep 16 = .ok (.lstore 5, 2) := by decide +kernel
theorem dX5_goOneStep_18 : decode cX5_goOneStep 18 = .ok (.iconst 0, 1) := by decide +kernel
theorem dX5_goOneStep_19 : decode cX5_goOneStep 19 = .ok (.istore 7, 2) := by decide +kernel
theorem dX5_goOneStep_21 : decode cX5_goOneStep 21 = .ok (.iload 7, 2) := by decide +kernel
theorem dX5_goOneStep_23 : decode cX5_goOneStep 23 = .ok (.aload_n 0, 1) := by decide +kernel
theorem dX5_goOneStep_24 : decode cX5_goOneStep 24 = .ok (.getfield 9, 3) := by decide +kernel
theorem dX5_goOneStep_27 : decode cX5_goOneStep 27 = .ok (.getfield 23, 3) := by decide +kernel
theorem dX5_goOneStep_30 : decode cX5_goOneStep 30 = .ok (.if_icmp .ge 37, 3) := by decide +kernel
theorem dX5_goOneStep_33 : decode cX5_goOneStep 33 = .ok (.lload 5, 2) := by decide +kernel
theorem dX5_goOneStep_35 : decode cX5_goOneStep 35 = .ok (.aload_n 2, 1) := by decide +kernel
theorem dX5_goOneStep_36 : decode cX5_goOneStep 36 = .ok (.iload_n 1, 1) := by decide +kernel
theorem dX5_goOneStep_37 : decode cX5_goOneStep 37 = .ok (.iload 7, 2) := by decide +kernel
theorem dX5_goOneStep_39 : decode cX5_goOneStep 39 = .ok (.invokestatic 29, 3) := by decide +kernel
theorem dX5_goOneStep_42 : decode cX5_goOneStep 42 = .ok (.laload, 1) := by decide +kernel
theorem dX5_goOneStep_43 : decode cX5_goOneStep 43 = .ok (.aload_n 0, 1) := by decide +kernel
theorem dX5_goOneStep_44 : decode cX5_goOneStep 44 = .ok (.getfield 9, 3) := by decide +kernel
theorem dX5_goOneStep_47 : decode cX5_goOneStep 47 = .ok (.getfield 37, 3) := by decide +kernel
theorem dX5_goOneStep_50 : decode cX5_goOneStep 50 = .ok (.iload 7, 2) := by decide +kernel
theorem dX5_goOneStep_52 : decode cX5_goOneStep 52 = .ok (.aaload, 1) := by decide +kernel
theorem dX5_goOneStep_53 : decode cX5_goOneStep 53 = .ok (.iload 4, 2) := by decide +kernel
theorem dX5_goOneStep_55 : decode cX5_goOneStep 55 = .ok (.iaload, 1) := by decide +kernel
theorem dX5_goOneStep_56 : decode cX5_goOneStep 56 = .ok (.i2l, 1) := by decide +kernel
theorem dX5_goOneStep_57 : decode cX5_goOneStep 57 = .ok (.lmul, 1) := by decide +kernel
theorem dX5_goOneStep_58 : decode cX5_goOneStep 58 = .ok (.ladd, 1) := by decide +kernel
theorem dX5_goOneStep_59 : decode cX5_goOneStep 59 = .ok (.lstore 5, 2) := by decide +kernel
theorem dX5_goOneStep_61 : decode cX5_goOneStep 61 = .ok (.iinc 7 1, 3) := by decide +kernel
theorem dX5_goOneStep_64 : decode cX5_goOneStep 64 = .ok (.goto (-43), 3) := by decide +kernel
theorem dX5_goOneStep_67 : decode cX5_goOneStep 67 = .ok (.aload_n 3, 1) := by decide +kernel
theorem dX5_goOneStep_68 : decode cX5_goOneStep 68 = .ok (.iload_n 1, 1) := by decide +kernel
theorem dX5_goOneStep_69 : decode cX5_goOneStep 69 = .ok (.iload 4, 2) := by decide +kernel
theorem dX5_goOneStep_71 : decode cX5_goOneStep 71 = .ok (.invokestatic 29, 3) := by decide +kernel
theorem dX5_goOneStep_74 : decode cX5_goOneStep 74 = .ok (.lload 5, 2) := by decide +kernel
theorem dX5_goOneStep_76 : decode cX5_goOneStep 76 = .ok (.lastore, 1) := by decide +kernel
theorem dX5_goOneStep_77 : decode cX5_goOneStep 77 = .ok (.iinc 4 1, 3) := by decide +kernel
theorem dX5_goOneStep_80 : decode cX5_goOneStep 80 = .ok (.goto (-77), 3) := by decide +kernel
theorem dX5_goOneStep_83 : decode cX5_goOneStep 83 = .ok (.return_, 1) := by decide +kernel
set_option maxRecDepth 20000 in
theorem ggX5_countLaw_X5_countLaws : GoodIn wsX5_countLaw wsX5_countLaws := goodIn_r _ [6, 7, 8, 1, 9, 10, 11, 12, 13, 14, 5, 15, 16, 17, 18, 19, 20, 21, 22, 23] (by decide +kernel) (by decide +kernel)
set_option maxRecDepth 20000 in
theorem gX5_countLaw_X5_countLaws : GoodIn wsX5_countLaw (wsV RX5 41 RX5 yX5_countLaws wsX5_countLaws) := goodIn_app (goodIn_of _ (by decide +kernel)) ggX5_countLaw_X5_countLaws
set_option maxRecDepth 20000 in
theorem ggX5_countLaw_X8_pairOf : GoodIn wsX5_countLaw wsX8_pairOf := goodIn_r _ [11] (by decide +kernel) (by decide +kernel)
set_option maxRecDepth 20000 in
theorem gX5_countLaw_X8_pairOf_n29 : GoodIn wsX5_countLaw (wsX8_pairOf) := ggX5_countLaw_X8_pairOf
theorem dX5_countLaw_0 : decode cX5_countLaw 0 = .ok (.aload_n 0, 1) := by decide +kernel
theorem dX5_countLaw_1 : decode cX5_countLaw 1 = .ok (.iload_n 2, 1) := by decide +kernel
theorem dX5_countLaw_2 : decode cX5_countLaw 2 = .ok (.invokevirtual 41, 3) := by decide +kernel
theorem dX5_countLaw_5 : decode cX5_countLaw 5 = .ok (.aload_n 0, 1) := by decide +kernel
theorem dX5_countLaw_6 : decode cX5_countLaw 6 = .ok (.getfield 17, 3) := by decide +kernel
theorem dX5_countLaw_9 : decode cX5_countLaw 9 = .ok (.iload_n 2, 1) := by decide +kernel
theorem dX5_countLaw_10 : decode cX5_countLaw 10 = .ok (.aaload, 1) := by decide +kernel
theorem dX5_countLaw_11 : decode cX5_countLaw 11 = .ok (.iload_n 1, 1) := by decide +kernel
theorem dX5_countLaw_12 : decode cX5_countLaw 12 = .ok (.iload_n 3, 1) := by decide +kernel
theorem dX5_countLaw_13 : decode cX5_countLaw 13 = .ok (.invokestatic 29, 3) := by decide +kernel
theorem dX5_countLaw_16 : decode cX5_countLaw 16 = .ok (.laload, 1) := by decide +kernel
theorem dX5_countLaw_17 : decode cX5_countLaw 17 = .ok (.lreturn, 1) := by decide +kernel
set_option maxRecDepth 20000 in
theorem ggX5_distanceBehind_X8_pairOf : GoodIn wsX5_distanceBehind wsX8_pairOf := goodIn_r _ [10] (by decide +kernel) (by decide +kernel)
set_option maxRecDepth 20000 in
theorem gX5_distanceBehind_X8_pairOf_n29 : GoodIn wsX5_distanceBehind (wsX8_pairOf) := ggX5_distanceBehind_X8_pairOf
theorem dX5_distanceBehind_0 : decode cX5_distanceBehind 0 = .ok (.lconst 0, 1) := by decide +kernel
theorem dX5_distanceBehind_1 : decode cX5_distanceBehind 1 = .ok (.lstore 4, 2) := by decide +kernel
theorem dX5_distanceBehind_3 : decode cX5_distanceBehind 3 = .ok (.iconst 0, 1) := by decide +kernel
theorem dX5_distanceBehind_4 : decode cX5_distanceBehind 4 = .ok (.istore 6, 2) := by decide +kernel
theorem dX5_distanceBehind_6 : decode cX5_distanceBehind 6 = .ok (.iload 6, 2) := by decide +kernel
theorem dX5_distanceBehind_8 : decode cX5_distanceBehind 8 = .ok (.aload_n 0, 1) := by decide +kernel
theorem dX5_distanceBehind_9 : decode cX5_distanceBehind 9 = .ok (.getfield 9, 3) := by decide +kernel
theorem dX5_distanceBehind_12 : decode cX5_distanceBehind 12 = .ok (.getfield 23, 3) := by decide +kernel
theorem dX5_distanceBehind_15 : decode cX5_distanceBehind 15 = .ok (.if_icmp .ge 49, 3) := by decide +kernel
theorem dX5_distanceBehind_18 : decode cX5_distanceBehind 18 = .ok (.aload_n 0, 1) := by decide +kernel
theorem dX5_distanceBehind_19 : decode cX5_distanceBehind 19 = .ok (.getfield 17, 3) := by decide +kernel
theorem dX5_distanceBehind_22 : decode cX5_distanceBehind 22 = .ok (.iload_n 3, 1) := by decide +kernel
theorem dX5_distanceBehind_23 : decode cX5_distanceBehind 23 = .ok (.aaload, 1) := by decide +kernel
theorem dX5_distanceBehind_24 : decode cX5_distanceBehind 24 = .ok (.iload_n 1, 1) := by decide +kernel
theorem dX5_distanceBehind_25 : decode cX5_distanceBehind 25 = .ok (.iload 6, 2) := by decide +kernel
theorem dX5_distanceBehind_27 : decode cX5_distanceBehind 27 = .ok (.invokestatic 29, 3) := by decide +kernel
theorem dX5_distanceBehind_30 : decode cX5_distanceBehind 30 = .ok (.laload, 1) := by decide +kernel
theorem dX5_distanceBehind_31 : decode cX5_distanceBehind 31 = .ok (.aload_n 0, 1) := by decide +kernel
theorem dX5_distanceBehind_32 : decode cX5_distanceBehind 32 = .ok (.getfield 17, 3) := by decide +kernel
theorem dX5_distanceBehind_35 : decode cX5_distanceBehind 35 = .ok (.iload_n 3, 1) := by decide +kernel
theorem dX5_distanceBehind_36 : decode cX5_distanceBehind 36 = .ok (.aaload, 1) := by decide +kernel
theorem dX5_distanceBehind_37 : decode cX5_distanceBehind 37 = .ok (.iload_n 2, 1) := by decide +kernel
theorem dX5_distanceBehind_38 : decode cX5_distanceBehind 38 = .ok (.iload 6, 2) := by decide +kernel
theorem dX5_distanceBehind_40 : decode cX5_distanceBehind 40 = .ok (.invokestatic 29, 3) := by decide +kernel
theorem dX5_distanceBehind_43 : decode cX5_distanceBehind 43 = .ok (.laload, 1) := by decide +kernel
theorem dX5_distanceBehind_44 : decode cX5_distanceBehind 44 = .ok (.lsub, 1) := by decide +kernel
theorem dX5_distanceBehind_45 : decode cX5_distanceBehind 45 = .ok (.lstore 7, 2) := by decide +kernel
theorem dX5_distanceBehind_47 : decode cX5_distanceBehind 47 = .ok (.lload 4, 2) := by decide +kernel
theorem dX5_distanceBehind_49 : decode cX5_distanceBehind 49 = .ok (.lload 7, 2) := by decide +kernel
theorem dX5_distanceBehind_51 : decode cX5_distanceBehind 51 = .ok (.lconst 0, 1) := by decide +kernel
theorem dX5_distanceBehind_52 : decode cX5_distanceBehind 52 = .ok (.invokestatic 45, 3) := by decide +kernel
theorem dX5_distanceBehind_55 : decode cX5_distanceBehind 55 = .ok (.ladd, 1) := by decide +kernel
theorem dX5_distanceBehind_56 : decode cX5_distanceBehind 56 = .ok (.lstore 4, 2) := by decide +kernel
theorem dX5_distanceBehind_58 : decode cX5_distanceBehind 58 = .ok (.iinc 6 1, 3) := by decide +kernel
theorem dX5_distanceBehind_61 : decode cX5_distanceBehind 61 = .ok (.goto (-55), 3) := by decide +kernel
theorem dX5_distanceBehind_64 : decode cX5_distanceBehind 64 = .ok (.lload 4, 2) := by decide +kernel
theorem dX5_distanceBehind_66 : decode cX5_distanceBehind 66 = .ok (.lreturn, 1) := by decide +kernel
set_option maxRecDepth 20000 in
theorem ggX5_isMixed_X0_countWords : GoodIn wsX5_isMixed wsX0_countWords := goodIn_r _ [8, 9, 26, 27, 28, 29] (by decide +kernel) (by decide +kernel)
set_option maxRecDepth 20000 in
theorem gX5_isMixed_X0_countWords : GoodIn wsX5_isMixed (wsV RX5 51 RX0 yX0_countWords wsX0_countWords) := goodIn_app (goodIn_of _ (by decide +kernel)) ggX5_isMixed_X0_countWords
set_option maxRecDepth 20000 in
theorem ggX5_isMixed_X5_distanceBehind : GoodIn wsX5_isMixed wsX5_distanceBehind := goodIn_r _ [14, 1, 2, 15, 16, 17, 18, 19, 20, 21, 22, 23, 24, 25, 26, 27, 28, 29] (by decide +kernel) (by decide +kernel)
set_option maxRecDepth 20000 in
theorem gX5_isMixed_X5_distanceBehind : GoodIn wsX5_isMixed (wsV RX5 57 RX5 yX5_distanceBehind wsX5_distanceBehind) := goodIn_app (goodIn_of _ (by decide +kernel)) ggX5_isMixed_X5_distanceBehind
theorem dX5_isMixed_0 : decode cX5_isMixed 0 = .ok (.iload_n 1, 1) := by decide +kernel
theorem dX5_isMixed_1 : decode cX5_isMixed 1 = .ok (.i2l, 1) := by decide +kernel
theorem dX5_isMixed_2 : decode cX5_isMixed 2 = .ok (.aload_n 0, 1) := by decide +kernel
theorem dX5_isMixed_3 : decode cX5_isMixed 3 = .ok (.getfield 9, 3) := by decide +kernel
theorem dX5_isMixed_6 : decode cX5_isMixed 6 = .ok (.iload_n 2, 1) := by decide +kernel
theorem dX5_isMixed_7 : decode cX5_isMixed 7 = .ok (.invokevirtual 51, 3) := by decide +kernel
theorem dX5_isMixed_10 : decode cX5_isMixed 10 = .ok (.lmul, 1) := by decide +kernel
theorem dX5_isMixed_11 : decode cX5_isMixed 11 = .ok (.lstore_n 3, 1) := by decide +kernel
theorem dX5_isMixed_12 : decode cX5_isMixed 12 = .ok (.iconst 0, 1) := by decide +kernel
theorem dX5_isMixed_13 : decode cX5_isMixed 13 = .ok (.istore 5, 2) := by decide +kernel
theorem dX5_isMixed_15 : decode cX5_isMixed 15 = .ok (.iload 5, 2) := by decide +kernel
theorem dX5_isMixed_17 : decode cX5_isMixed 17 = .ok (.aload_n 0, 1) := by decide +kernel
theorem dX5_isMixed_18 : decode cX5_isMixed 18 = .ok (.getfield 9, 3) := by decide +kernel
theorem dX5_isMixed_21 : decode cX5_isMixed 21 = .ok (.getfield 23, 3) := by decide +kernel
theorem dX5_isMixed_24 : decode cX5_isMixed 24 = .ok (.if_icmp .ge 53, 3) := by decide +kernel
theorem dX5_isMixed_27 : decode cX5_isMixed 27 = .ok (.iload 5, 2) := by decide +kernel
theorem dX5_isMixed_29 : decode cX5_isMixed 29 = .ok (.iconst 1, 1) := by decide +kernel
theorem dX5_isMixed_30 : decode cX5_isMixed 30 = .ok (.iadd, 1) := by decide +kernel
theorem dX5_isMixed_31 : decode cX5_isMixed 31 = .ok (.istore 6, 2) := by decide +kernel
theorem dX5_isMixed_33 : decode cX5_isMixed 33 = .ok (.iload 6, 2) := by decide +kernel
theorem dX5_isMixed_35 : decode cX5_isMixed 35 = .ok (.aload_n 0, 1) := by decide +kernel
theorem dX5_isMixed_36 : decode cX5_isMixed 36 = .ok (.getfield 9, 3) := by decide +kernel
theorem dX5_isMixed_39 : decode cX5_isMixed 39 = .ok (.getfield 23, 3) := by decide +kernel
theorem dX5_isMixed_42 : decode cX5_isMixed 42 = .ok (.if_icmp .ge 29, 3) := by decide +kernel
theorem dX5_isMixed_45 : decode cX5_isMixed 45 = .ok (.ldc2_w 55, 3) := by decide +kernel
theorem dX5_isMixed_48 : decode cX5_isMixed 48 = .ok (.aload_n 0, 1) := by decide +kernel
theorem dX5_isMixed_49 : decode cX5_isMixed 49 = .ok (.iload 5, 2) := by decide +kernel
theorem dX5_isMixed_51 : decode cX5_isMixed 51 = .ok (.iload 6, 2) := by decide +kernel
theorem dX5_isMixed_53 : decode cX5_isMixed 53 = .ok (.iload_n 2, 1) := by decide +kernel
theorem dX5_isMixed_54 : decode cX5_isMixed 54 = .ok (.invokevirtual 57, 3) := by decide +kernel
theorem dX5_isMixed_57 : decode cX5_isMixed 57 = .ok (.lmul, 1) := by decide +kernel
theorem dX5_isMixed_58 : decode cX5_isMixed 58 = .ok (.lload_n 3, 1) := by decide +kernel
theorem dX5_isMixed_59 : decode cX5_isMixed 59 = .ok (.lcmp, 1) := by decide +kernel
theorem dX5_isMixed_60 : decode cX5_isMixed 60 = .ok (.ifCond .le 5, 3) := by decide +kernel
theorem dX5_isMixed_63 : decode cX5_isMixed 63 = .ok (.iconst 0, 1) := by decide +kernel
theorem dX5_isMixed_64 : decode cX5_isMixed 64 = .ok (.ireturn, 1) := by decide +kernel
theorem dX5_isMixed_65 : decode cX5_isMixed 65 = .ok (.iinc 6 1, 3) := by decide +kernel
theorem dX5_isMixed_68 : decode cX5_isMixed 68 = .ok (.goto (-35), 3) := by decide +kernel
theorem dX5_isMixed_71 : decode cX5_isMixed 71 = .ok (.iinc 5 1, 3) := by decide +kernel
theorem dX5_isMixed_74 : decode cX5_isMixed 74 = .ok (.goto (-59), 3) := by decide +kernel
theorem dX5_isMixed_77 : decode cX5_isMixed 77 = .ok (.iconst 1, 1) := by decide +kernel
theorem dX5_isMixed_78 : decode cX5_isMixed 78 = .ok (.ireturn, 1) := by decide +kernel
set_option maxRecDepth 20000 in
theorem ggX5_countHits_X5_hitsIn : GoodIn wsX5_countHits wsX5_hitsIn := goodIn_r _ [8, 1, 3, 9, 10, 11, 12, 13, 14, 15, 16, 17, 18, 19, 20, 21, 22, 23, 24, 25, 26, 27] (by decide +kernel) (by decide +kernel)
set_option maxRecDepth 20000 in
theorem gX5_countHits_X5_hitsIn : GoodIn wsX5_countHits (wsV RX5 61 RX5 yX5_hitsIn wsX5_hitsIn) := goodIn_app (goodIn_of _ (by decide +kernel)) ggX5_countHits_X5_hitsIn
theorem dX5_countHits_0 : decode cX5_countHits 0 = .ok (.iconst 0, 1) := by decide +kernel
theorem dX5_countHits_1 : decode cX5_countHits 1 = .ok (.istore 4, 2) := by decide +kernel
theorem dX5_countHits_3 : decode cX5_countHits 3 = .ok (.iload 4, 2) := by decide +kernel
theorem dX5_countHits_5 : decode cX5_countHits 5 = .ok (.iload_n 2, 1) := by decide +kernel
theorem dX5_countHits_6 : decode cX5_countHits 6 = .ok (.if_icmp .gt 49, 3) := by decide +kernel
theorem dX5_countHits_9 : decode cX5_countHits 9 = .ok (.iconst 0, 1) := by decide +kernel
theorem dX5_countHits_10 : decode cX5_countHits 10 = .ok (.istore 5, 2) := by decide +kernel
theorem dX5_countHits_12 : decode cX5_countHits 12 = .ok (.iload 5, 2) := by decide +kernel
theorem dX5_countHits_14 : decode cX5_countHits 14 = .ok (.aload_n 0, 1) := by decide +kernel
theorem dX5_countHits_15 : decode cX5_countHits 15 = .ok (.getfield 9, 3) := by decide +kernel
theorem dX5_countHits_18 : decode cX5_countHits 18 = .ok (.getfield 23, 3) := by decide +kernel
theorem dX5_countHits_21 : decode cX5_countHits 21 = .ok (.if_icmp .ge 28, 3) := by decide +kernel
theorem dX5_countHits_24 : decode cX5_countHits 24 = .ok (.aload_n 0, 1) := by decide +kernel
theorem dX5_countHits_25 : decode cX5_countHits 25 = .ok (.getfield 20, 3) := by decide +kernel
theorem dX5_countHits_28 : decode cX5_countHits 28 = .ok (.iload 4, 2) := by decide +kernel
theorem dX5_countHits_30 : decode cX5_countHits 30 = .ok (.aaload, 1) := by decide +kernel
theorem dX5_countHits_31 : decode cX5_countHits 31 = .ok (.iload 5, 2) := by decide +kernel
theorem dX5_countHits_33 : decode cX5_countHits 33 = .ok (.aload_n 0, 1) := by decide +kernel
theorem dX5_countHits_34 : decode cX5_countHits 34 = .ok (.iload 5, 2) := by decide +kernel
theorem dX5_countHits_36 : decode cX5_countHits 36 = .ok (.iload 4, 2) := by decide +kernel
theorem dX5_countHits_38 : decode cX5_countHits 38 = .ok (.iload_n 3, 1) := by decide +kernel
theorem dX5_countHits_39 : decode cX5_countHits 39 = .ok (.invokevirtual 61, 3) := by decide +kernel
theorem dX5_countHits_42 : decode cX5_countHits 42 = .ok (.lastore, 1) := by decide +kernel
theorem dX5_countHits_43 : decode cX5_countHits 43 = .ok (.iinc 5 1, 3) := by decide +kernel
theorem dX5_countHits_46 : decode cX5_countHits 46 = .ok (.goto (-34), 3) := by decide +kernel
theorem dX5_countHits_49 : decode cX5_countHits 49 = .ok (.iinc 4 1, 3) := by decide +kernel
theorem dX5_countHits_52 : decode cX5_countHits 52 = .ok (.goto (-49), 3) := by decide +kernel
theorem dX5_countHits_55 : decode cX5_countHits 55 = .ok (.aload_n 0, 1) := by decide +kernel
theorem dX5_countHits_56 : decode cX5_countHits 56 = .ok (.getfield 20, 3) := by decide +kernel
theorem dX5_countHits_59 : decode cX5_countHits 59 = .ok (.iload_n 2, 1) := by decide +kernel
theorem dX5_countHits_60 : decode cX5_countHits 60 = .ok (.aaload, 1) := by decide +kernel
theorem dX5_countHits_61 : decode cX5_countHits 61 = .ok (.iload_n 1, 1) := by decide +kernel
theorem dX5_countHits_62 : decode cX5_countHits 62 = .ok (.laload, 1) := by decide +kernel
theorem dX5_countHits_63 : decode cX5_countHits 63 = .ok (.lreturn, 1) := by decide +kernel
set_option maxRecDepth 20000 in
theorem ggX5_hitsIn_X0_countWords : GoodIn wsX5_hitsIn wsX0_countWords := goodIn_r _ [7, 8, 18, 19, 20, 21] (by decide +kernel) (by decide +kernel)
set_option maxRecDepth 20000 in
theorem gX5_hitsIn_X0_countWords : GoodIn wsX5_hitsIn (wsV RX5 51 RX0 yX0_countWords wsX0_countWords) := goodIn_app (goodIn_of _ (by decide +kernel)) ggX5_hitsIn_X0_countWords
set_option maxRecDepth 20000 in
theorem ggX5_hitsIn_X0_sumOverSlots : GoodIn wsX5_hitsIn wsX0_sumOverSlots := goodIn_r _ [12, 13, 14, 18, 19, 20, 21] (by decide +kernel) (by decide +kernel)
set_option maxRecDepth 20000 in
theorem gX5_hitsIn_X0_sumOverSlots : GoodIn wsX5_hitsIn (wsV RX5 64 RX0 yX0_sumOverSlots wsX0_sumOverSlots) := goodIn_app (goodIn_of _ (by decide +kernel)) ggX5_hitsIn_X0_sumOverSlots
theorem dX5_hitsIn_0 : decode cX5_hitsIn 0 = .ok (.iload_n 1, 1) := by decide +kernel
theorem dX5_hitsIn_1 : decode cX5_hitsIn 1 = .ok (.iload_n 3, 1) := by decide +kernel
theorem dX5_hitsIn_2 : decode cX5_hitsIn 2 = .ok (.if_icmp .ne 12, 3) := by decide +kernel
theorem dX5_hitsIn_5 : decode cX5_hitsIn 5 = .ok (.aload_n 0, 1) := by decide +kernel
theorem dX5_hitsIn_6 : decode cX5_hitsIn 6 = .ok (.getfield 9, 3) := by decide +kernel
theorem dX5_hitsIn_9 : decode cX5_hitsIn 9 = .ok (.iload_n 2, 1) := by decide +kernel
theorem dX5_hitsIn_10 : decode cX5_hitsIn 10 = .ok (.invokevirtual 51, 3) := by decide +kernel
theorem dX5_hitsIn_13 : decode cX5_hitsIn 13 = .ok (.lreturn, 1) := by decide +kernel
theorem dX5_hitsIn_14 : decode cX5_hitsIn 14 = .ok (.iload_n 2, 1) := by decide +kernel
theorem dX5_hitsIn_15 : decode cX5_hitsIn 15 = .ok (.ifCond .ne 7, 3) := by decide +kernel
theorem dX5_hitsIn_18 : decode cX5_hitsIn 18 = .ok (.lconst 0, 1) := by decide +kernel
theorem dX5_hitsIn_19 : decode cX5_hitsIn 19 = .ok (.goto 19, 3) := by decide +kernel
theorem dX5_hitsIn_22 : decode cX5_hitsIn 22 = .ok (.aload_n 0, 1) := by decide +kernel
theorem dX5_hitsIn_23 : decode cX5_hitsIn 23 = .ok (.getfield 9, 3) := by decide +kernel
theorem dX5_hitsIn_26 : decode cX5_hitsIn 26 = .ok (.iload_n 1, 1) := by decide +kernel
theorem dX5_hitsIn_27 : decode cX5_hitsIn 27 = .ok (.aload_n 0, 1) := by decide +kernel
theorem dX5_hitsIn_28 : decode cX5_hitsIn 28 = .ok (.getfield 20, 3) := by decide +kernel
theorem dX5_hitsIn_31 : decode cX5_hitsIn 31 = .ok (.iload_n 2, 1) := by decide +kernel
theorem dX5_hitsIn_32 : decode cX5_hitsIn 32 = .ok (.iconst 1, 1) := by decide +kernel
theorem dX5_hitsIn_33 : decode cX5_hitsIn 33 = .ok (.isub, 1) := by decide +kernel
theorem dX5_hitsIn_34 : decode cX5_hitsIn 34 = .ok (.aaload, 1) := by decide +kernel
theorem dX5_hitsIn_35 : decode cX5_hitsIn 35 = .ok (.invokevirtual 64, 3) := by decide +kernel
theorem dX5_hitsIn_38 : decode cX5_hitsIn 38 = .ok (.lreturn, 1) := by decide +kernel
theorem dX6_init_0 : decode cX6_init 0 = .ok (.aload_n 0, 1) := by decide +kernel
theorem dX6_init_1 : decode cX6_init 1 = .ok (.invokespecial 3, 3) := by decide +kernel
theorem dX6_init_4 : decode cX6_init 4 = .ok (.aload_n 0, 1) := by decide +kernel
theorem dX6_init_5 : decode cX6_init 5 = .ok (.aload_n 1, 1) := by decide +kernel
theorem dX6_init_6 : decode cX6_init 6 = .ok (.putfield 9, 3) := by decide +kernel
theorem dX6_init_9 : decode cX6_init 9 = .ok (.aload_n 0, 1) := by decide +kernel
theorem dX6_init_10 : decode cX6_init 10 = .ok (.bipush 6, 2) := by decide +kernel
theorem dX6_init_12 : decode cX6_init 12 = .ok (.newarray .int, 2) := by decide +kernel
theorem dX6_init_14 : decode cX6_init 14 = .ok (.putfield 15, 3) := by decide +kernel
theorem dX6_init_17 : decode cX6_init 17 = .ok (.return_, 1) := by decide +kernel
set_option maxRecDepth 20000 in
theorem ggX6_forget_J7_fill_53178 : GoodIn wsX6_forget wsJ7_fill_53178 := goodIn_r _ [5] (by decide +kernel) (by decide +kernel)
set_option maxRecDepth 20000 in
theorem gX6_forget_J7_fill_53178 : GoodIn wsX6_forget (va_wsS RX6 19 yJ7_fill_53178 wsJ7_fill_53178) := goodIn_app (goodIn_of _ (by decide +kernel)) ggX6_forget_J7_fill_53178
theorem dX6_forget_0 : decode cX6_forget 0 = .ok (.aload_n 0, 1) := by decide +kernel
theorem dX6_forget_1 : decode cX6_forget 1 = .ok (.getfield 15, 3) := by decide +kernel
theorem dX6_forget_4 : decode cX6_forget 4 = .ok (.iconst 0, 1) := by decide +kernel
theorem dX6_forget_5 : decode cX6_forget 5 = .ok (.invokestatic 19, 3) := by decide +kernel
theorem dX6_forget_8 : decode cX6_forget 8 = .ok (.return_, 1) := by decide +kernel
theorem dX6_setColour_0 : decode cX6_setColour 0 = .ok (.aload_n 0, 1) := by decide +kernel
theorem dX6_setColour_1 : decode cX6_setColour 1 = .ok (.getfield 15, 3) := by decide +kernel
theorem dX6_setColour_4 : decode cX6_setColour 4 = .ok (.iload_n 1, 1) := by decide +kernel
theorem dX6_setColour_5 : decode cX6_setColour 5 = .ok (.iaload, 1) := by decide +kernel
theorem dX6_setColour_6 : decode cX6_setColour 6 = .ok (.istore_n 3, 1) := by decide +kernel
theorem dX6_setColour_7 : decode cX6_setColour 7 = .ok (.aload_n 0, 1) := by decide +kernel
theorem dX6_setColour_8 : decode cX6_setColour 8 = .ok (.getfield 15, 3) := by decide +kernel
theorem dX6_setColour_11 : decode cX6_setColour 11 = .ok (.iload_n 1, 1) := by decide +kernel
theorem dX6_setColour_12 : decode cX6_setColour 12 = .ok (.iload_n 2, 1) := by decide +kernel
theorem dX6_setColour_13 : decode cX6_setColour 13 = .ok (.iastore, 1) := by decide +kernel
theorem dX6_setColour_14 : decode cX6_setColour 14 = .ok (.iload_n 3, 1) := by decide +kernel
theorem dX6_setColour_15 : decode cX6_setColour 15 = .ok (.ireturn, 1) := by decide +kernel
set_option maxRecDepth 20000 in
theorem ggX6_isChainLumped_X6_leadAlike : GoodIn wsX6_isChainLumped wsX6_leadAlike := goodIn_r _ [8, 9, 10, 11, 7, 12, 1, 2, 3, 13, 14, 15, 16, 17, 18, 19] (by decide +kernel) (by decide +kernel)
set_option maxRecDepth 20000 in
theorem gX6_isChainLumped_X6_leadAlike : GoodIn wsX6_isChainLumped (wsV RX6 31 RX6 yX6_leadAlike wsX6_leadAlike) := goodIn_app (goodIn_of _ (by decide +kernel)) ggX6_isChainLumped_X6_leadAlike
theorem dX6_isChainLumped_0 : decode cX6_isChainLumped 0 = .ok (.iconst 0, 1) := by decide +kernel
theorem dX6_isChainLumped_1 : decode cX6_isChainLumped 1 = .ok (.istore_n 1, 1) := by decide +kernel
theorem dX6_isChainLumped_2 : decode cX6_isChainLumped 2 = .ok (.iload_n 1, 1) := by decide +kernel
theorem dX6_isChainLumped_3 : decode cX6_isChainLumped 3 = .ok (.aload_n 0, 1) := by decide +kernel
theorem dX6_isChainLumped_4 : decode cX6_isChainLumped 4 = .ok (.getfield 9, 3) := by decide +kernel
theorem dX6_isChainLumped_7 : decode cX6_isChainLumped 7 = .ok (.getfield 25, 3) := by decide +kernel
theorem dX6_isChainLumped_10 : decode cX6_isChainLumped 10 = .ok (.if_icmp .ge 56, 3) := by decide +kernel
theorem dX6_isChainLumped_13 : decode cX6_isChainLumped 13 = .ok (.iload_n 1, 1) := by decide +kernel
theorem dX6_isChainLumped_14 : decode cX6_isChainLumped 14 = .ok (.iconst 1, 1) := by decide +kernel
theorem dX6_isChainLumped_15 : decode cX6_isChainLumped 15 = .ok (.iadd, 1) := by decide +kernel
theorem dX6_isChainLumped_16 : decode cX6_isChainLumped 16 = .ok (.istore_n 2, 1) := by decide +kernel
theorem dX6_isChainLumped_17 : decode cX6_isChainLumped 17 = .ok (.iload_n 2, 1) := by decide +kernel
theorem dX6_isChainLumped_18 : decode cX6_isChainLumped 18 = .ok (.aload_n 0, 1) := by decide +kernel
theorem dX6_isChainLumped_19 : decode cX6_isChainLumped 19 = .ok (.getfield 9, 3) := by decide +kernel
theorem dX6_isChainLumped_22 : decode cX6_isChainLumped 22 = .ok (.getfield 25, 3) := by decide +kernel
theorem dX6_isChainLumped_25 : decode cX6_isChainLumped 25 = .ok (.if_icmp .ge 35, 3) := by decide +kernel
theorem dX6_isChainLumped_28 : decode cX6_isChainLumped 28 = .ok (.aload_n 0, 1) := by decide +kernel
theorem dX6_isChainLumped_29 : decode cX6_isChainLumped 29 = .ok (.getfield 15, 3) := by decide +kernel
theorem dX6_isChainLumped_32 : decode cX6_isChainLumped 32 = .ok (.iload_n 1, 1) := by decide +kernel
theorem dX6_isChainLumped_33 : decode cX6_isChainLumped 33 = .ok (.iaload, 1) := by decide +kernel
theorem dX6_isChainLumped_34 : decode cX6_isChainLumped 34 = .ok (.aload_n 0, 1) := by decide +kernel
theorem dX6_isChainLumped_35 : decode cX6_isChainLumped 35 = .ok (.getfield 15, 3) := by decide +kernel
theorem dX6_isChainLumped_38 : decode cX6_isChainLumped 38 = .ok (.iload_n 2, 1) := by decide +kernel
theorem dX6_isChainLumped_39 : decode cX6_isChainLumped 39 = .ok (.iaload, 1) := by decide +kernel
theorem dX6_isChainLumped_40 : decode cX6_isChainLumped 40 = .ok (.if_icmp .ne 14, 3) := by decide +kernel
theorem dX6_isChainLumped_43 : decode cX6_isChainLumped 43 = .ok (.aload_n 0, 1) := by decide +kernel
theorem dX6_isChainLumped_44 : decode cX6_isChainLumped 44 = .ok (.iload_n 1, 1) := by decide +kernel
theorem dX6_isChainLumped_45 : decode cX6_isChainLumped 45 = .ok (.iload_n 2, 1) := by decide +kernel
theorem dX6_isChainLumped_46 : decode cX6_isChainLumped 46 = .ok (.invokevirtual 31, 3) := by decide +kernel
theorem dX6_isChainLumped_49 : decode cX6_isChainLumped 49 = .ok (.ifCond .ne 5, 3) := by decide +kernel
theorem dX6_isChainLumped_52 : decode cX6_isChainLumped 52 = .ok (.iconst 0, 1) := by decide +kernel
theorem dX6_isChainLumped_53 : decode cX6_isChainLumped 53 = .ok (.ireturn, 1) := by decide +kernel
theorem dX6_isChainLumped_54 : decode cX6_isChainLumped 54 = .ok (.iinc 2 1, 3) := by decide +kernel
theorem dX6_isChainLumped_57 : decode cX6_isChainLumped 57 = .ok (.goto (-40), 3) := by decide +kernel
theorem dX6_isChainLumped_60 : decode cX6_isChainLumped 60 = .ok (.iinc 1 1, 3) := by decide +kernel
theorem dX6_isChainLumped_63 : decode cX6_isChainLumped 63 = .ok (.goto (-61), 3) := by decide +kernel
theorem dX6_isChainLumped_66 : decode cX6_isChainLumped 66 = .ok (.iconst 1, 1) := by decide +kernel
theorem dX6_isChainLumped_67 : decode cX6_isChainLumped 67 = .ok (.ireturn, 1) := by decide +kernel
set_option maxRecDepth 20000 in
theorem ggX6_leadAlike_X6_weightTo : GoodIn wsX6_leadAlike wsX6_weightTo := goodIn_r _ [5, 6, 7, 8, 9, 10, 11, 12, 13, 14, 15] (by decide +kernel) (by decide +kernel)
set_option maxRecDepth 20000 in
theorem gX6_leadAlike_X6_weightTo : GoodIn wsX6_leadAlike (wsV RX6 35 RX6 yX6_weightTo wsX6_weightTo) := goodIn_app (goodIn_of _ (by decide +kernel)) ggX6_leadAlike_X6_weightTo
theorem dX6_leadAlike_0 : decode cX6_leadAlike 0 = .ok (.iconst 0, 1) := by decide +kernel
theorem dX6_leadAlike_1 : decode cX6_leadAlike 1 = .ok (.istore_n 3, 1) := by decide +kernel
theorem dX6_leadAlike_2 : decode cX6_leadAlike 2 = .ok (.iload_n 3, 1) := by decide +kernel
theorem dX6_leadAlike_3 : decode cX6_leadAlike 3 = .ok (.bipush 6, 2) := by decide +kernel
theorem dX6_leadAlike_5 : decode cX6_leadAlike 5 = .ok (.if_icmp .ge 26, 3) := by decide +kernel
theorem dX6_leadAlike_8 : decode cX6_leadAlike 8 = .ok (.aload_n 0, 1) := by decide +kernel
theorem dX6_leadAlike_9 : decode cX6_leadAlike 9 = .ok (.iload_n 1, 1) := by decide +kernel
theorem dX6_leadAlike_10 : decode cX6_leadAlike 10 = .ok (.iload_n 3, 1) := by decide +kernel
theorem dX6_leadAlike_11 : decode cX6_leadAlike 11 = .ok (.invokevirtual 35, 3) := by decide +kernel
theorem dX6_leadAlike_14 : decode cX6_leadAlike 14 = .ok (.aload_n 0, 1) := by decide +kernel
theorem dX6_leadAlike_15 : decode cX6_leadAlike 15 = .ok (.iload_n 2, 1) := by decide +kernel
theorem dX6_leadAlike_16 : decode cX6_leadAlike 16 = .ok (.iload_n 3, 1) := by decide +kernel
theorem dX6_leadAlike_17 : decode cX6_leadAlike 17 = .ok (.invokevirtual 35, 3) := by decide +kernel
theorem dX6_leadAlike_20 : decode cX6_leadAlike 20 = .ok (.if_icmp .eq 5, 3) := by decide +kernel
theorem dX6_leadAlike_23 : decode cX6_leadAlike 23 = .ok (.iconst 0, 1) := by decide +kernel
theorem dX6_leadAlike_24 : decode cX6_leadAlike 24 = .ok (.ireturn, 1) := by decide +kernel
theorem dX6_leadAlike_25 : decode cX6_leadAlike 25 = .ok (.iinc 3 1, 3) := by decide +kernel
theorem dX6_leadAlike_28 : decode cX6_leadAlike 28 = .ok (.goto (-26), 3) := by decide +kernel
theorem dX6_leadAlike_31 : decode cX6_leadAlike 31 = .ok (.iconst 1, 1) := by decide +kernel
theorem dX6_leadAlike_32 : decode cX6_leadAlike 32 = .ok (.ireturn, 1) := by decide +kernel
theorem dX6_weightTo_0 : decode cX6_weightTo 0 = .ok (.iconst 0, 1) := by decide +kernel
theorem dX6_weightTo_1 : decode cX6_weightTo 1 = .ok (.istore_n 3, 1) := by decide +kernel
theorem dX6_weightTo_2 : decode cX6_weightTo 2 = .ok (.iconst 0, 1) := by decide +kernel
theorem dX6_weightTo_3 : decode cX6_weightTo 3 = .ok (.istore 4, 2) := by decide +kernel
theorem dX6_weightTo_5 : decode cX6_weightTo 5 = .ok (.iload 4, 2) := by decide +kernel
theorem dX6_weightTo_7 : decode cX6_weightTo 7 = .ok (.aload_n 0, 1) := by decide +kernel
theorem dX6_weightTo_8 : decode cX6_weightTo 8 = .ok (.getfield 9, 3) := by decide +kernel
theorem dX6_weightTo_11 : decode cX6_weightTo 11 = .ok (.getfield 25, 3) := by decide +kernel
theorem dX6_weightTo_14 : decode cX6_weightTo 14 = .ok (.if_icmp .ge 35, 3) := by decide +kernel
theorem dX6_weightTo_17 : decode cX6_weightTo 17 = .ok (.aload_n 0, 1) := by decide +kernel
theorem dX6_weightTo_18 : decode cX6_weightTo 18 = .ok (.getfield 15, 3) := by decide +kernel
theorem dX6_weightTo_21 : decode cX6_weightTo 21 = .ok (.iload 4, 2) := by decide +kernel
theorem dX6_weightTo_23 : decode cX6_weightTo 23 = .ok (.iaload, 1) := by decide +kernel
theorem dX6_weightTo_24 : decode cX6_weightTo 24 = .ok (.iload_n 2, 1) := by decide +kernel
theorem dX6_weightTo_25 : decode cX6_weightTo 25 = .ok (.if_icmp .ne 18, 3) := by decide +kernel
theorem dX6_weightTo_28 : decode cX6_weightTo 28 = .ok (.iload_n 3, 1) := by decide +kernel
theorem dX6_weightTo_29 : decode cX6_weightTo 29 = .ok (.aload_n 0, 1) := by decide +kernel
theorem dX6_weightTo_30 : decode cX6_weightTo 30 = .ok (.getfield 9, 3) := by decide +kernel
theorem dX6_weightTo_33 : decode cX6_weightTo 33 = .ok (.getfield 39, 3) := by decide +kernel
theorem dX6_weightTo_36 : decode cX6_weightTo 36 = .ok (.iload_n 1, 1) := by decide +kernel
theorem dX6_weightTo_37 : decode cX6_weightTo 37 = .ok (.aaload, 1) := by decide +kernel
theorem dX6_weightTo_38 : decode cX6_weightTo 38 = .ok (.iload 4, 2) := by decide +kernel
theorem dX6_weightTo_40 : decode cX6_weightTo 40 = .ok (.iaload, 1) := by decide +kernel
theorem dX6_weightTo_41 : decode cX6_weightTo 41 = .ok (.iadd, 1) := by decide +kernel
theorem dX6_weightTo_42 : decode cX6_weightTo 42 = .ok (.istore_n 3, 1) := by decide +kernel
theorem dX6_weightTo_43 : decode cX6_weightTo 43 = .ok (.iinc 4 1, 3) := by decide +kernel
theorem dX6_weightTo_46 : decode cX6_weightTo 46 = .ok (.goto (-41), 3) := by decide +kernel
theorem dX6_weightTo_49 : decode cX6_weightTo 49 = .ok (.iload_n 3, 1) := by decide +kernel
theorem dX6_weightTo_50 : decode cX6_weightTo 50 = .ok (.ireturn, 1) := by decide +kernel
theorem dX7_init_0 : decode cX7_init 0 = .ok (.aload_n 0, 1) := by decide +kernel
theorem dX7_init_1 : decode cX7_init 1 = .ok (.invokespecial 3, 3) := by decide +kernel
theorem dX7_init_4 : decode cX7_init 4 = .ok (.aload_n 0, 1) := by decide +kernel
theorem dX7_init_5 : decode cX7_init 5 = .ok (.aload_n 1, 1) := by decide +kernel
theorem dX7_init_6 : decode cX7_init 6 = .ok (.putfield 9, 3) := by decide +kernel
theorem dX7_init_9 : decode cX7_init 9 = .ok (.aload_n 0, 1) := by decide +kernel
theorem dX7_init_10 : decode cX7_init 10 = .ok (.bipush 6, 2) := by decide +kernel
theorem dX7_init_12 : decode cX7_init 12 = .ok (.newarray .long, 2) := by decide +kernel
theorem dX7_init_14 : decode cX7_init 14 = .ok (.putfield 15, 3) := by decide +kernel
theorem dX7_init_17 : decode cX7_init 17 = .ok (.aload_n 0, 1) := by decide +kernel
theorem dX7_init_18 : decode cX7_init 18 = .ok (.bipush 6, 2) := by decide +kernel
theorem dX7_init_20 : decode cX7_init 20 = .ok (.newarray .int, 2) := by decide +kernel
theorem dX7_init_22 : decode cX7_init 22 = .ok (.putfield 19, 3) := by decide +kernel
theorem dX7_init_25 : decode cX7_init 25 = .ok (.aload_n 0, 1) := by decide +kernel
theorem dX7_init_26 : decode cX7_init 26 = .ok (.bipush 32, 2) := by decide +kernel
theorem dX7_init_28 : decode cX7_init 28 = .ok (.newarray .long, 2) := by decide +kernel
theorem dX7_init_30 : decode cX7_init 30 = .ok (.putfield 23, 3) := by decide +kernel
theorem dX7_init_33 : decode cX7_init 33 = .ok (.return_, 1) := by decide +kernel
set_option maxRecDepth 20000 in
theorem ggX7_countRests_X7_restOf : GoodIn wsX7_countRests wsX7_restOf := goodIn_r _ [8, 1, 2, 9, 10, 11, 12, 7, 13, 14, 15, 16, 17, 18, 19, 20, 21, 22, 23, 24, 25, 26, 27, 28, 29, 30, 31, 32, 33, 34, 35, 36, 37, 38, 39] (by decide +kernel) (by decide +kernel)
set_option maxRecDepth 20000 in
theorem gX7_countRests_X7_restOf : GoodIn wsX7_countRests (wsV RX7 32 RX7 yX7_restOf wsX7_restOf) := goodIn_app (goodIn_of _ (by decide +kernel)) ggX7_countRests_X7_restOf
theorem dX7_countRests_0 : decode cX7_countRests 0 = .ok (.iconst 0, 1) := by decide +kernel
theorem dX7_countRests_1 : decode cX7_countRests 1 = .ok (.istore_n 1, 1) := by decide +kernel
theorem dX7_countRests_2 : decode cX7_countRests 2 = .ok (.iload_n 1, 1) := by decide +kernel
theorem dX7_countRests_3 : decode cX7_countRests 3 = .ok (.aload_n 0, 1) := by decide +kernel
theorem dX7_countRests_4 : decode cX7_countRests 4 = .ok (.getfield 9, 3) := by decide +kernel
theorem dX7_countRests_7 : decode cX7_countRests 7 = .ok (.getfield 26, 3) := by decide +kernel
theorem dX7_countRests_10 : decode cX7_countRests 10 = .ok (.if_icmp .ge 20, 3) := by decide +kernel
theorem dX7_countRests_13 : decode cX7_countRests 13 = .ok (.aload_n 0, 1) := by decide +kernel
theorem dX7_countRests_14 : decode cX7_countRests 14 = .ok (.getfield 15, 3) := by decide +kernel
theorem dX7_countRests_17 : decode cX7_countRests 17 = .ok (.iload_n 1, 1) := by decide +kernel
theorem dX7_countRests_18 : decode cX7_countRests 18 = .ok (.aload_n 0, 1) := by decide +kernel
theorem dX7_countRests_19 : decode cX7_countRests 19 = .ok (.iload_n 1, 1) := by decide +kernel
theorem dX7_countRests_20 : decode cX7_countRests 20 = .ok (.invokevirtual 32, 3) := by decide +kernel
theorem dX7_countRests_23 : decode cX7_countRests 23 = .ok (.lastore, 1) := by decide +kernel
theorem dX7_countRests_24 : decode cX7_countRests 24 = .ok (.iinc 1 1, 3) := by decide +kernel
theorem dX7_countRests_27 : decode cX7_countRests 27 = .ok (.goto (-25), 3) := by decide +kernel
theorem dX7_countRests_30 : decode cX7_countRests 30 = .ok (.return_, 1) := by decide +kernel
set_option maxRecDepth 20000 in
theorem ggX7_wholeRest_X7_countRests : GoodIn wsX7_wholeRest wsX7_countRests := goodIn_r _ [8, 1, 2, 3, 9, 10, 11, 7, 12, 13, 14, 15, 16, 17, 18, 19, 20, 21, 22, 23, 24, 25, 26, 27, 28, 29, 30, 31, 32, 33, 34, 35, 36, 37, 38, 39, 40, 41, 42, 43] (by decide +kernel) (by decide +kernel)
set_option maxRecDepth 20000 in
theorem gX7_wholeRest_X7_countRests : GoodIn wsX7_wholeRest (wsV RX7 36 RX7 yX7_countRests wsX7_countRests) := goodIn_app (goodIn_of _ (by decide +kernel)) ggX7_wholeRest_X7_countRests
theorem dX7_wholeRest_0 : decode cX7_wholeRest 0 = .ok (.aload_n 0, 1) := by decide +kernel
theorem dX7_wholeRest_1 : decode cX7_wholeRest 1 = .ok (.invokevirtual 36, 3) := by decide +kernel
theorem dX7_wholeRest_4 : decode cX7_wholeRest 4 = .ok (.lconst 0, 1) := by decide +kernel
theorem dX7_wholeRest_5 : decode cX7_wholeRest 5 = .ok (.lstore_n 1, 1) := by decide +kernel
theorem dX7_wholeRest_6 : decode cX7_wholeRest 6 = .ok (.iconst 0, 1) := by decide +kernel
theorem dX7_wholeRest_7 : decode cX7_wholeRest 7 = .ok (.istore_n 3, 1) := by decide +kernel
theorem dX7_wholeRest_8 : decode cX7_wholeRest 8 = .ok (.iload_n 3, 1) := by decide +kernel
theorem dX7_wholeRest_9 : decode cX7_wholeRest 9 = .ok (.aload_n 0, 1) := by decide +kernel
theorem dX7_wholeRest_10 : decode cX7_wholeRest 10 = .ok (.getfield 9, 3) := by decide +kernel
theorem dX7_wholeRest_13 : decode cX7_wholeRest 13 = .ok (.getfield 26, 3) := by decide +kernel
theorem dX7_wholeRest_16 : decode cX7_wholeRest 16 = .ok (.if_icmp .ge 18, 3) := by decide +kernel
theorem dX7_wholeRest_19 : decode cX7_wholeRest 19 = .ok (.lload_n 1, 1) := by decide +kernel
theorem dX7_wholeRest_20 : decode cX7_wholeRest 20 = .ok (.aload_n 0, 1) := by decide +kernel
theorem dX7_wholeRest_21 : decode cX7_wholeRest 21 = .ok (.getfield 15, 3) := by decide +kernel
theorem dX7_wholeRest_24 : decode cX7_wholeRest 24 = .ok (.iload_n 3, 1) := by decide +kernel
theorem dX7_wholeRest_25 : decode cX7_wholeRest 25 = .ok (.laload, 1) := by decide +kernel
theorem dX7_wholeRest_26 : decode cX7_wholeRest 26 = .ok (.ladd, 1) := by decide +kernel
theorem dX7_wholeRest_27 : decode cX7_wholeRest 27 = .ok (.lstore_n 1, 1) := by decide +kernel
theorem dX7_wholeRest_28 : decode cX7_wholeRest 28 = .ok (.iinc 3 1, 3) := by decide +kernel
theorem dX7_wholeRest_31 : decode cX7_wholeRest 31 = .ok (.goto (-23), 3) := by decide +kernel
theorem dX7_wholeRest_34 : decode cX7_wholeRest 34 = .ok (.lload_n 1, 1) := by decide +kernel
theorem dX7_wholeRest_35 : decode cX7_wholeRest 35 = .ok (.lreturn, 1) := by decide +kernel
set_option maxRecDepth 20000 in
theorem ggX7_restOf_X7_listOthers : GoodIn wsX7_restOf wsX7_listOthers := goodIn_r _ [8, 1, 2, 9, 27, 28, 29, 30, 31, 32, 33, 34] (by decide +kernel) (by decide +kernel)
set_option maxRecDepth 20000 in
theorem gX7_restOf_X7_listOthers : GoodIn wsX7_restOf (wsV RX7 39 RX7 yX7_listOthers wsX7_listOthers) := goodIn_app (goodIn_of _ (by decide +kernel)) ggX7_restOf_X7_listOthers
set_option maxRecDepth 20000 in
theorem ggX7_restOf_X7_minorOf : GoodIn wsX7_restOf wsX7_minorOf := goodIn_r _ [13, 9, 3, 14, 15, 16, 17, 18, 19, 20, 21, 22, 23, 7, 24, 1, 25, 26, 27, 28, 29, 30, 31, 32, 33, 34] (by decide +kernel) (by decide +kernel)
set_option maxRecDepth 20000 in
theorem gX7_restOf_X7_minorOf : GoodIn wsX7_restOf (wsV RX7 43 RX7 yX7_minorOf wsX7_minorOf) := goodIn_app (goodIn_of _ (by decide +kernel)) ggX7_restOf_X7_minorOf
theorem dX7_restOf_0 : decode cX7_restOf 0 = .ok (.aload_n 0, 1) := by decide +kernel
theorem dX7_restOf_1 : decode cX7_restOf 1 = .ok (.iload_n 1, 1) := by decide +kernel
theorem dX7_restOf_2 : decode cX7_restOf 2 = .ok (.invokevirtual 39, 3) := by decide +kernel
theorem dX7_restOf_5 : decode cX7_restOf 5 = .ok (.aload_n 0, 1) := by decide +kernel
theorem dX7_restOf_6 : decode cX7_restOf 6 = .ok (.getfield 9, 3) := by decide +kernel
theorem dX7_restOf_9 : decode cX7_restOf 9 = .ok (.getfield 26, 3) := by decide +kernel
theorem dX7_restOf_12 : decode cX7_restOf 12 = .ok (.iconst 1, 1) := by decide +kernel
theorem dX7_restOf_13 : decode cX7_restOf 13 = .ok (.isub, 1) := by decide +kernel
theorem dX7_restOf_14 : decode cX7_restOf 14 = .ok (.istore_n 2, 1) := by decide +kernel
theorem dX7_restOf_15 : decode cX7_restOf 15 = .ok (.aload_n 0, 1) := by decide +kernel
theorem dX7_restOf_16 : decode cX7_restOf 16 = .ok (.getfield 23, 3) := by decide +kernel
theorem dX7_restOf_19 : decode cX7_restOf 19 = .ok (.iconst 0, 1) := by decide +kernel
theorem dX7_restOf_20 : decode cX7_restOf 20 = .ok (.lconst 1, 1) := by decide +kernel
theorem dX7_restOf_21 : decode cX7_restOf 21 = .ok (.lastore, 1) := by decide +kernel
theorem dX7_restOf_22 : decode cX7_restOf 22 = .ok (.iconst 1, 1) := by decide +kernel
theorem dX7_restOf_23 : decode cX7_restOf 23 = .ok (.istore_n 3, 1) := by decide +kernel
theorem dX7_restOf_24 : decode cX7_restOf 24 = .ok (.iload_n 3, 1) := by decide +kernel
theorem dX7_restOf_25 : decode cX7_restOf 25 = .ok (.iconst 1, 1) := by decide +kernel
theorem dX7_restOf_26 : decode cX7_restOf 26 = .ok (.iload_n 2, 1) := by decide +kernel
theorem dX7_restOf_27 : decode cX7_restOf 27 = .ok (.ishl, 1) := by decide +kernel
theorem dX7_restOf_28 : decode cX7_restOf 28 = .ok (.if_icmp .ge 21, 3) := by decide +kernel
theorem dX7_restOf_31 : decode cX7_restOf 31 = .ok (.aload_n 0, 1) := by decide +kernel
theorem dX7_restOf_32 : decode cX7_restOf 32 = .ok (.getfield 23, 3) := by decide +kernel
theorem dX7_restOf_35 : decode cX7_restOf 35 = .ok (.iload_n 3, 1) := by decide +kernel
theorem dX7_restOf_36 : decode cX7_restOf 36 = .ok (.aload_n 0, 1) := by decide +kernel
theorem dX7_restOf_37 : decode cX7_restOf 37 = .ok (.iload_n 3, 1) := by decide +kernel
theorem dX7_restOf_38 : decode cX7_restOf 38 = .ok (.iload_n 2, 1) := by decide +kernel
theorem dX7_restOf_39 : decode cX7_restOf 39 = .ok (.invokevirtual 43, 3) := by decide +kernel
theorem dX7_restOf_42 : decode cX7_restOf 42 = .ok (.lastore, 1) := by decide +kernel
theorem dX7_restOf_43 : decode cX7_restOf 43 = .ok (.iinc 3 1, 3) := by decide +kernel
theorem dX7_restOf_46 : decode cX7_restOf 46 = .ok (.goto (-22), 3) := by decide +kernel
theorem dX7_restOf_49 : decode cX7_restOf 49 = .ok (.aload_n 0, 1) := by decide +kernel
theorem dX7_restOf_50 : decode cX7_restOf 50 = .ok (.getfield 23, 3) := by decide +kernel
theorem dX7_restOf_53 : decode cX7_restOf 53 = .ok (.iconst 1, 1) := by decide +kernel
theorem dX7_restOf_54 : decode cX7_restOf 54 = .ok (.iload_n 2, 1) := by decide +kernel
theorem dX7_restOf_55 : decode cX7_restOf 55 = .ok (.ishl, 1) := by decide +kernel
theorem dX7_restOf_56 : decode cX7_restOf 56 = .ok (.iconst 1, 1) := by decide +kernel
theorem dX7_restOf_57 : decode cX7_restOf 57 = .ok (.isub, 1) := by decide +kernel
theorem dX7_restOf_58 : decode cX7_restOf 58 = .ok (.laload, 1) := by decide +kernel
theorem dX7_restOf_59 : decode cX7_restOf 59 = .ok (.lreturn, 1) := by decide +kernel
theorem dX7_listOthers_0 : decode cX7_listOthers 0 = .ok (.iconst 0, 1) := by decide +kernel
theorem dX7_listOthers_1 : decode cX7_listOthers 1 = .ok (.istore_n 2, 1) := by decide +kernel
theorem dX7_listOthers_2 : decode cX7_listOthers 2 = .ok (.iload_n 2, 1) := by decide +kernel
theorem dX7_listOthers_3 : decode cX7_listOthers 3 = .ok (.aload_n 0, 1) := by decide +kernel
theorem dX7_listOthers_4 : decode cX7_listOthers 4 = .ok (.getfield 9, 3) := by decide +kernel
theorem dX7_listOthers_7 : decode cX7_listOthers 7 = .ok (.getfield 26, 3) := by decide +kernel
theorem dX7_listOthers_10 : decode cX7_listOthers 10 = .ok (.if_icmp .ge 32, 3) := by decide +kernel
theorem dX7_listOthers_13 : decode cX7_listOthers 13 = .ok (.iload_n 2, 1) := by decide +kernel
theorem dX7_listOthers_14 : decode cX7_listOthers 14 = .ok (.iload_n 1, 1) := by decide +kernel
theorem dX7_listOthers_15 : decode cX7_listOthers 15 = .ok (.if_icmp .eq 21, 3) := by decide +kernel
theorem dX7_listOthers_18 : decode cX7_listOthers 18 = .ok (.aload_n 0, 1) := by decide +kernel
theorem dX7_listOthers_19 : decode cX7_listOthers 19 = .ok (.getfield 19, 3) := by decide +kernel
theorem dX7_listOthers_22 : decode cX7_listOthers 22 = .ok (.iload_n 2, 1) := by decide +kernel
theorem dX7_listOthers_23 : decode cX7_listOthers 23 = .ok (.iload_n 1, 1) := by decide +kernel
theorem dX7_listOthers_24 : decode cX7_listOthers 24 = .ok (.if_icmp .ge 7, 3) := by decide +kernel
theorem dX7_listOthers_27 : decode cX7_listOthers 27 = .ok (.iload_n 2, 1) := by decide +kernel
theorem dX7_listOthers_28 : decode cX7_listOthers 28 = .ok (.goto 6, 3) := by decide +kernel
theorem dX7_listOthers_31 : decode cX7_listOthers 31 = .ok (.iload_n 2, 1) := by decide +kernel
theorem dX7_listOthers_32 : decode cX7_listOthers 32 = .ok (.iconst 1, 1) := by decide +kernel
theorem dX7_listOthers_33 : decode cX7_listOthers 33 = .ok (.isub, 1) := by decide +kernel
theorem dX7_listOthers_34 : decode cX7_listOthers 34 = .ok (.iload_n 2, 1) := by decide +kernel
theorem dX7_listOthers_35 : decode cX7_listOthers 35 = .ok (.iastore, 1) := by decide +kernel
theorem dX7_listOthers_36 : decode cX7_listOthers 36 = .ok (.iinc 2 1, 3) := by decide +kernel
theorem dX7_listOthers_39 : decode cX7_listOthers 39 = .ok (.goto (-37), 3) := by decide +kernel
theorem dX7_listOthers_42 : decode cX7_listOthers 42 = .ok (.return_, 1) := by decide +kernel
set_option maxRecDepth 20000 in
theorem ggX7_minorOf_J6_bitCount_0f7a4 : GoodIn wsX7_minorOf wsJ6_bitCount_0f7a4 := goodIn_r _ [6, 7, 8, 9] (by decide +kernel) (by decide +kernel)
set_option maxRecDepth 20000 in
theorem gX7_minorOf_J6_bitCount_0f7a4 : GoodIn wsX7_minorOf (va_wsS RX7 47 yJ6_bitCount_0f7a4 wsJ6_bitCount_0f7a4) := goodIn_app (goodIn_of _ (by decide +kernel)) ggX7_minorOf_J6_bitCount_0f7a4
set_option maxRecDepth 20000 in
theorem ggX7_minorOf_X7_entry : GoodIn wsX7_minorOf wsX7_entry := goodIn_r _ [14, 15, 16, 17, 18, 19, 20, 21, 22, 23, 24, 25] (by decide +kernel) (by decide +kernel)
set_option maxRecDepth 20000 in
theorem gX7_minorOf_X7_entry : GoodIn wsX7_minorOf (wsV RX7 53 RX7 yX7_entry wsX7_entry) := goodIn_app (goodIn_of _ (by decide +kernel)) ggX7_minorOf_X7_entry
theorem dX7_minorOf_0 : decode cX7_minorOf 0 = .ok (.aload_n 0, 1) := by decide +kernel
theorem dX7_minorOf_1 : decode cX7_minorOf 1 = .ok (.getfield 19, 3) := by decide +kernel
theorem dX7_minorOf_4 : decode cX7_minorOf 4 = .ok (.iload_n 1, 1) := by decide +kernel
theorem dX7_minorOf_5 : decode cX7_minorOf 5 = .ok (.invokestatic 47, 3) := by decide +kernel
theorem dX7_minorOf_8 : decode cX7_minorOf 8 = .ok (.iconst 1, 1) := by decide +kernel
theorem dX7_minorOf_9 : decode cX7_minorOf 9 = .ok (.isub, 1) := by decide +kernel
theorem dX7_minorOf_10 : decode cX7_minorOf 10 = .ok (.iaload, 1) := by decide +kernel
theorem dX7_minorOf_11 : decode cX7_minorOf 11 = .ok (.istore_n 3, 1) := by decide +kernel
theorem dX7_minorOf_12 : decode cX7_minorOf 12 = .ok (.lconst 0, 1) := by decide +kernel
theorem dX7_minorOf_13 : decode cX7_minorOf 13 = .ok (.lstore 4, 2) := by decide +kernel
theorem dX7_minorOf_15 : decode cX7_minorOf 15 = .ok (.iconst 1, 1) := by decide +kernel
theorem dX7_minorOf_16 : decode cX7_minorOf 16 = .ok (.istore 6, 2) := by decide +kernel
theorem dX7_minorOf_18 : decode cX7_minorOf 18 = .ok (.iload_n 2, 1) := by decide +kernel
theorem dX7_minorOf_19 : decode cX7_minorOf 19 = .ok (.iconst 1, 1) := by decide +kernel
theorem dX7_minorOf_20 : decode cX7_minorOf 20 = .ok (.isub, 1) := by decide +kernel
theorem dX7_minorOf_21 : decode cX7_minorOf 21 = .ok (.istore 7, 2) := by decide +kernel
theorem dX7_minorOf_23 : decode cX7_minorOf 23 = .ok (.iload 7, 2) := by decide +kernel
theorem dX7_minorOf_25 : decode cX7_minorOf 25 = .ok (.ifCond .lt 58, 3) := by decide +kernel
theorem dX7_minorOf_28 : decode cX7_minorOf 28 = .ok (.iload_n 1, 1) := by decide +kernel
theorem dX7_minorOf_29 : decode cX7_minorOf 29 = .ok (.iconst 1, 1) := by decide +kernel
theorem dX7_minorOf_30 : decode cX7_minorOf 30 = .ok (.iload 7, 2) := by decide +kernel
theorem dX7_minorOf_32 : decode cX7_minorOf 32 = .ok (.ishl, 1) := by decide +kernel
theorem dX7_minorOf_33 : decode cX7_minorOf 33 = .ok (.iand, 1) := by decide +kernel
theorem dX7_minorOf_34 : decode cX7_minorOf 34 = .ok (.ifCond .eq 43, 3) := by decide +kernel
theorem dX7_minorOf_37 : decode cX7_minorOf 37 = .ok (.lload 4, 2) := by decide +kernel
theorem dX7_minorOf_39 : decode cX7_minorOf 39 = .ok (.iload 6, 2) := by decide +kernel
theorem dX7_minorOf_41 : decode cX7_minorOf 41 = .ok (.i2l, 1) := by decide +kernel
theorem dX7_minorOf_42 : decode cX7_minorOf 42 = .ok (.aload_n 0, 1) := by decide +kernel
theorem dX7_minorOf_43 : decode cX7_minorOf 43 = .ok (.iload_n 3, 1) := by decide +kernel
theorem dX7_minorOf_44 : decode cX7_minorOf 44 = .ok (.aload_n 0, 1) := by decide +kernel
theorem dX7_minorOf_45 : decode cX7_minorOf 45 = .ok (.getfield 19, 3) := by decide +kernel
theorem dX7_minorOf_48 : decode cX7_minorOf 48 = .ok (.iload 7, 2) := by decide +kernel
theorem dX7_minorOf_50 : decode cX7_minorOf 50 = .ok (.iaload, 1) := by decide +kernel
theorem dX7_minorOf_51 : decode cX7_minorOf 51 = .ok (.invokevirtual 53, 3) := by decide +kernel
theorem dX7_minorOf_54 : decode cX7_minorOf 54 = .ok (.lmul, 1) := by decide +kernel
theorem dX7_minorOf_55 : decode cX7_minorOf 55 = .ok (.aload_n 0, 1) := by decide +kernel
theorem dX7_minorOf_56 : decode cX7_minorOf 56 = .ok (.getfield 23, 3) := by decide +kernel
theorem dX7_minorOf_59 : decode cX7_minorOf 59 = .ok (.iload_n 1, 1) := by decide +kernel
theorem dX7_minorOf_60 : decode cX7_minorOf 60 = .ok (.iconst 1, 1) := by decide +kernel
theorem dX7_minorOf_61 : decode cX7_minorOf 61 = .ok (.iload 7, 2) := by decide +kernel
theorem dX7_minorOf_63 : decode cX7_minorOf 63 = .ok (.ishl, 1) := by decide +kernel
theorem dX7_minorOf_64 : decode cX7_minorOf 64 = .ok (.iconst (-1), 1) := by decide +kernel
theorem dX7_minorOf_65 : decode cX7_minorOf 65 = .ok (.ixor, 1) := by decide +kernel
theorem dX7_minorOf_66 : decode cX7_minorOf 66 = .ok (.iand, 1) := by decide +kernel
theorem dX7_minorOf_67 : decode cX7_minorOf 67 = .ok (.laload, 1) := by decide +kernel
theorem dX7_minorOf_68 : decode cX7_minorOf 68 = .ok (.lmul, 1) := by decide +kernel
theorem dX7_minorOf_69 : decode cX7_minorOf 69 = .ok (.ladd, 1) := by decide +kernel
theorem dX7_minorOf_70 : decode cX7_minorOf 70 = .ok (.lstore 4, 2) := by decide +kernel
theorem dX7_minorOf_72 : decode cX7_minorOf 72 = .ok (.iload 6, 2) := by decide +kernel
theorem dX7_minorOf_74 : decode cX7_minorOf 74 = .ok (.ineg, 1) := by decide +kernel
theorem dX7_minorOf_75 : decode cX7_minorOf 75 = .ok (.istore 6, 2) := by decide +kernel
theorem dX7_minorOf_77 : decode cX7_minorOf 77 = .ok (.iinc 7 (-1), 3) := by decide +kernel
theorem dX7_minorOf_80 : decode cX7_minorOf 80 = .ok (.goto (-57), 3) := by decide +kernel
theorem dX7_minorOf_83 : decode cX7_minorOf 83 = .ok (.lload 4, 2) := by decide +kernel
theorem dX7_minorOf_85 : decode cX7_minorOf 85 = .ok (.lreturn, 1) := by decide +kernel
theorem dX7_entry_0 : decode cX7_entry 0 = .ok (.iload_n 1, 1) := by decide +kernel
theorem dX7_entry_1 : decode cX7_entry 1 = .ok (.iload_n 2, 1) := by decide +kernel
theorem dX7_entry_2 : decode cX7_entry 2 = .ok (.if_icmp .ne 26, 3) := by decide +kernel
theorem dX7_entry_5 : decode cX7_entry 5 = .ok (.aload_n 0, 1) := by decide +kernel
theorem dX7_entry_6 : decode cX7_entry 6 = .ok (.getfield 9, 3) := by decide +kernel
theorem dX7_entry_9 : decode cX7_entry 9 = .ok (.getfield 56, 3) := by decide +kernel
theorem dX7_entry_12 : decode cX7_entry 12 = .ok (.aload_n 0, 1) := by decide +kernel
theorem dX7_entry_13 : decode cX7_entry 13 = .ok (.getfield 9, 3) := by decide +kernel
theorem dX7_entry_16 : decode cX7_entry 16 = .ok (.getfield 59, 3) := by decide +kernel
theorem dX7_entry_19 : decode cX7_entry 19 = .ok (.iload_n 1, 1) := by decide +kernel
theorem dX7_entry_20 : decode cX7_entry 20 = .ok (.aaload, 1) := by decide +kernel
theorem dX7_entry_21 : decode cX7_entry 21 = .ok (.iload_n 1, 1) := by decide +kernel
theorem dX7_entry_22 : decode cX7_entry 22 = .ok (.iaload, 1) := by decide +kernel
theorem dX7_entry_23 : decode cX7_entry 23 = .ok (.isub, 1) := by decide +kernel
theorem dX7_entry_24 : decode cX7_entry 24 = .ok (.i2l, 1) := by decide +kernel
theorem dX7_entry_25 : decode cX7_entry 25 = .ok (.goto 16, 3) := by decide +kernel
theorem dX7_entry_28 : decode cX7_entry 28 = .ok (.aload_n 0, 1) := by decide +kernel
theorem dX7_entry_29 : decode cX7_entry 29 = .ok (.getfield 9, 3) := by decide +kernel
theorem dX7_entry_32 : decode cX7_entry 32 = .ok (.getfield 59, 3) := by decide +kernel
theorem dX7_entry_35 : decode cX7_entry 35 = .ok (.iload_n 1, 1) := by decide +kernel
theorem dX7_entry_36 : decode cX7_entry 36 = .ok (.aaload, 1) := by decide +kernel
theorem dX7_entry_37 : decode cX7_entry 37 = .ok (.iload_n 2, 1) := by decide +kernel
theorem dX7_entry_38 : decode cX7_entry 38 = .ok (.iaload, 1) := by decide +kernel
theorem dX7_entry_39 : decode cX7_entry 39 = .ok (.ineg, 1) := by decide +kernel
theorem dX7_entry_40 : decode cX7_entry 40 = .ok (.i2l, 1) := by decide +kernel
theorem dX7_entry_41 : decode cX7_entry 41 = .ok (.lreturn, 1) := by decide +kernel
theorem dX7_countAhead_0 : decode cX7_countAhead 0 = .ok (.iconst 0, 1) := by decide +kernel
theorem dX7_countAhead_1 : decode cX7_countAhead 1 = .ok (.istore_n 2, 1) := by decide +kernel
theorem dX7_countAhead_2 : decode cX7_countAhead 2 = .ok (.iconst 0, 1) := by decide +kernel
theorem dX7_countAhead_3 : decode cX7_countAhead 3 = .ok (.istore_n 3, 1) := by decide +kernel
theorem dX7_countAhead_4 : decode cX7_countAhead 4 = .ok (.iload_n 3, 1) := by decide +kernel
theorem dX7_countAhead_5 : decode cX7_countAhead 5 = .ok (.aload_n 0, 1) := by decide +kernel
theorem dX7_countAhead_6 : decode cX7_countAhead 6 = .ok (.getfield 9, 3) := by decide +kernel
theorem dX7_countAhead_9 : decode cX7_countAhead 9 = .ok (.getfield 26, 3) := by decide +kernel
theorem dX7_countAhead_12 : decode cX7_countAhead 12 = .ok (.if_icmp .ge 49, 3) := by decide +kernel
theorem dX7_countAhead_15 : decode cX7_countAhead 15 = .ok (.aload_n 0, 1) := by decide +kernel
theorem dX7_countAhead_16 : decode cX7_countAhead 16 = .ok (.getfield 15, 3) := by decide +kernel
theorem dX7_countAhead_19 : decode cX7_countAhead 19 = .ok (.iload_n 3, 1) := by decide +kernel
theorem dX7_countAhead_20 : decode cX7_countAhead 20 = .ok (.laload, 1) := by decide +kernel
theorem dX7_countAhead_21 : decode cX7_countAhead 21 = .ok (.aload_n 0, 1) := by decide +kernel
theorem dX7_countAhead_22 : decode cX7_countAhead 22 = .ok (.getfield 15, 3) := by decide +kernel
theorem dX7_countAhead_25 : decode cX7_countAhead 25 = .ok (.iload_n 1, 1) := by decide +kernel
theorem dX7_countAhead_26 : decode cX7_countAhead 26 = .ok (.laload, 1) := by decide +kernel
theorem dX7_countAhead_27 : decode cX7_countAhead 27 = .ok (.lcmp, 1) := by decide +kernel
theorem dX7_countAhead_28 : decode cX7_countAhead 28 = .ok (.ifCond .gt 24, 3) := by decide +kernel
theorem dX7_countAhead_31 : decode cX7_countAhead 31 = .ok (.aload_n 0, 1) := by decide +kernel
theorem dX7_countAhead_32 : decode cX7_countAhead 32 = .ok (.getfield 15, 3) := by decide +kernel
theorem dX7_countAhead_35 : decode cX7_countAhead 35 = .ok (.iload_n 3, 1) := by decide +kernel
theorem dX7_countAhead_36 : decode cX7_countAhead 36 = .ok (.laload, 1) := by decide +kernel
theorem dX7_countAhead_37 : decode cX7_countAhead 37 = .ok (.aload_n 0, 1) := by decide +kernel
theorem dX7_countAhead_38 : decode cX7_countAhead 38 = .ok (.getfield 15, 3) := by decide +kernel
theorem dX7_countAhead_41 : decode cX7_countAhead 41 = .ok (.iload_n 1, 1) := by decide +kernel
theorem dX7_countAhead_42 : decode cX7_countAhead 42 = .ok (.laload, 1) := by decide +kernel
theorem dX7_countAhead_43 : decode cX7_countAhead 43 = .ok (.lcmp, 1) := by decide +kernel
theorem dX7_countAhead_44 : decode cX7_countAhead 44 = .ok (.ifCond .ne 11, 3) := by decide +kernel
theorem dX7_countAhead_47 : decode cX7_countAhead 47 = .ok (.iload_n 3, 1) := by decide +kernel
theorem dX7_countAhead_48 : decode cX7_countAhead 48 = .ok (.iload_n 1, 1) := by decide +kernel
theorem dX7_countAhead_49 : decode cX7_countAhead 49 = .ok (.if_icmp .ge 6, 3) := by decide +kernel
theorem dX7_countAhead_52 : decode cX7_countAhead 52 = .ok (.iinc 2 1, 3) := by decide +kernel
theorem dX7_countAhead_55 : decode cX7_countAhead 55 = .ok (.iinc 3 1, 3) := by decide +kernel
theorem dX7_countAhead_58 : decode cX7_countAhead 58 = .ok (.goto (-54), 3) := by decide +kernel
theorem dX7_countAhead_61 : decode cX7_countAhead 61 = .ok (.iload_n 2, 1) := by decide +kernel
theorem dX7_countAhead_62 : decode cX7_countAhead 62 = .ok (.ireturn, 1) := by decide +kernel
set_option maxRecDepth 20000 in
theorem ggX7_isTheSameBackwards_X7_wholeRest : GoodIn wsX7_isTheSameBackwards wsX7_wholeRest := goodIn_r _ [9, 1, 2, 3, 10, 11, 12, 8, 13, 14, 15, 16, 17, 18, 19, 20, 21, 22, 23, 24, 25, 26, 27, 28, 29, 30, 31, 32, 33, 34, 35, 36, 37, 38, 39, 4, 40, 41, 42, 43, 44, 45, 46, 47] (by decide +kernel) (by decide +kernel)
set_option maxRecDepth 20000 in
theorem gX7_isTheSameBackwards_X7_wholeRest : GoodIn wsX7_isTheSameBackwards (wsV RX7 63 RX7 yX7_wholeRest wsX7_wholeRest) := goodIn_app (goodIn_of _ (by decide +kernel)) ggX7_isTheSameBackwards_X7_wholeRest
theorem dX7_isTheSameBackwards_0 : decode cX7_isTheSameBackwards 0 = .ok (.aload_n 0, 1) := by decide +kernel
theorem dX7_isTheSameBackwards_1 : decode cX7_isTheSameBackwards 1 = .ok (.invokevirtual 63, 3) := by decide +kernel
theorem dX7_isTheSameBackwards_4 : decode cX7_isTheSameBackwards 4 = .ok (.lconst 0, 1) := by decide +kernel
theorem dX7_isTheSameBackwards_5 : decode cX7_isTheSameBackwards 5 = .ok (.lcmp, 1) := by decide +kernel
theorem dX7_isTheSameBackwards_6 : decode cX7_isTheSameBackwards 6 = .ok (.ifCond .ne 5, 3) := by decide +kernel
theorem dX7_isTheSameBackwards_9 : decode cX7_isTheSameBackwards 9 = .ok (.iconst 0, 1) := by decide +kernel
theorem dX7_isTheSameBackwards_10 : decode cX7_isTheSameBackwards 10 = .ok (.ireturn, 1) := by decide +kernel
theorem dX7_isTheSameBackwards_11 : decode cX7_isTheSameBackwards 11 = .ok (.iconst 0, 1) := by decide +kernel
theorem dX7_isTheSameBackwards_12 : decode cX7_isTheSameBackwards 12 = .ok (.istore_n 1, 1) := by decide +kernel
theorem dX7_isTheSameBackwards_13 : decode cX7_isTheSameBackwards 13 = .ok (.iload_n 1, 1) := by decide +kernel
theorem dX7_isTheSameBackwards_14 : decode cX7_isTheSameBackwards 14 = .ok (.aload_n 0, 1) := by decide +kernel
theorem dX7_isTheSameBackwards_15 : decode cX7_isTheSameBackwards 15 = .ok (.getfield 9, 3) := by decide +kernel
theorem dX7_isTheSameBackwards_18 : decode cX7_isTheSameBackwards 18 = .ok (.getfield 26, 3) := by decide +kernel
theorem dX7_isTheSameBackwards_21 : decode cX7_isTheSameBackwards 21 = .ok (.if_icmp .ge 74, 3) := by decide +kernel
theorem dX7_isTheSameBackwards_24 : decode cX7_isTheSameBackwards 24 = .ok (.iload_n 1, 1) := by decide +kernel
theorem dX7_isTheSameBackwards_25 : decode cX7_isTheSameBackwards 25 = .ok (.iconst 1, 1) := by decide +kernel
theorem dX7_isTheSameBackwards_26 : decode cX7_isTheSameBackwards 26 = .ok (.iadd, 1) := by decide +kernel
theorem dX7_isTheSameBackwards_27 : decode cX7_isTheSameBackwards 27 = .ok (.istore_n 2, 1) := by decide +kernel
theorem dX7_isTheSameBackwards_28 : decode cX7_isTheSameBackwards 28 = .ok (.iload_n 2, 1) := by decide +kernel
theorem dX7_isTheSameBackwards_29 : decode cX7_isTheSameBackwards 29 = .ok (.aload_n 0, 1) := by decide +kernel
theorem dX7_isTheSameBackwards_30 : decode cX7_isTheSameBackwards 30 = .ok (.getfield 9, 3) := by decide +kernel
theorem dX7_isTheSameBackwards_33 : decode cX7_isTheSameBackwards 33 = .ok (.getfield 26, 3) := by decide +kernel
theorem dX7_isTheSameBackwards_36 : decode cX7_isTheSameBackwards 36 = .ok (.if_icmp .ge 53, 3) := by decide +kernel
theorem dX7_isTheSameBackwards_39 : decode cX7_isTheSameBackwards 39 = .ok (.aload_n 0, 1) := by decide +kernel
theorem dX7_isTheSameBackwards_40 : decode cX7_isTheSameBackwards 40 = .ok (.getfield 15, 3) := by decide +kernel
theorem dX7_isTheSameBackwards_43 : decode cX7_isTheSameBackwards 43 = .ok (.iload_n 1, 1) := by decide +kernel
theorem dX7_isTheSameBackwards_44 : decode cX7_isTheSameBackwards 44 = .ok (.laload, 1) := by decide +kernel
theorem dX7_isTheSameBackwards_45 : decode cX7_isTheSameBackwards 45 = .ok (.aload_n 0, 1) := by decide +kernel
theorem dX7_isTheSameBackwards_46 : decode cX7_isTheSameBackwards 46 = .ok (.getfield 9, 3) := by decide +kernel
theorem dX7_isTheSameBackwards_49 : decode cX7_isTheSameBackwards 49 = .ok (.getfield 59, 3) := by decide +kernel
theorem dX7_isTheSameBackwards_52 : decode cX7_isTheSameBackwards 52 = .ok (.iload_n 1, 1) := by decide +kernel
theorem dX7_isTheSameBackwards_53 : decode cX7_isTheSameBackwards 53 = .ok (.aaload, 1) := by decide +kernel
theorem dX7_isTheSameBackwards_54 : decode cX7_isTheSameBackwards 54 = .ok (.iload_n 2, 1) := by decide +kernel
theorem dX7_isTheSameBackwards_55 : decode cX7_isTheSameBackwards 55 = .ok (.iaload, 1) := by decide +kernel
theorem dX7_isTheSameBackwards_56 : decode cX7_isTheSameBackwards 56 = .ok (.i2l, 1) := by decide +kernel
theorem dX7_isTheSameBackwards_57 : decode cX7_isTheSameBackwards 57 = .ok (.lmul, 1) := by decide +kernel
theorem dX7_isTheSameBackwards_58 : decode cX7_isTheSameBackwards 58 = .ok (.aload_n 0, 1) := by decide +kernel
theorem dX7_isTheSameBackwards_59 : decode cX7_isTheSameBackwards 59 = .ok (.getfield 15, 3) := by decide +kernel
theorem dX7_isTheSameBackwards_62 : decode cX7_isTheSameBackwards 62 = .ok (.iload_n 2, 1) := by decide +kernel
theorem dX7_isTheSameBackwards_63 : decode cX7_isTheSameBackwards 63 = .ok (.laload, 1) := by decide +kernel
theorem dX7_isTheSameBackwards_64 : decode cX7_isTheSameBackwards 64 = .ok (.aload_n 0, 1) := by decide +kernel
theorem dX7_isTheSameBackwards_65 : decode cX7_isTheSameBackwards 65 = .ok (.getfield 9, 3) := by decide +kernel
theorem dX7_isTheSameBackwards_68 : decode cX7_isTheSameBackwards 68 = .ok (.getfield 59, 3) := by decide +kernel
theorem dX7_isTheSameBackwards_71 : decode cX7_isTheSameBackwards 71 = .ok (.iload_n 2, 1) := by decide +kernel
theorem dX7_isTheSameBackwards_72 : decode cX7_isTheSameBackwards 72 = .ok (.aaload, 1) := by decide +kernel
theorem dX7_isTheSameBackwards_73 : decode cX7_isTheSameBackwards 73 = .ok (.iload_n 1, 1) := by decide +kernel
theorem dX7_isTheSameBackwards_74 : decode cX7_isTheSameBackwards 74 = .ok (.iaload, 1) := by decide +kernel
theorem dX7_isTheSameBackwards_75 : decode cX7_isTheSameBackwards 75 = .ok (.i2l, 1) := by decide +kernel
theorem dX7_isTheSameBackwards_76 : decode cX7_isTheSameBackwards 76 = .ok (.lmul, 1) := by decide +kernel
theorem dX7_isTheSameBackwards_77 : decode cX7_isTheSameBackwards 77 = .ok (.lcmp, 1) := by decide +kernel
theorem dX7_isTheSameBackwards_78 : decode cX7_isTheSameBackwards 78 = .ok (.ifCond .eq 5, 3) := by decide +kernel
theorem dX7_isTheSameBackwards_81 : decode cX7_isTheSameBackwards 81 = .ok (.iconst 0, 1) := by decide +kernel
theorem dX7_isTheSameBackwards_82 : decode cX7_isTheSameBackwards 82 = .ok (.ireturn, 1) := by decide +kernel
theorem dX7_isTheSameBackwards_83 : decode cX7_isTheSameBackwards 83 = .ok (.iinc 2 1, 3) := by decide +kernel
theorem dX7_isTheSameBackwards_86 : decode cX7_isTheSameBackwards 86 = .ok (.goto (-58), 3) := by decide +kernel
theorem dX7_isTheSameBackwards_89 : decode cX7_isTheSameBackwards 89 = .ok (.iinc 1 1, 3) := by decide +kernel
theorem dX7_isTheSameBackwards_92 : decode cX7_isTheSameBackwards 92 = .ok (.goto (-79), 3) := by decide +kernel
theorem dX7_isTheSameBackwards_95 : decode cX7_isTheSameBackwards 95 = .ok (.iconst 1, 1) := by decide +kernel
theorem dX7_isTheSameBackwards_96 : decode cX7_isTheSameBackwards 96 = .ok (.ireturn, 1) := by decide +kernel
set_option maxRecDepth 20000 in
theorem ggX8_init_X0_init : GoodIn wsX8_init wsX0_init := goodIn_r _ [38, 39, 2, 3, 40, 41, 42, 43, 105, 106, 107, 108] (by decide +kernel) (by decide +kernel)
set_option maxRecDepth 20000 in
theorem gX8_init_X0_init : GoodIn wsX8_init (wsX0_init) := ggX8_init_X0_init
set_option maxRecDepth 20000 in
theorem ggX8_init_X5_init : GoodIn wsX8_init wsX5_init := goodIn_r _ [46, 47, 2, 3, 48, 49, 50, 51, 52, 117, 118, 119] (by decide +kernel) (by decide +kernel)
set_option maxRecDepth 20000 in
theorem gX8_init_X5_init : GoodIn wsX8_init (wsX5_init) := ggX8_init_X5_init
set_option maxRecDepth 20000 in
theorem ggX8_init_X2_init : GoodIn wsX8_init wsX2_init := goodIn_r _ [55, 56, 2, 3, 57, 58, 50, 59, 60, 120, 121, 122] (by decide +kernel) (by decide +kernel)
