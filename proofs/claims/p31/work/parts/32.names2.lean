theorem dX0_init_0 : decode cX0_init 0 = .ok (.aload_n 0, 1) := by decide +kernel
theorem dX0_init_1 : decode cX0_init 1 = .ok (.invokespecial 3, 3) := by decide +kernel
theorem dX0_init_4 : decode cX0_init 4 = .ok (.aload_n 0, 1) := by decide +kernel
theorem dX0_init_5 : decode cX0_init 5 = .ok (.bipush 6, 2) := by decide +kernel
theorem dX0_init_7 : decode cX0_init 7 = .ok (.bipush 12, 2) := by decide +kernel
theorem dX0_init_9 : decode cX0_init 9 = .ok (.multianewarray 9 2, 4) := by decide +kernel
theorem dX0_init_13 : decode cX0_init 13 = .ok (.putfield 11, 3) := by decide +kernel
theorem dX0_init_16 : decode cX0_init 16 = .ok (.aload_n 0, 1) := by decide +kernel
theorem dX0_init_17 : decode cX0_init 17 = .ok (.bipush 6, 2) := by decide +kernel
theorem dX0_init_19 : decode cX0_init 19 = .ok (.bipush 6, 2) := by decide +kernel
theorem dX0_init_21 : decode cX0_init 21 = .ok (.multianewarray 9 2, 4) := by decide +kernel
theorem dX0_init_25 : decode cX0_init 25 = .ok (.putfield 16, 3) := by decide +kernel
theorem dX0_init_28 : decode cX0_init 28 = .ok (.return_, 1) := by decide +kernel
set_option maxRecDepth 20000 in
theorem ggX0_setOut_J7_fill_53178 : GoodIn wsX0_setOut wsJ7_fill_53178 := goodIn_r _ [8] (by decide +kernel) (by decide +kernel)
set_option maxRecDepth 20000 in
theorem gX0_setOut_J7_fill_53178 : GoodIn wsX0_setOut (va_wsS RX0 26 yJ7_fill_53178 wsJ7_fill_53178) := goodIn_app (goodIn_of _ (by decide +kernel)) ggX0_setOut_J7_fill_53178
theorem dX0_setOut_0 : decode cX0_setOut 0 = .ok (.aload_n 0, 1) := by decide +kernel
theorem dX0_setOut_1 : decode cX0_setOut 1 = .ok (.iload_n 1, 1) := by decide +kernel
theorem dX0_setOut_2 : decode cX0_setOut 2 = .ok (.putfield 19, 3) := by decide +kernel
theorem dX0_setOut_5 : decode cX0_setOut 5 = .ok (.aload_n 0, 1) := by decide +kernel
theorem dX0_setOut_6 : decode cX0_setOut 6 = .ok (.iload_n 2, 1) := by decide +kernel
theorem dX0_setOut_7 : decode cX0_setOut 7 = .ok (.putfield 23, 3) := by decide +kernel
theorem dX0_setOut_10 : decode cX0_setOut 10 = .ok (.iconst 0, 1) := by decide +kernel
theorem dX0_setOut_11 : decode cX0_setOut 11 = .ok (.istore_n 3, 1) := by decide +kernel
theorem dX0_setOut_12 : decode cX0_setOut 12 = .ok (.iload_n 3, 1) := by decide +kernel
theorem dX0_setOut_13 : decode cX0_setOut 13 = .ok (.bipush 6, 2) := by decide +kernel
theorem dX0_setOut_15 : decode cX0_setOut 15 = .ok (.if_icmp .ge 38, 3) := by decide +kernel
theorem dX0_setOut_18 : decode cX0_setOut 18 = .ok (.aload_n 0, 1) := by decide +kernel
theorem dX0_setOut_19 : decode cX0_setOut 19 = .ok (.getfield 11, 3) := by decide +kernel
theorem dX0_setOut_22 : decode cX0_setOut 22 = .ok (.iload_n 3, 1) := by decide +kernel
theorem dX0_setOut_23 : decode cX0_setOut 23 = .ok (.aaload, 1) := by decide +kernel
theorem dX0_setOut_24 : decode cX0_setOut 24 = .ok (.iload_n 3, 1) := by decide +kernel
theorem dX0_setOut_25 : decode cX0_setOut 25 = .ok (.invokestatic 26, 3) := by decide +kernel
theorem dX0_setOut_28 : decode cX0_setOut 28 = .ok (.aload_n 0, 1) := by decide +kernel
theorem dX0_setOut_29 : decode cX0_setOut 29 = .ok (.getfield 16, 3) := by decide +kernel
theorem dX0_setOut_32 : decode cX0_setOut 32 = .ok (.iload_n 3, 1) := by decide +kernel
theorem dX0_setOut_33 : decode cX0_setOut 33 = .ok (.aaload, 1) := by decide +kernel
theorem dX0_setOut_34 : decode cX0_setOut 34 = .ok (.iconst 0, 1) := by decide +kernel
theorem dX0_setOut_35 : decode cX0_setOut 35 = .ok (.invokestatic 26, 3) := by decide +kernel
theorem dX0_setOut_38 : decode cX0_setOut 38 = .ok (.aload_n 0, 1) := by decide +kernel
theorem dX0_setOut_39 : decode cX0_setOut 39 = .ok (.getfield 16, 3) := by decide +kernel
theorem dX0_setOut_42 : decode cX0_setOut 42 = .ok (.iload_n 3, 1) := by decide +kernel
theorem dX0_setOut_43 : decode cX0_setOut 43 = .ok (.aaload, 1) := by decide +kernel
theorem dX0_setOut_44 : decode cX0_setOut 44 = .ok (.iload_n 3, 1) := by decide +kernel
theorem dX0_setOut_45 : decode cX0_setOut 45 = .ok (.iload_n 2, 1) := by decide +kernel
theorem dX0_setOut_46 : decode cX0_setOut 46 = .ok (.iastore, 1) := by decide +kernel
theorem dX0_setOut_47 : decode cX0_setOut 47 = .ok (.iinc 3 1, 3) := by decide +kernel
theorem dX0_setOut_50 : decode cX0_setOut 50 = .ok (.goto (-38), 3) := by decide +kernel
theorem dX0_setOut_53 : decode cX0_setOut 53 = .ok (.return_, 1) := by decide +kernel
theorem dX0_turn_0 : decode cX0_turn 0 = .ok (.aload_n 0, 1) := by decide +kernel
theorem dX0_turn_1 : decode cX0_turn 1 = .ok (.getfield 11, 3) := by decide +kernel
theorem dX0_turn_4 : decode cX0_turn 4 = .ok (.iload_n 1, 1) := by decide +kernel
theorem dX0_turn_5 : decode cX0_turn 5 = .ok (.aaload, 1) := by decide +kernel
theorem dX0_turn_6 : decode cX0_turn 6 = .ok (.iload_n 2, 1) := by decide +kernel
theorem dX0_turn_7 : decode cX0_turn 7 = .ok (.iaload, 1) := by decide +kernel
theorem dX0_turn_8 : decode cX0_turn 8 = .ok (.istore 4, 2) := by decide +kernel
theorem dX0_turn_10 : decode cX0_turn 10 = .ok (.aload_n 0, 1) := by decide +kernel
theorem dX0_turn_11 : decode cX0_turn 11 = .ok (.getfield 11, 3) := by decide +kernel
theorem dX0_turn_14 : decode cX0_turn 14 = .ok (.iload_n 1, 1) := by decide +kernel
theorem dX0_turn_15 : decode cX0_turn 15 = .ok (.aaload, 1) := by decide +kernel
theorem dX0_turn_16 : decode cX0_turn 16 = .ok (.iload_n 2, 1) := by decide +kernel
theorem dX0_turn_17 : decode cX0_turn 17 = .ok (.iload_n 3, 1) := by decide +kernel
theorem dX0_turn_18 : decode cX0_turn 18 = .ok (.iastore, 1) := by decide +kernel
theorem dX0_turn_19 : decode cX0_turn 19 = .ok (.aload_n 0, 1) := by decide +kernel
theorem dX0_turn_20 : decode cX0_turn 20 = .ok (.getfield 16, 3) := by decide +kernel
theorem dX0_turn_23 : decode cX0_turn 23 = .ok (.iload_n 1, 1) := by decide +kernel
theorem dX0_turn_24 : decode cX0_turn 24 = .ok (.aaload, 1) := by decide +kernel
theorem dX0_turn_25 : decode cX0_turn 25 = .ok (.iload 4, 2) := by decide +kernel
theorem dX0_turn_27 : decode cX0_turn 27 = .ok (.dup2, 1) := by decide +kernel
theorem dX0_turn_28 : decode cX0_turn 28 = .ok (.iaload, 1) := by decide +kernel
theorem dX0_turn_29 : decode cX0_turn 29 = .ok (.iconst 1, 1) := by decide +kernel
theorem dX0_turn_30 : decode cX0_turn 30 = .ok (.isub, 1) := by decide +kernel
theorem dX0_turn_31 : decode cX0_turn 31 = .ok (.iastore, 1) := by decide +kernel
theorem dX0_turn_32 : decode cX0_turn 32 = .ok (.aload_n 0, 1) := by decide +kernel
theorem dX0_turn_33 : decode cX0_turn 33 = .ok (.getfield 16, 3) := by decide +kernel
theorem dX0_turn_36 : decode cX0_turn 36 = .ok (.iload_n 1, 1) := by decide +kernel
theorem dX0_turn_37 : decode cX0_turn 37 = .ok (.aaload, 1) := by decide +kernel
theorem dX0_turn_38 : decode cX0_turn 38 = .ok (.iload_n 3, 1) := by decide +kernel
theorem dX0_turn_39 : decode cX0_turn 39 = .ok (.dup2, 1) := by decide +kernel
theorem dX0_turn_40 : decode cX0_turn 40 = .ok (.iaload, 1) := by decide +kernel
theorem dX0_turn_41 : decode cX0_turn 41 = .ok (.iconst 1, 1) := by decide +kernel
theorem dX0_turn_42 : decode cX0_turn 42 = .ok (.iadd, 1) := by decide +kernel
theorem dX0_turn_43 : decode cX0_turn 43 = .ok (.iastore, 1) := by decide +kernel
theorem dX0_turn_44 : decode cX0_turn 44 = .ok (.iload 4, 2) := by decide +kernel
theorem dX0_turn_46 : decode cX0_turn 46 = .ok (.ireturn, 1) := by decide +kernel
theorem dX0_exchange_0 : decode cX0_exchange 0 = .ok (.aload_n 0, 1) := by decide +kernel
theorem dX0_exchange_1 : decode cX0_exchange 1 = .ok (.getfield 11, 3) := by decide +kernel
theorem dX0_exchange_4 : decode cX0_exchange 4 = .ok (.iload_n 1, 1) := by decide +kernel
theorem dX0_exchange_5 : decode cX0_exchange 5 = .ok (.aaload, 1) := by decide +kernel
theorem dX0_exchange_6 : decode cX0_exchange 6 = .ok (.iload_n 2, 1) := by decide +kernel
theorem dX0_exchange_7 : decode cX0_exchange 7 = .ok (.iaload, 1) := by decide +kernel
theorem dX0_exchange_8 : decode cX0_exchange 8 = .ok (.istore 4, 2) := by decide +kernel
theorem dX0_exchange_10 : decode cX0_exchange 10 = .ok (.aload_n 0, 1) := by decide +kernel
theorem dX0_exchange_11 : decode cX0_exchange 11 = .ok (.getfield 11, 3) := by decide +kernel
theorem dX0_exchange_14 : decode cX0_exchange 14 = .ok (.iload_n 1, 1) := by decide +kernel
theorem dX0_exchange_15 : decode cX0_exchange 15 = .ok (.aaload, 1) := by decide +kernel
theorem dX0_exchange_16 : decode cX0_exchange 16 = .ok (.iload_n 2, 1) := by decide +kernel
theorem dX0_exchange_17 : decode cX0_exchange 17 = .ok (.aload_n 0, 1) := by decide +kernel
theorem dX0_exchange_18 : decode cX0_exchange 18 = .ok (.getfield 11, 3) := by decide +kernel
theorem dX0_exchange_21 : decode cX0_exchange 21 = .ok (.iload_n 1, 1) := by decide +kernel
theorem dX0_exchange_22 : decode cX0_exchange 22 = .ok (.aaload, 1) := by decide +kernel
theorem dX0_exchange_23 : decode cX0_exchange 23 = .ok (.iload_n 3, 1) := by decide +kernel
theorem dX0_exchange_24 : decode cX0_exchange 24 = .ok (.iaload, 1) := by decide +kernel
theorem dX0_exchange_25 : decode cX0_exchange 25 = .ok (.iastore, 1) := by decide +kernel
theorem dX0_exchange_26 : decode cX0_exchange 26 = .ok (.aload_n 0, 1) := by decide +kernel
theorem dX0_exchange_27 : decode cX0_exchange 27 = .ok (.getfield 11, 3) := by decide +kernel
theorem dX0_exchange_30 : decode cX0_exchange 30 = .ok (.iload_n 1, 1) := by decide +kernel
theorem dX0_exchange_31 : decode cX0_exchange 31 = .ok (.aaload, 1) := by decide +kernel
theorem dX0_exchange_32 : decode cX0_exchange 32 = .ok (.iload_n 3, 1) := by decide +kernel
theorem dX0_exchange_33 : decode cX0_exchange 33 = .ok (.iload 4, 2) := by decide +kernel
theorem dX0_exchange_35 : decode cX0_exchange 35 = .ok (.iastore, 1) := by decide +kernel
theorem dX0_exchange_36 : decode cX0_exchange 36 = .ok (.return_, 1) := by decide +kernel
theorem dX0_countWords_0 : decode cX0_countWords 0 = .ok (.lconst 1, 1) := by decide +kernel
theorem dX0_countWords_1 : decode cX0_countWords 1 = .ok (.lstore_n 2, 1) := by decide +kernel
theorem dX0_countWords_2 : decode cX0_countWords 2 = .ok (.iconst 0, 1) := by decide +kernel
theorem dX0_countWords_3 : decode cX0_countWords 3 = .ok (.istore 4, 2) := by decide +kernel
theorem dX0_countWords_5 : decode cX0_countWords 5 = .ok (.iload 4, 2) := by decide +kernel
theorem dX0_countWords_7 : decode cX0_countWords 7 = .ok (.iload_n 1, 1) := by decide +kernel
theorem dX0_countWords_8 : decode cX0_countWords 8 = .ok (.if_icmp .ge 17, 3) := by decide +kernel
theorem dX0_countWords_11 : decode cX0_countWords 11 = .ok (.lload_n 2, 1) := by decide +kernel
theorem dX0_countWords_12 : decode cX0_countWords 12 = .ok (.aload_n 0, 1) := by decide +kernel
theorem dX0_countWords_13 : decode cX0_countWords 13 = .ok (.getfield 23, 3) := by decide +kernel
theorem dX0_countWords_16 : decode cX0_countWords 16 = .ok (.i2l, 1) := by decide +kernel
theorem dX0_countWords_17 : decode cX0_countWords 17 = .ok (.lmul, 1) := by decide +kernel
theorem dX0_countWords_18 : decode cX0_countWords 18 = .ok (.lstore_n 2, 1) := by decide +kernel
theorem dX0_countWords_19 : decode cX0_countWords 19 = .ok (.iinc 4 1, 3) := by decide +kernel
theorem dX0_countWords_22 : decode cX0_countWords 22 = .ok (.goto (-17), 3) := by decide +kernel
theorem dX0_countWords_25 : decode cX0_countWords 25 = .ok (.lload_n 2, 1) := by decide +kernel
theorem dX0_countWords_26 : decode cX0_countWords 26 = .ok (.lreturn, 1) := by decide +kernel
theorem dX0_sumOverSlots_0 : decode cX0_sumOverSlots 0 = .ok (.lconst 0, 1) := by decide +kernel
theorem dX0_sumOverSlots_1 : decode cX0_sumOverSlots 1 = .ok (.lstore_n 3, 1) := by decide +kernel
theorem dX0_sumOverSlots_2 : decode cX0_sumOverSlots 2 = .ok (.iconst 0, 1) := by decide +kernel
theorem dX0_sumOverSlots_3 : decode cX0_sumOverSlots 3 = .ok (.istore 5, 2) := by decide +kernel
theorem dX0_sumOverSlots_5 : decode cX0_sumOverSlots 5 = .ok (.iload 5, 2) := by decide +kernel
theorem dX0_sumOverSlots_7 : decode cX0_sumOverSlots 7 = .ok (.aload_n 0, 1) := by decide +kernel
theorem dX0_sumOverSlots_8 : decode cX0_sumOverSlots 8 = .ok (.getfield 19, 3) := by decide +kernel
theorem dX0_sumOverSlots_11 : decode cX0_sumOverSlots 11 = .ok (.if_icmp .ge 27, 3) := by decide +kernel
theorem dX0_sumOverSlots_14 : decode cX0_sumOverSlots 14 = .ok (.lload_n 3, 1) := by decide +kernel
theorem dX0_sumOverSlots_15 : decode cX0_sumOverSlots 15 = .ok (.aload_n 0, 1) := by decide +kernel
theorem dX0_sumOverSlots_16 : decode cX0_sumOverSlots 16 = .ok (.getfield 16, 3) := by decide +kernel
theorem dX0_sumOverSlots_19 : decode cX0_sumOverSlots 19 = .ok (.iload_n 1, 1) := by decide +kernel
theorem dX0_sumOverSlots_20 : decode cX0_sumOverSlots 20 = .ok (.aaload, 1) := by decide +kernel
theorem dX0_sumOverSlots_21 : decode cX0_sumOverSlots 21 = .ok (.iload 5, 2) := by decide +kernel
theorem dX0_sumOverSlots_23 : decode cX0_sumOverSlots 23 = .ok (.iaload, 1) := by decide +kernel
theorem dX0_sumOverSlots_24 : decode cX0_sumOverSlots 24 = .ok (.i2l, 1) := by decide +kernel
theorem dX0_sumOverSlots_25 : decode cX0_sumOverSlots 25 = .ok (.aload_n 2, 1) := by decide +kernel
theorem dX0_sumOverSlots_26 : decode cX0_sumOverSlots 26 = .ok (.iload 5, 2) := by decide +kernel
theorem dX0_sumOverSlots_28 : decode cX0_sumOverSlots 28 = .ok (.laload, 1) := by decide +kernel
theorem dX0_sumOverSlots_29 : decode cX0_sumOverSlots 29 = .ok (.lmul, 1) := by decide +kernel
theorem dX0_sumOverSlots_30 : decode cX0_sumOverSlots 30 = .ok (.ladd, 1) := by decide +kernel
theorem dX0_sumOverSlots_31 : decode cX0_sumOverSlots 31 = .ok (.lstore_n 3, 1) := by decide +kernel
theorem dX0_sumOverSlots_32 : decode cX0_sumOverSlots 32 = .ok (.iinc 5 1, 3) := by decide +kernel
theorem dX0_sumOverSlots_35 : decode cX0_sumOverSlots 35 = .ok (.goto (-30), 3) := by decide +kernel
theorem dX0_sumOverSlots_38 : decode cX0_sumOverSlots 38 = .ok (.lload_n 3, 1) := by decide +kernel
theorem dX0_sumOverSlots_39 : decode cX0_sumOverSlots 39 = .ok (.lreturn, 1) := by decide +kernel
theorem dX1_init_0 : decode cX1_init 0 = .ok (.aload_n 0, 1) := by decide +kernel
theorem dX1_init_1 : decode cX1_init 1 = .ok (.invokespecial 3, 3) := by decide +kernel
theorem dX1_init_4 : decode cX1_init 4 = .ok (.aload_n 0, 1) := by decide +kernel
theorem dX1_init_5 : decode cX1_init 5 = .ok (.aload_n 1, 1) := by decide +kernel
theorem dX1_init_6 : decode cX1_init 6 = .ok (.putfield 9, 3) := by decide +kernel
theorem dX1_init_9 : decode cX1_init 9 = .ok (.return_, 1) := by decide +kernel
set_option maxRecDepth 20000 in
theorem ggX1_reachedFrom_X1_setOneStepOn : GoodIn wsX1_reachedFrom wsX1_setOneStepOn := goodIn_r _ [7, 1, 2, 8, 9, 10, 11, 12, 13] (by decide +kernel) (by decide +kernel)
set_option maxRecDepth 20000 in
theorem gX1_reachedFrom_X1_setOneStepOn : GoodIn wsX1_reachedFrom (wsV RX1 21 RX1 yX1_setOneStepOn wsX1_setOneStepOn) := goodIn_app (goodIn_of _ (by decide +kernel)) ggX1_reachedFrom_X1_setOneStepOn
theorem dX1_reachedFrom_0 : decode cX1_reachedFrom 0 = .ok (.iconst 1, 1) := by decide +kernel
theorem dX1_reachedFrom_1 : decode cX1_reachedFrom 1 = .ok (.iload_n 1, 1) := by decide +kernel
theorem dX1_reachedFrom_2 : decode cX1_reachedFrom 2 = .ok (.ishl, 1) := by decide +kernel
theorem dX1_reachedFrom_3 : decode cX1_reachedFrom 3 = .ok (.istore_n 2, 1) := by decide +kernel
theorem dX1_reachedFrom_4 : decode cX1_reachedFrom 4 = .ok (.iconst 1, 1) := by decide +kernel
theorem dX1_reachedFrom_5 : decode cX1_reachedFrom 5 = .ok (.istore_n 3, 1) := by decide +kernel
theorem dX1_reachedFrom_6 : decode cX1_reachedFrom 6 = .ok (.iload_n 3, 1) := by decide +kernel
theorem dX1_reachedFrom_7 : decode cX1_reachedFrom 7 = .ok (.aload_n 0, 1) := by decide +kernel
theorem dX1_reachedFrom_8 : decode cX1_reachedFrom 8 = .ok (.getfield 9, 3) := by decide +kernel
theorem dX1_reachedFrom_11 : decode cX1_reachedFrom 11 = .ok (.getfield 15, 3) := by decide +kernel
theorem dX1_reachedFrom_14 : decode cX1_reachedFrom 14 = .ok (.if_icmp .ge 17, 3) := by decide +kernel
theorem dX1_reachedFrom_17 : decode cX1_reachedFrom 17 = .ok (.iload_n 2, 1) := by decide +kernel
theorem dX1_reachedFrom_18 : decode cX1_reachedFrom 18 = .ok (.aload_n 0, 1) := by decide +kernel
theorem dX1_reachedFrom_19 : decode cX1_reachedFrom 19 = .ok (.iload_n 2, 1) := by decide +kernel
theorem dX1_reachedFrom_20 : decode cX1_reachedFrom 20 = .ok (.invokevirtual 21, 3) := by decide +kernel
theorem dX1_reachedFrom_23 : decode cX1_reachedFrom 23 = .ok (.ior, 1) := by decide +kernel
theorem dX1_reachedFrom_24 : decode cX1_reachedFrom 24 = .ok (.istore_n 2, 1) := by decide +kernel
theorem dX1_reachedFrom_25 : decode cX1_reachedFrom 25 = .ok (.iinc 3 1, 3) := by decide +kernel
theorem dX1_reachedFrom_28 : decode cX1_reachedFrom 28 = .ok (.goto (-22), 3) := by decide +kernel
theorem dX1_reachedFrom_31 : decode cX1_reachedFrom 31 = .ok (.iload_n 2, 1) := by decide +kernel
theorem dX1_reachedFrom_32 : decode cX1_reachedFrom 32 = .ok (.ireturn, 1) := by decide +kernel
theorem dX1_setOneStepOn_0 : decode cX1_setOneStepOn 0 = .ok (.iconst 0, 1) := by decide +kernel
theorem dX1_setOneStepOn_1 : decode cX1_setOneStepOn 1 = .ok (.istore_n 2, 1) := by decide +kernel
theorem dX1_setOneStepOn_2 : decode cX1_setOneStepOn 2 = .ok (.iconst 0, 1) := by decide +kernel
theorem dX1_setOneStepOn_3 : decode cX1_setOneStepOn 3 = .ok (.istore_n 3, 1) := by decide +kernel
theorem dX1_setOneStepOn_4 : decode cX1_setOneStepOn 4 = .ok (.iload_n 3, 1) := by decide +kernel
theorem dX1_setOneStepOn_5 : decode cX1_setOneStepOn 5 = .ok (.aload_n 0, 1) := by decide +kernel
theorem dX1_setOneStepOn_6 : decode cX1_setOneStepOn 6 = .ok (.getfield 9, 3) := by decide +kernel
theorem dX1_setOneStepOn_9 : decode cX1_setOneStepOn 9 = .ok (.getfield 15, 3) := by decide +kernel
theorem dX1_setOneStepOn_12 : decode cX1_setOneStepOn 12 = .ok (.if_icmp .ge 60, 3) := by decide +kernel
theorem dX1_setOneStepOn_15 : decode cX1_setOneStepOn 15 = .ok (.iconst 0, 1) := by decide +kernel
theorem dX1_setOneStepOn_16 : decode cX1_setOneStepOn 16 = .ok (.istore 4, 2) := by decide +kernel
theorem dX1_setOneStepOn_18 : decode cX1_setOneStepOn 18 = .ok (.iload 4, 2) := by decide +kernel
theorem dX1_setOneStepOn_20 : decode cX1_setOneStepOn 20 = .ok (.aload_n 0, 1) := by decide +kernel
theorem dX1_setOneStepOn_21 : decode cX1_setOneStepOn 21 = .ok (.getfield 9, 3) := by decide +kernel
theorem dX1_setOneStepOn_24 : decode cX1_setOneStepOn 24 = .ok (.getfield 15, 3) := by decide +kernel
theorem dX1_setOneStepOn_27 : decode cX1_setOneStepOn 27 = .ok (.if_icmp .ge 39, 3) := by decide +kernel
theorem dX1_setOneStepOn_30 : decode cX1_setOneStepOn 30 = .ok (.iload_n 1, 1) := by decide +kernel
theorem dX1_setOneStepOn_31 : decode cX1_setOneStepOn 31 = .ok (.iconst 1, 1) := by decide +kernel
theorem dX1_setOneStepOn_32 : decode cX1_setOneStepOn 32 = .ok (.iload_n 3, 1) := by decide +kernel
theorem dX1_setOneStepOn_33 : decode cX1_setOneStepOn 33 = .ok (.ishl, 1) := by decide +kernel
theorem dX1_setOneStepOn_34 : decode cX1_setOneStepOn 34 = .ok (.iand, 1) := by decide +kernel
theorem dX1_setOneStepOn_35 : decode cX1_setOneStepOn 35 = .ok (.ifCond .eq 25, 3) := by decide +kernel
theorem dX1_setOneStepOn_38 : decode cX1_setOneStepOn 38 = .ok (.aload_n 0, 1) := by decide +kernel
theorem dX1_setOneStepOn_39 : decode cX1_setOneStepOn 39 = .ok (.getfield 9, 3) := by decide +kernel
theorem dX1_setOneStepOn_42 : decode cX1_setOneStepOn 42 = .ok (.getfield 25, 3) := by decide +kernel
theorem dX1_setOneStepOn_45 : decode cX1_setOneStepOn 45 = .ok (.iload_n 3, 1) := by decide +kernel
theorem dX1_setOneStepOn_46 : decode cX1_setOneStepOn 46 = .ok (.aaload, 1) := by decide +kernel
theorem dX1_setOneStepOn_47 : decode cX1_setOneStepOn 47 = .ok (.iload 4, 2) := by decide +kernel
theorem dX1_setOneStepOn_49 : decode cX1_setOneStepOn 49 = .ok (.iaload, 1) := by decide +kernel
theorem dX1_setOneStepOn_50 : decode cX1_setOneStepOn 50 = .ok (.ifCond .le 10, 3) := by decide +kernel
theorem dX1_setOneStepOn_53 : decode cX1_setOneStepOn 53 = .ok (.iload_n 2, 1) := by decide +kernel
theorem dX1_setOneStepOn_54 : decode cX1_setOneStepOn 54 = .ok (.iconst 1, 1) := by decide +kernel
theorem dX1_setOneStepOn_55 : decode cX1_setOneStepOn 55 = .ok (.iload 4, 2) := by decide +kernel
theorem dX1_setOneStepOn_57 : decode cX1_setOneStepOn 57 = .ok (.ishl, 1) := by decide +kernel
theorem dX1_setOneStepOn_58 : decode cX1_setOneStepOn 58 = .ok (.ior, 1) := by decide +kernel
theorem dX1_setOneStepOn_59 : decode cX1_setOneStepOn 59 = .ok (.istore_n 2, 1) := by decide +kernel
theorem dX1_setOneStepOn_60 : decode cX1_setOneStepOn 60 = .ok (.iinc 4 1, 3) := by decide +kernel
theorem dX1_setOneStepOn_63 : decode cX1_setOneStepOn 63 = .ok (.goto (-45), 3) := by decide +kernel
theorem dX1_setOneStepOn_66 : decode cX1_setOneStepOn 66 = .ok (.iinc 3 1, 3) := by decide +kernel
theorem dX1_setOneStepOn_69 : decode cX1_setOneStepOn 69 = .ok (.goto (-65), 3) := by decide +kernel
theorem dX1_setOneStepOn_72 : decode cX1_setOneStepOn 72 = .ok (.iload_n 2, 1) := by decide +kernel
theorem dX1_setOneStepOn_73 : decode cX1_setOneStepOn 73 = .ok (.ireturn, 1) := by decide +kernel
set_option maxRecDepth 20000 in
theorem ggX1_countClosed_X1_isLowestOfClosed : GoodIn wsX1_countClosed wsX1_isLowestOfClosed := goodIn_r _ [7, 1, 2, 8, 9, 10, 6, 11, 12, 13, 14, 15, 16, 17, 18, 19, 20, 21] (by decide +kernel) (by decide +kernel)
set_option maxRecDepth 20000 in
theorem gX1_countClosed_X1_isLowestOfClosed : GoodIn wsX1_countClosed (wsV RX1 29 RX1 yX1_isLowestOfClosed wsX1_isLowestOfClosed) := goodIn_app (goodIn_of _ (by decide +kernel)) ggX1_countClosed_X1_isLowestOfClosed
theorem dX1_countClosed_0 : decode cX1_countClosed 0 = .ok (.iconst 0, 1) := by decide +kernel
theorem dX1_countClosed_1 : decode cX1_countClosed 1 = .ok (.istore_n 1, 1) := by decide +kernel
theorem dX1_countClosed_2 : decode cX1_countClosed 2 = .ok (.iconst 0, 1) := by decide +kernel
theorem dX1_countClosed_3 : decode cX1_countClosed 3 = .ok (.istore_n 2, 1) := by decide +kernel
theorem dX1_countClosed_4 : decode cX1_countClosed 4 = .ok (.iload_n 2, 1) := by decide +kernel
theorem dX1_countClosed_5 : decode cX1_countClosed 5 = .ok (.aload_n 0, 1) := by decide +kernel
theorem dX1_countClosed_6 : decode cX1_countClosed 6 = .ok (.getfield 9, 3) := by decide +kernel
theorem dX1_countClosed_9 : decode cX1_countClosed 9 = .ok (.getfield 15, 3) := by decide +kernel
theorem dX1_countClosed_12 : decode cX1_countClosed 12 = .ok (.if_icmp .ge 20, 3) := by decide +kernel
theorem dX1_countClosed_15 : decode cX1_countClosed 15 = .ok (.aload_n 0, 1) := by decide +kernel
theorem dX1_countClosed_16 : decode cX1_countClosed 16 = .ok (.iload_n 2, 1) := by decide +kernel
theorem dX1_countClosed_17 : decode cX1_countClosed 17 = .ok (.invokevirtual 29, 3) := by decide +kernel
theorem dX1_countClosed_20 : decode cX1_countClosed 20 = .ok (.ifCond .eq 6, 3) := by decide +kernel
theorem dX1_countClosed_23 : decode cX1_countClosed 23 = .ok (.iinc 1 1, 3) := by decide +kernel
theorem dX1_countClosed_26 : decode cX1_countClosed 26 = .ok (.iinc 2 1, 3) := by decide +kernel
theorem dX1_countClosed_29 : decode cX1_countClosed 29 = .ok (.goto (-25), 3) := by decide +kernel
theorem dX1_countClosed_32 : decode cX1_countClosed 32 = .ok (.iload_n 1, 1) := by decide +kernel
theorem dX1_countClosed_33 : decode cX1_countClosed 33 = .ok (.ireturn, 1) := by decide +kernel
set_option maxRecDepth 20000 in
theorem ggX1_isLowestOfClosed_X1_reachedFrom : GoodIn wsX1_isLowestOfClosed wsX1_reachedFrom := goodIn_r _ [7, 1, 2, 8, 9, 10, 6, 11, 12, 13, 14, 15, 16, 17] (by decide +kernel) (by decide +kernel)
set_option maxRecDepth 20000 in
theorem gX1_isLowestOfClosed_X1_reachedFrom : GoodIn wsX1_isLowestOfClosed (wsV RX1 33 RX1 yX1_reachedFrom wsX1_reachedFrom) := goodIn_app (goodIn_of _ (by decide +kernel)) ggX1_isLowestOfClosed_X1_reachedFrom
theorem dX1_isLowestOfClosed_0 : decode cX1_isLowestOfClosed 0 = .ok (.aload_n 0, 1) := by decide +kernel
theorem dX1_isLowestOfClosed_1 : decode cX1_isLowestOfClosed 1 = .ok (.iload_n 1, 1) := by decide +kernel
theorem dX1_isLowestOfClosed_2 : decode cX1_isLowestOfClosed 2 = .ok (.invokevirtual 33, 3) := by decide +kernel
theorem dX1_isLowestOfClosed_5 : decode cX1_isLowestOfClosed 5 = .ok (.istore_n 2, 1) := by decide +kernel
theorem dX1_isLowestOfClosed_6 : decode cX1_isLowestOfClosed 6 = .ok (.iconst 0, 1) := by decide +kernel
theorem dX1_isLowestOfClosed_7 : decode cX1_isLowestOfClosed 7 = .ok (.istore_n 3, 1) := by decide +kernel
theorem dX1_isLowestOfClosed_8 : decode cX1_isLowestOfClosed 8 = .ok (.iload_n 3, 1) := by decide +kernel
theorem dX1_isLowestOfClosed_9 : decode cX1_isLowestOfClosed 9 = .ok (.aload_n 0, 1) := by decide +kernel
theorem dX1_isLowestOfClosed_10 : decode cX1_isLowestOfClosed 10 = .ok (.getfield 9, 3) := by decide +kernel
theorem dX1_isLowestOfClosed_13 : decode cX1_isLowestOfClosed 13 = .ok (.getfield 15, 3) := by decide +kernel
theorem dX1_isLowestOfClosed_16 : decode cX1_isLowestOfClosed 16 = .ok (.if_icmp .ge 39, 3) := by decide +kernel
theorem dX1_isLowestOfClosed_19 : decode cX1_isLowestOfClosed 19 = .ok (.iload_n 2, 1) := by decide +kernel
theorem dX1_isLowestOfClosed_20 : decode cX1_isLowestOfClosed 20 = .ok (.iconst 1, 1) := by decide +kernel
theorem dX1_isLowestOfClosed_21 : decode cX1_isLowestOfClosed 21 = .ok (.iload_n 3, 1) := by decide +kernel
theorem dX1_isLowestOfClosed_22 : decode cX1_isLowestOfClosed 22 = .ok (.ishl, 1) := by decide +kernel
theorem dX1_isLowestOfClosed_23 : decode cX1_isLowestOfClosed 23 = .ok (.iand, 1) := by decide +kernel
theorem dX1_isLowestOfClosed_24 : decode cX1_isLowestOfClosed 24 = .ok (.ifCond .ne 6, 3) := by decide +kernel
theorem dX1_isLowestOfClosed_27 : decode cX1_isLowestOfClosed 27 = .ok (.goto 22, 3) := by decide +kernel
theorem dX1_isLowestOfClosed_30 : decode cX1_isLowestOfClosed 30 = .ok (.iload_n 3, 1) := by decide +kernel
theorem dX1_isLowestOfClosed_31 : decode cX1_isLowestOfClosed 31 = .ok (.iload_n 1, 1) := by decide +kernel
theorem dX1_isLowestOfClosed_32 : decode cX1_isLowestOfClosed 32 = .ok (.if_icmp .lt 15, 3) := by decide +kernel
theorem dX1_isLowestOfClosed_35 : decode cX1_isLowestOfClosed 35 = .ok (.aload_n 0, 1) := by decide +kernel
theorem dX1_isLowestOfClosed_36 : decode cX1_isLowestOfClosed 36 = .ok (.iload_n 3, 1) := by decide +kernel
theorem dX1_isLowestOfClosed_37 : decode cX1_isLowestOfClosed 37 = .ok (.invokevirtual 33, 3) := by decide +kernel
theorem dX1_isLowestOfClosed_40 : decode cX1_isLowestOfClosed 40 = .ok (.iconst 1, 1) := by decide +kernel
theorem dX1_isLowestOfClosed_41 : decode cX1_isLowestOfClosed 41 = .ok (.iload_n 1, 1) := by decide +kernel
theorem dX1_isLowestOfClosed_42 : decode cX1_isLowestOfClosed 42 = .ok (.ishl, 1) := by decide +kernel
theorem dX1_isLowestOfClosed_43 : decode cX1_isLowestOfClosed 43 = .ok (.iand, 1) := by decide +kernel
theorem dX1_isLowestOfClosed_44 : decode cX1_isLowestOfClosed 44 = .ok (.ifCond .ne 5, 3) := by decide +kernel
theorem dX1_isLowestOfClosed_47 : decode cX1_isLowestOfClosed 47 = .ok (.iconst 0, 1) := by decide +kernel
theorem dX1_isLowestOfClosed_48 : decode cX1_isLowestOfClosed 48 = .ok (.ireturn, 1) := by decide +kernel
theorem dX1_isLowestOfClosed_49 : decode cX1_isLowestOfClosed 49 = .ok (.iinc 3 1, 3) := by decide +kernel
theorem dX1_isLowestOfClosed_52 : decode cX1_isLowestOfClosed 52 = .ok (.goto (-44), 3) := by decide +kernel
theorem dX1_isLowestOfClosed_55 : decode cX1_isLowestOfClosed 55 = .ok (.iconst 1, 1) := by decide +kernel
theorem dX1_isLowestOfClosed_56 : decode cX1_isLowestOfClosed 56 = .ok (.ireturn, 1) := by decide +kernel
set_option maxRecDepth 20000 in
theorem ggX1_periodOf_X1_setOneStepOn : GoodIn wsX1_periodOf wsX1_setOneStepOn := goodIn_r _ [5, 6, 7, 8, 15, 16, 17, 18, 19] (by decide +kernel) (by decide +kernel)
set_option maxRecDepth 20000 in
theorem gX1_periodOf_X1_setOneStepOn : GoodIn wsX1_periodOf (wsV RX1 21 RX1 yX1_setOneStepOn wsX1_setOneStepOn) := goodIn_app (goodIn_of _ (by decide +kernel)) ggX1_periodOf_X1_setOneStepOn
set_option maxRecDepth 20000 in
theorem ggX1_periodOf_X1_greatestDivisor : GoodIn wsX1_periodOf wsX1_greatestDivisor := goodIn_r _ [11, 12, 13, 4, 14] (by decide +kernel) (by decide +kernel)
set_option maxRecDepth 20000 in
theorem gX1_periodOf_X1_greatestDivisor : GoodIn wsX1_periodOf (va_wsS RX1 36 yX1_greatestDivisor wsX1_greatestDivisor) := goodIn_app (goodIn_of _ (by decide +kernel)) ggX1_periodOf_X1_greatestDivisor
theorem dX1_periodOf_0 : decode cX1_periodOf 0 = .ok (.iconst 1, 1) := by decide +kernel
theorem dX1_periodOf_1 : decode cX1_periodOf 1 = .ok (.iload_n 1, 1) := by decide +kernel
theorem dX1_periodOf_2 : decode cX1_periodOf 2 = .ok (.ishl, 1) := by decide +kernel
theorem dX1_periodOf_3 : decode cX1_periodOf 3 = .ok (.istore_n 2, 1) := by decide +kernel
theorem dX1_periodOf_4 : decode cX1_periodOf 4 = .ok (.iconst 0, 1) := by decide +kernel
theorem dX1_periodOf_5 : decode cX1_periodOf 5 = .ok (.istore_n 3, 1) := by decide +kernel
theorem dX1_periodOf_6 : decode cX1_periodOf 6 = .ok (.iconst 1, 1) := by decide +kernel
theorem dX1_periodOf_7 : decode cX1_periodOf 7 = .ok (.istore 4, 2) := by decide +kernel
theorem dX1_periodOf_9 : decode cX1_periodOf 9 = .ok (.iload 4, 2) := by decide +kernel
theorem dX1_periodOf_11 : decode cX1_periodOf 11 = .ok (.bipush 12, 2) := by decide +kernel
theorem dX1_periodOf_13 : decode cX1_periodOf 13 = .ok (.if_icmp .gt 30, 3) := by decide +kernel
theorem dX1_periodOf_16 : decode cX1_periodOf 16 = .ok (.aload_n 0, 1) := by decide +kernel
theorem dX1_periodOf_17 : decode cX1_periodOf 17 = .ok (.iload_n 2, 1) := by decide +kernel
theorem dX1_periodOf_18 : decode cX1_periodOf 18 = .ok (.invokevirtual 21, 3) := by decide +kernel
theorem dX1_periodOf_21 : decode cX1_periodOf 21 = .ok (.istore_n 2, 1) := by decide +kernel
theorem dX1_periodOf_22 : decode cX1_periodOf 22 = .ok (.iload_n 2, 1) := by decide +kernel
theorem dX1_periodOf_23 : decode cX1_periodOf 23 = .ok (.iconst 1, 1) := by decide +kernel
theorem dX1_periodOf_24 : decode cX1_periodOf 24 = .ok (.iload_n 1, 1) := by decide +kernel
theorem dX1_periodOf_25 : decode cX1_periodOf 25 = .ok (.ishl, 1) := by decide +kernel
theorem dX1_periodOf_26 : decode cX1_periodOf 26 = .ok (.iand, 1) := by decide +kernel
theorem dX1_periodOf_27 : decode cX1_periodOf 27 = .ok (.ifCond .eq 10, 3) := by decide +kernel
theorem dX1_periodOf_30 : decode cX1_periodOf 30 = .ok (.iload_n 3, 1) := by decide +kernel
theorem dX1_periodOf_31 : decode cX1_periodOf 31 = .ok (.iconst 1, 1) := by decide +kernel
theorem dX1_periodOf_32 : decode cX1_periodOf 32 = .ok (.iload 4, 2) := by decide +kernel
theorem dX1_periodOf_34 : decode cX1_periodOf 34 = .ok (.ishl, 1) := by decide +kernel
theorem dX1_periodOf_35 : decode cX1_periodOf 35 = .ok (.ior, 1) := by decide +kernel
theorem dX1_periodOf_36 : decode cX1_periodOf 36 = .ok (.istore_n 3, 1) := by decide +kernel
theorem dX1_periodOf_37 : decode cX1_periodOf 37 = .ok (.iinc 4 1, 3) := by decide +kernel
theorem dX1_periodOf_40 : decode cX1_periodOf 40 = .ok (.goto (-31), 3) := by decide +kernel
theorem dX1_periodOf_43 : decode cX1_periodOf 43 = .ok (.iload_n 3, 1) := by decide +kernel
theorem dX1_periodOf_44 : decode cX1_periodOf 44 = .ok (.ifCond .ne 7, 3) := by decide +kernel
theorem dX1_periodOf_47 : decode cX1_periodOf 47 = .ok (.iconst 0, 1) := by decide +kernel
theorem dX1_periodOf_48 : decode cX1_periodOf 48 = .ok (.goto 7, 3) := by decide +kernel
theorem dX1_periodOf_51 : decode cX1_periodOf 51 = .ok (.iload_n 3, 1) := by decide +kernel
theorem dX1_periodOf_52 : decode cX1_periodOf 52 = .ok (.invokestatic 36, 3) := by decide +kernel
theorem dX1_periodOf_55 : decode cX1_periodOf 55 = .ok (.ireturn, 1) := by decide +kernel
set_option maxRecDepth 20000 in
theorem ggX1_greatestDivisor_X1_dividesAll : GoodIn wsX1_greatestDivisor wsX1_dividesAll := goodIn_r _ [4] (by decide +kernel) (by decide +kernel)
set_option maxRecDepth 20000 in
theorem gX1_greatestDivisor_X1_dividesAll : GoodIn wsX1_greatestDivisor (va_wsS RX1 39 yX1_dividesAll wsX1_dividesAll) := goodIn_app (goodIn_of _ (by decide +kernel)) ggX1_greatestDivisor_X1_dividesAll
theorem dX1_greatestDivisor_0 : decode cX1_greatestDivisor 0 = .ok (.bipush 12, 2) := by decide +kernel
theorem dX1_greatestDivisor_2 : decode cX1_greatestDivisor 2 = .ok (.istore_n 1, 1) := by decide +kernel
theorem dX1_greatestDivisor_3 : decode cX1_greatestDivisor 3 = .ok (.iload_n 1, 1) := by decide +kernel
theorem dX1_greatestDivisor_4 : decode cX1_greatestDivisor 4 = .ok (.iconst 1, 1) := by decide +kernel
theorem dX1_greatestDivisor_5 : decode cX1_greatestDivisor 5 = .ok (.if_icmp .le 19, 3) := by decide +kernel
theorem dX1_greatestDivisor_8 : decode cX1_greatestDivisor 8 = .ok (.iload_n 1, 1) := by decide +kernel
theorem dX1_greatestDivisor_9 : decode cX1_greatestDivisor 9 = .ok (.iload_n 0, 1) := by decide +kernel
theorem dX1_greatestDivisor_10 : decode cX1_greatestDivisor 10 = .ok (.invokestatic 39, 3) := by decide +kernel
theorem dX1_greatestDivisor_13 : decode cX1_greatestDivisor 13 = .ok (.ifCond .eq 5, 3) := by decide +kernel
theorem dX1_greatestDivisor_16 : decode cX1_greatestDivisor 16 = .ok (.iload_n 1, 1) := by decide +kernel
theorem dX1_greatestDivisor_17 : decode cX1_greatestDivisor 17 = .ok (.ireturn, 1) := by decide +kernel
theorem dX1_greatestDivisor_18 : decode cX1_greatestDivisor 18 = .ok (.iinc 1 (-1), 3) := by decide +kernel
theorem dX1_greatestDivisor_21 : decode cX1_greatestDivisor 21 = .ok (.goto (-18), 3) := by decide +kernel
theorem dX1_greatestDivisor_24 : decode cX1_greatestDivisor 24 = .ok (.iconst 1, 1) := by decide +kernel
theorem dX1_greatestDivisor_25 : decode cX1_greatestDivisor 25 = .ok (.ireturn, 1) := by decide +kernel
theorem dX1_dividesAll_0 : decode cX1_dividesAll 0 = .ok (.iload_n 0, 1) := by decide +kernel
theorem dX1_dividesAll_1 : decode cX1_dividesAll 1 = .ok (.iconst 1, 1) := by decide +kernel
theorem dX1_dividesAll_2 : decode cX1_dividesAll 2 = .ok (.if_icmp .ge 5, 3) := by decide +kernel
theorem dX1_dividesAll_5 : decode cX1_dividesAll 5 = .ok (.iconst 0, 1) := by decide +kernel
theorem dX1_dividesAll_6 : decode cX1_dividesAll 6 = .ok (.ireturn, 1) := by decide +kernel
theorem dX1_dividesAll_7 : decode cX1_dividesAll 7 = .ok (.iconst 1, 1) := by decide +kernel
theorem dX1_dividesAll_8 : decode cX1_dividesAll 8 = .ok (.istore_n 2, 1) := by decide +kernel
theorem dX1_dividesAll_9 : decode cX1_dividesAll 9 = .ok (.iload_n 2, 1) := by decide +kernel
theorem dX1_dividesAll_10 : decode cX1_dividesAll 10 = .ok (.bipush 12, 2) := by decide +kernel
theorem dX1_dividesAll_12 : decode cX1_dividesAll 12 = .ok (.if_icmp .gt 25, 3) := by decide +kernel
theorem dX1_dividesAll_15 : decode cX1_dividesAll 15 = .ok (.iload_n 1, 1) := by decide +kernel
theorem dX1_dividesAll_16 : decode cX1_dividesAll 16 = .ok (.iconst 1, 1) := by decide +kernel
theorem dX1_dividesAll_17 : decode cX1_dividesAll 17 = .ok (.iload_n 2, 1) := by decide +kernel
theorem dX1_dividesAll_18 : decode cX1_dividesAll 18 = .ok (.ishl, 1) := by decide +kernel
theorem dX1_dividesAll_19 : decode cX1_dividesAll 19 = .ok (.iand, 1) := by decide +kernel
theorem dX1_dividesAll_20 : decode cX1_dividesAll 20 = .ok (.ifCond .eq 11, 3) := by decide +kernel
theorem dX1_dividesAll_23 : decode cX1_dividesAll 23 = .ok (.iload_n 2, 1) := by decide +kernel
theorem dX1_dividesAll_24 : decode cX1_dividesAll 24 = .ok (.iload_n 0, 1) := by decide +kernel
theorem dX1_dividesAll_25 : decode cX1_dividesAll 25 = .ok (.irem, 1) := by decide +kernel
theorem dX1_dividesAll_26 : decode cX1_dividesAll 26 = .ok (.ifCond .eq 5, 3) := by decide +kernel
theorem dX1_dividesAll_29 : decode cX1_dividesAll 29 = .ok (.iconst 0, 1) := by decide +kernel
theorem dX1_dividesAll_30 : decode cX1_dividesAll 30 = .ok (.ireturn, 1) := by decide +kernel
theorem dX1_dividesAll_31 : decode cX1_dividesAll 31 = .ok (.iinc 2 1, 3) := by decide +kernel
theorem dX1_dividesAll_34 : decode cX1_dividesAll 34 = .ok (.goto (-25), 3) := by decide +kernel
theorem dX1_dividesAll_37 : decode cX1_dividesAll 37 = .ok (.iconst 1, 1) := by decide +kernel
theorem dX1_dividesAll_38 : decode cX1_dividesAll 38 = .ok (.ireturn, 1) := by decide +kernel
theorem dX2_init_0 : decode cX2_init 0 = .ok (.aload_n 0, 1) := by decide +kernel
theorem dX2_init_1 : decode cX2_init 1 = .ok (.invokespecial 3, 3) := by decide +kernel
theorem dX2_init_4 : decode cX2_init 4 = .ok (.aload_n 0, 1) := by decide +kernel
theorem dX2_init_5 : decode cX2_init 5 = .ok (.aload_n 1, 1) := by decide +kernel
theorem dX2_init_6 : decode cX2_init 6 = .ok (.putfield 9, 3) := by decide +kernel
theorem dX2_init_9 : decode cX2_init 9 = .ok (.aload_n 0, 1) := by decide +kernel
theorem dX2_init_10 : decode cX2_init 10 = .ok (.bipush 13, 2) := by decide +kernel
theorem dX2_init_12 : decode cX2_init 12 = .ok (.bipush 36, 2) := by decide +kernel
theorem dX2_init_14 : decode cX2_init 14 = .ok (.multianewarray 15 2, 4) := by decide +kernel
theorem dX2_init_18 : decode cX2_init 18 = .ok (.putfield 17, 3) := by decide +kernel
theorem dX2_init_21 : decode cX2_init 21 = .ok (.aload_n 0, 1) := by decide +kernel
theorem dX2_init_22 : decode cX2_init 22 = .ok (.bipush 13, 2) := by decide +kernel
theorem dX2_init_24 : decode cX2_init 24 = .ok (.bipush 64, 2) := by decide +kernel
theorem dX2_init_26 : decode cX2_init 26 = .ok (.multianewarray 15 2, 4) := by decide +kernel
theorem dX2_init_30 : decode cX2_init 30 = .ok (.putfield 20, 3) := by decide +kernel
theorem dX2_init_33 : decode cX2_init 33 = .ok (.return_, 1) := by decide +kernel
set_option maxRecDepth 20000 in
theorem ggX2_countApart_X8_pairOf : GoodIn wsX2_countApart wsX8_pairOf := goodIn_r _ [6] (by decide +kernel) (by decide +kernel)
set_option maxRecDepth 20000 in
theorem gX2_countApart_X8_pairOf_n29 : GoodIn wsX2_countApart (wsX8_pairOf) := ggX2_countApart_X8_pairOf
set_option maxRecDepth 20000 in
theorem ggX2_countApart_X2_apartFrom : GoodIn wsX2_countApart wsX2_apartFrom := goodIn_r _ [11, 1, 12, 3, 13, 4, 5, 6, 14, 15, 16, 17, 18, 19, 20] (by decide +kernel) (by decide +kernel)
set_option maxRecDepth 20000 in
theorem gX2_countApart_X2_apartFrom : GoodIn wsX2_countApart (wsV RX2 33 RX2 yX2_apartFrom wsX2_apartFrom) := goodIn_app (goodIn_of _ (by decide +kernel)) ggX2_countApart_X2_apartFrom
theorem dX2_countApart_0 : decode cX2_countApart 0 = .ok (.iconst 0, 1) := by decide +kernel
theorem dX2_countApart_1 : decode cX2_countApart 1 = .ok (.istore 4, 2) := by decide +kernel
theorem dX2_countApart_3 : decode cX2_countApart 3 = .ok (.iload 4, 2) := by decide +kernel
theorem dX2_countApart_5 : decode cX2_countApart 5 = .ok (.iload_n 3, 1) := by decide +kernel
theorem dX2_countApart_6 : decode cX2_countApart 6 = .ok (.if_icmp .gt 76, 3) := by decide +kernel
theorem dX2_countApart_9 : decode cX2_countApart 9 = .ok (.iconst 0, 1) := by decide +kernel
theorem dX2_countApart_10 : decode cX2_countApart 10 = .ok (.istore 5, 2) := by decide +kernel
theorem dX2_countApart_12 : decode cX2_countApart 12 = .ok (.iload 5, 2) := by decide +kernel
theorem dX2_countApart_14 : decode cX2_countApart 14 = .ok (.aload_n 0, 1) := by decide +kernel
theorem dX2_countApart_15 : decode cX2_countApart 15 = .ok (.getfield 9, 3) := by decide +kernel
theorem dX2_countApart_18 : decode cX2_countApart 18 = .ok (.getfield 23, 3) := by decide +kernel
theorem dX2_countApart_21 : decode cX2_countApart 21 = .ok (.if_icmp .ge 55, 3) := by decide +kernel
theorem dX2_countApart_24 : decode cX2_countApart 24 = .ok (.iconst 0, 1) := by decide +kernel
theorem dX2_countApart_25 : decode cX2_countApart 25 = .ok (.istore 6, 2) := by decide +kernel
theorem dX2_countApart_27 : decode cX2_countApart 27 = .ok (.iload 6, 2) := by decide +kernel
theorem dX2_countApart_29 : decode cX2_countApart 29 = .ok (.aload_n 0, 1) := by decide +kernel
theorem dX2_countApart_30 : decode cX2_countApart 30 = .ok (.getfield 9, 3) := by decide +kernel
theorem dX2_countApart_33 : decode cX2_countApart 33 = .ok (.getfield 23, 3) := by decide +kernel
theorem dX2_countApart_36 : decode cX2_countApart 36 = .ok (.if_icmp .ge 34, 3) := by decide +kernel
theorem dX2_countApart_39 : decode cX2_countApart 39 = .ok (.aload_n 0, 1) := by decide +kernel
theorem dX2_countApart_40 : decode cX2_countApart 40 = .ok (.getfield 17, 3) := by decide +kernel
theorem dX2_countApart_43 : decode cX2_countApart 43 = .ok (.iload 4, 2) := by decide +kernel
theorem dX2_countApart_45 : decode cX2_countApart 45 = .ok (.aaload, 1) := by decide +kernel
theorem dX2_countApart_46 : decode cX2_countApart 46 = .ok (.iload 5, 2) := by decide +kernel
theorem dX2_countApart_48 : decode cX2_countApart 48 = .ok (.iload 6, 2) := by decide +kernel
theorem dX2_countApart_50 : decode cX2_countApart 50 = .ok (.invokestatic 29, 3) := by decide +kernel
theorem dX2_countApart_53 : decode cX2_countApart 53 = .ok (.aload_n 0, 1) := by decide +kernel
theorem dX2_countApart_54 : decode cX2_countApart 54 = .ok (.iload 5, 2) := by decide +kernel
theorem dX2_countApart_56 : decode cX2_countApart 56 = .ok (.iload 6, 2) := by decide +kernel
theorem dX2_countApart_58 : decode cX2_countApart 58 = .ok (.iload 4, 2) := by decide +kernel
theorem dX2_countApart_60 : decode cX2_countApart 60 = .ok (.invokevirtual 33, 3) := by decide +kernel
theorem dX2_countApart_63 : decode cX2_countApart 63 = .ok (.lastore, 1) := by decide +kernel
theorem dX2_countApart_64 : decode cX2_countApart 64 = .ok (.iinc 6 1, 3) := by decide +kernel
theorem dX2_countApart_67 : decode cX2_countApart 67 = .ok (.goto (-40), 3) := by decide +kernel
theorem dX2_countApart_70 : decode cX2_countApart 70 = .ok (.iinc 5 1, 3) := by decide +kernel
theorem dX2_countApart_73 : decode cX2_countApart 73 = .ok (.goto (-61), 3) := by decide +kernel
theorem dX2_countApart_76 : decode cX2_countApart 76 = .ok (.iinc 4 1, 3) := by decide +kernel
theorem dX2_countApart_79 : decode cX2_countApart 79 = .ok (.goto (-76), 3) := by decide +kernel
theorem dX2_countApart_82 : decode cX2_countApart 82 = .ok (.aload_n 0, 1) := by decide +kernel
theorem dX2_countApart_83 : decode cX2_countApart 83 = .ok (.getfield 17, 3) := by decide +kernel
theorem dX2_countApart_86 : decode cX2_countApart 86 = .ok (.iload_n 3, 1) := by decide +kernel
theorem dX2_countApart_87 : decode cX2_countApart 87 = .ok (.aaload, 1) := by decide +kernel
theorem dX2_countApart_88 : decode cX2_countApart 88 = .ok (.iload_n 1, 1) := by decide +kernel
theorem dX2_countApart_89 : decode cX2_countApart 89 = .ok (.iload_n 2, 1) := by decide +kernel
theorem dX2_countApart_90 : decode cX2_countApart 90 = .ok (.invokestatic 29, 3) := by decide +kernel
theorem dX2_countApart_93 : decode cX2_countApart 93 = .ok (.laload, 1) := by decide +kernel
theorem dX2_countApart_94 : decode cX2_countApart 94 = .ok (.lreturn, 1) := by decide +kernel
set_option maxRecDepth 20000 in
theorem ggX2_apartFrom_X8_pairOf : GoodIn wsX2_apartFrom wsX8_pairOf := goodIn_r _ [7] (by decide +kernel) (by decide +kernel)
set_option maxRecDepth 20000 in
theorem gX2_apartFrom_X8_pairOf_n29 : GoodIn wsX2_apartFrom (wsX8_pairOf) := ggX2_apartFrom_X8_pairOf
theorem dX2_apartFrom_0 : decode cX2_apartFrom 0 = .ok (.iload_n 1, 1) := by decide +kernel
theorem dX2_apartFrom_1 : decode cX2_apartFrom 1 = .ok (.iload_n 2, 1) := by decide +kernel
theorem dX2_apartFrom_2 : decode cX2_apartFrom 2 = .ok (.if_icmp .ne 5, 3) := by decide +kernel
theorem dX2_apartFrom_5 : decode cX2_apartFrom 5 = .ok (.lconst 0, 1) := by decide +kernel
theorem dX2_apartFrom_6 : decode cX2_apartFrom 6 = .ok (.lreturn, 1) := by decide +kernel
theorem dX2_apartFrom_7 : decode cX2_apartFrom 7 = .ok (.iload_n 3, 1) := by decide +kernel
theorem dX2_apartFrom_8 : decode cX2_apartFrom 8 = .ok (.ifCond .ne 5, 3) := by decide +kernel
theorem dX2_apartFrom_11 : decode cX2_apartFrom 11 = .ok (.lconst 1, 1) := by decide +kernel
theorem dX2_apartFrom_12 : decode cX2_apartFrom 12 = .ok (.lreturn, 1) := by decide +kernel
theorem dX2_apartFrom_13 : decode cX2_apartFrom 13 = .ok (.lconst 0, 1) := by decide +kernel
theorem dX2_apartFrom_14 : decode cX2_apartFrom 14 = .ok (.lstore 4, 2) := by decide +kernel
theorem dX2_apartFrom_16 : decode cX2_apartFrom 16 = .ok (.iconst 0, 1) := by decide +kernel
theorem dX2_apartFrom_17 : decode cX2_apartFrom 17 = .ok (.istore 6, 2) := by decide +kernel
theorem dX2_apartFrom_19 : decode cX2_apartFrom 19 = .ok (.iload 6, 2) := by decide +kernel
theorem dX2_apartFrom_21 : decode cX2_apartFrom 21 = .ok (.aload_n 0, 1) := by decide +kernel
theorem dX2_apartFrom_22 : decode cX2_apartFrom 22 = .ok (.getfield 9, 3) := by decide +kernel
theorem dX2_apartFrom_25 : decode cX2_apartFrom 25 = .ok (.getfield 37, 3) := by decide +kernel
theorem dX2_apartFrom_28 : decode cX2_apartFrom 28 = .ok (.if_icmp .ge 50, 3) := by decide +kernel
theorem dX2_apartFrom_31 : decode cX2_apartFrom 31 = .ok (.lload 4, 2) := by decide +kernel
theorem dX2_apartFrom_33 : decode cX2_apartFrom 33 = .ok (.aload_n 0, 1) := by decide +kernel
theorem dX2_apartFrom_34 : decode cX2_apartFrom 34 = .ok (.getfield 17, 3) := by decide +kernel
theorem dX2_apartFrom_37 : decode cX2_apartFrom 37 = .ok (.iload_n 3, 1) := by decide +kernel
theorem dX2_apartFrom_38 : decode cX2_apartFrom 38 = .ok (.iconst 1, 1) := by decide +kernel
theorem dX2_apartFrom_39 : decode cX2_apartFrom 39 = .ok (.isub, 1) := by decide +kernel
theorem dX2_apartFrom_40 : decode cX2_apartFrom 40 = .ok (.aaload, 1) := by decide +kernel
theorem dX2_apartFrom_41 : decode cX2_apartFrom 41 = .ok (.aload_n 0, 1) := by decide +kernel
theorem dX2_apartFrom_42 : decode cX2_apartFrom 42 = .ok (.getfield 9, 3) := by decide +kernel
theorem dX2_apartFrom_45 : decode cX2_apartFrom 45 = .ok (.getfield 40, 3) := by decide +kernel
theorem dX2_apartFrom_48 : decode cX2_apartFrom 48 = .ok (.iload_n 1, 1) := by decide +kernel
theorem dX2_apartFrom_49 : decode cX2_apartFrom 49 = .ok (.aaload, 1) := by decide +kernel
theorem dX2_apartFrom_50 : decode cX2_apartFrom 50 = .ok (.iload 6, 2) := by decide +kernel
theorem dX2_apartFrom_52 : decode cX2_apartFrom 52 = .ok (.iaload, 1) := by decide +kernel
theorem dX2_apartFrom_53 : decode cX2_apartFrom 53 = .ok (.aload_n 0, 1) := by decide +kernel
theorem dX2_apartFrom_54 : decode cX2_apartFrom 54 = .ok (.getfield 9, 3) := by decide +kernel
theorem dX2_apartFrom_57 : decode cX2_apartFrom 57 = .ok (.getfield 40, 3) := by decide +kernel
theorem dX2_apartFrom_60 : decode cX2_apartFrom 60 = .ok (.iload_n 2, 1) := by decide +kernel
theorem dX2_apartFrom_61 : decode cX2_apartFrom 61 = .ok (.aaload, 1) := by decide +kernel
theorem dX2_apartFrom_62 : decode cX2_apartFrom 62 = .ok (.iload 6, 2) := by decide +kernel
theorem dX2_apartFrom_64 : decode cX2_apartFrom 64 = .ok (.iaload, 1) := by decide +kernel
theorem dX2_apartFrom_65 : decode cX2_apartFrom 65 = .ok (.invokestatic 29, 3) := by decide +kernel
theorem dX2_apartFrom_68 : decode cX2_apartFrom 68 = .ok (.laload, 1) := by decide +kernel
theorem dX2_apartFrom_69 : decode cX2_apartFrom 69 = .ok (.ladd, 1) := by decide +kernel
theorem dX2_apartFrom_70 : decode cX2_apartFrom 70 = .ok (.lstore 4, 2) := by decide +kernel
theorem dX2_apartFrom_72 : decode cX2_apartFrom 72 = .ok (.iinc 6 1, 3) := by decide +kernel
theorem dX2_apartFrom_75 : decode cX2_apartFrom 75 = .ok (.goto (-56), 3) := by decide +kernel
theorem dX2_apartFrom_78 : decode cX2_apartFrom 78 = .ok (.lload 4, 2) := by decide +kernel
theorem dX2_apartFrom_80 : decode cX2_apartFrom 80 = .ok (.lreturn, 1) := by decide +kernel
set_option maxRecDepth 20000 in
theorem ggX2_countTogether_J7_fill_d0a16 : GoodIn wsX2_countTogether wsJ7_fill_d0a16 := goodIn_r _ [7] (by decide +kernel) (by decide +kernel)
set_option maxRecDepth 20000 in
theorem gX2_countTogether_J7_fill_d0a16 : GoodIn wsX2_countTogether (va_wsS RX2 44 yJ7_fill_d0a16 wsJ7_fill_d0a16) := goodIn_app (goodIn_of _ (by decide +kernel)) ggX2_countTogether_J7_fill_d0a16
set_option maxRecDepth 20000 in
theorem ggX2_countTogether_X2_moveCrowds : GoodIn wsX2_countTogether wsX2_moveCrowds := goodIn_r _ [12, 1, 13, 14, 15, 16, 11, 17, 2, 18, 19, 20, 21, 22, 23, 24, 25] (by decide +kernel) (by decide +kernel)
set_option maxRecDepth 20000 in
theorem gX2_countTogether_X2_moveCrowds : GoodIn wsX2_countTogether (wsV RX2 50 RX2 yX2_moveCrowds wsX2_moveCrowds) := goodIn_app (goodIn_of _ (by decide +kernel)) ggX2_countTogether_X2_moveCrowds
theorem dX2_countTogether_0 : decode cX2_countTogether 0 = .ok (.iconst 1, 1) := by decide +kernel
theorem dX2_countTogether_1 : decode cX2_countTogether 1 = .ok (.aload_n 0, 1) := by decide +kernel
theorem dX2_countTogether_2 : decode cX2_countTogether 2 = .ok (.getfield 9, 3) := by decide +kernel
theorem dX2_countTogether_5 : decode cX2_countTogether 5 = .ok (.getfield 23, 3) := by decide +kernel
theorem dX2_countTogether_8 : decode cX2_countTogether 8 = .ok (.ishl, 1) := by decide +kernel
theorem dX2_countTogether_9 : decode cX2_countTogether 9 = .ok (.iconst 1, 1) := by decide +kernel
theorem dX2_countTogether_10 : decode cX2_countTogether 10 = .ok (.isub, 1) := by decide +kernel
theorem dX2_countTogether_11 : decode cX2_countTogether 11 = .ok (.istore_n 3, 1) := by decide +kernel
theorem dX2_countTogether_12 : decode cX2_countTogether 12 = .ok (.aload_n 0, 1) := by decide +kernel
theorem dX2_countTogether_13 : decode cX2_countTogether 13 = .ok (.getfield 20, 3) := by decide +kernel
theorem dX2_countTogether_16 : decode cX2_countTogether 16 = .ok (.iconst 0, 1) := by decide +kernel
theorem dX2_countTogether_17 : decode cX2_countTogether 17 = .ok (.aaload, 1) := by decide +kernel
theorem dX2_countTogether_18 : decode cX2_countTogether 18 = .ok (.lconst 0, 1) := by decide +kernel
theorem dX2_countTogether_19 : decode cX2_countTogether 19 = .ok (.invokestatic 44, 3) := by decide +kernel
theorem dX2_countTogether_22 : decode cX2_countTogether 22 = .ok (.aload_n 0, 1) := by decide +kernel
theorem dX2_countTogether_23 : decode cX2_countTogether 23 = .ok (.getfield 20, 3) := by decide +kernel
theorem dX2_countTogether_26 : decode cX2_countTogether 26 = .ok (.iconst 0, 1) := by decide +kernel
theorem dX2_countTogether_27 : decode cX2_countTogether 27 = .ok (.aaload, 1) := by decide +kernel
theorem dX2_countTogether_28 : decode cX2_countTogether 28 = .ok (.iload_n 3, 1) := by decide +kernel
theorem dX2_countTogether_29 : decode cX2_countTogether 29 = .ok (.lconst 1, 1) := by decide +kernel
theorem dX2_countTogether_30 : decode cX2_countTogether 30 = .ok (.lastore, 1) := by decide +kernel
theorem dX2_countTogether_31 : decode cX2_countTogether 31 = .ok (.iconst 1, 1) := by decide +kernel
theorem dX2_countTogether_32 : decode cX2_countTogether 32 = .ok (.istore 4, 2) := by decide +kernel
theorem dX2_countTogether_34 : decode cX2_countTogether 34 = .ok (.iload 4, 2) := by decide +kernel
theorem dX2_countTogether_36 : decode cX2_countTogether 36 = .ok (.iload_n 1, 1) := by decide +kernel
theorem dX2_countTogether_37 : decode cX2_countTogether 37 = .ok (.if_icmp .gt 60, 3) := by decide +kernel
theorem dX2_countTogether_40 : decode cX2_countTogether 40 = .ok (.aload_n 0, 1) := by decide +kernel
theorem dX2_countTogether_41 : decode cX2_countTogether 41 = .ok (.getfield 20, 3) := by decide +kernel
theorem dX2_countTogether_44 : decode cX2_countTogether 44 = .ok (.iload 4, 2) := by decide +kernel
theorem dX2_countTogether_46 : decode cX2_countTogether 46 = .ok (.aaload, 1) := by decide +kernel
theorem dX2_countTogether_47 : decode cX2_countTogether 47 = .ok (.lconst 0, 1) := by decide +kernel
theorem dX2_countTogether_48 : decode cX2_countTogether 48 = .ok (.invokestatic 44, 3) := by decide +kernel
theorem dX2_countTogether_51 : decode cX2_countTogether 51 = .ok (.iconst 1, 1) := by decide +kernel
theorem dX2_countTogether_52 : decode cX2_countTogether 52 = .ok (.istore 5, 2) := by decide +kernel
theorem dX2_countTogether_54 : decode cX2_countTogether 54 = .ok (.iload 5, 2) := by decide +kernel
theorem dX2_countTogether_56 : decode cX2_countTogether 56 = .ok (.iload_n 3, 1) := by decide +kernel
theorem dX2_countTogether_57 : decode cX2_countTogether 57 = .ok (.if_icmp .gt 34, 3) := by decide +kernel
theorem dX2_countTogether_60 : decode cX2_countTogether 60 = .ok (.aload_n 0, 1) := by decide +kernel
theorem dX2_countTogether_61 : decode cX2_countTogether 61 = .ok (.iload 5, 2) := by decide +kernel
theorem dX2_countTogether_63 : decode cX2_countTogether 63 = .ok (.aload_n 0, 1) := by decide +kernel
theorem dX2_countTogether_64 : decode cX2_countTogether 64 = .ok (.getfield 20, 3) := by decide +kernel
theorem dX2_countTogether_67 : decode cX2_countTogether 67 = .ok (.iload 4, 2) := by decide +kernel
theorem dX2_countTogether_69 : decode cX2_countTogether 69 = .ok (.iconst 1, 1) := by decide +kernel
theorem dX2_countTogether_70 : decode cX2_countTogether 70 = .ok (.isub, 1) := by decide +kernel
theorem dX2_countTogether_71 : decode cX2_countTogether 71 = .ok (.aaload, 1) := by decide +kernel
theorem dX2_countTogether_72 : decode cX2_countTogether 72 = .ok (.iload 5, 2) := by decide +kernel
theorem dX2_countTogether_74 : decode cX2_countTogether 74 = .ok (.laload, 1) := by decide +kernel
theorem dX2_countTogether_75 : decode cX2_countTogether 75 = .ok (.aload_n 0, 1) := by decide +kernel
theorem dX2_countTogether_76 : decode cX2_countTogether 76 = .ok (.getfield 20, 3) := by decide +kernel
theorem dX2_countTogether_79 : decode cX2_countTogether 79 = .ok (.iload 4, 2) := by decide +kernel
theorem dX2_countTogether_81 : decode cX2_countTogether 81 = .ok (.aaload, 1) := by decide +kernel
theorem dX2_countTogether_82 : decode cX2_countTogether 82 = .ok (.invokevirtual 50, 3) := by decide +kernel
theorem dX2_countTogether_85 : decode cX2_countTogether 85 = .ok (.iinc 5 1, 3) := by decide +kernel
theorem dX2_countTogether_88 : decode cX2_countTogether 88 = .ok (.goto (-34), 3) := by decide +kernel
theorem dX2_countTogether_91 : decode cX2_countTogether 91 = .ok (.iinc 4 1, 3) := by decide +kernel
theorem dX2_countTogether_94 : decode cX2_countTogether 94 = .ok (.goto (-60), 3) := by decide +kernel
theorem dX2_countTogether_97 : decode cX2_countTogether 97 = .ok (.aload_n 0, 1) := by decide +kernel
theorem dX2_countTogether_98 : decode cX2_countTogether 98 = .ok (.getfield 20, 3) := by decide +kernel
theorem dX2_countTogether_101 : decode cX2_countTogether 101 = .ok (.iload_n 1, 1) := by decide +kernel
theorem dX2_countTogether_102 : decode cX2_countTogether 102 = .ok (.aaload, 1) := by decide +kernel
theorem dX2_countTogether_103 : decode cX2_countTogether 103 = .ok (.iconst 1, 1) := by decide +kernel
theorem dX2_countTogether_104 : decode cX2_countTogether 104 = .ok (.iload_n 2, 1) := by decide +kernel
theorem dX2_countTogether_105 : decode cX2_countTogether 105 = .ok (.ishl, 1) := by decide +kernel
theorem dX2_countTogether_106 : decode cX2_countTogether 106 = .ok (.laload, 1) := by decide +kernel
theorem dX2_countTogether_107 : decode cX2_countTogether 107 = .ok (.lreturn, 1) := by decide +kernel
set_option maxRecDepth 20000 in
theorem ggX2_moveCrowds_X2_setBehind : GoodIn wsX2_moveCrowds wsX2_setBehind := goodIn_r _ [7, 1, 8, 9, 10, 11, 12, 13, 14, 15, 16] (by decide +kernel) (by decide +kernel)
set_option maxRecDepth 20000 in
theorem gX2_moveCrowds_X2_setBehind : GoodIn wsX2_moveCrowds (wsV RX2 54 RX2 yX2_setBehind wsX2_setBehind) := goodIn_app (goodIn_of _ (by decide +kernel)) ggX2_moveCrowds_X2_setBehind
theorem dX2_moveCrowds_0 : decode cX2_moveCrowds 0 = .ok (.lload_n 2, 1) := by decide +kernel
theorem dX2_moveCrowds_1 : decode cX2_moveCrowds 1 = .ok (.lconst 0, 1) := by decide +kernel
theorem dX2_moveCrowds_2 : decode cX2_moveCrowds 2 = .ok (.lcmp, 1) := by decide +kernel
theorem dX2_moveCrowds_3 : decode cX2_moveCrowds 3 = .ok (.ifCond .ne 4, 3) := by decide +kernel
theorem dX2_moveCrowds_6 : decode cX2_moveCrowds 6 = .ok (.return_, 1) := by decide +kernel
theorem dX2_moveCrowds_7 : decode cX2_moveCrowds 7 = .ok (.iconst 0, 1) := by decide +kernel
theorem dX2_moveCrowds_8 : decode cX2_moveCrowds 8 = .ok (.istore 5, 2) := by decide +kernel
theorem dX2_moveCrowds_10 : decode cX2_moveCrowds 10 = .ok (.iload 5, 2) := by decide +kernel
theorem dX2_moveCrowds_12 : decode cX2_moveCrowds 12 = .ok (.aload_n 0, 1) := by decide +kernel
theorem dX2_moveCrowds_13 : decode cX2_moveCrowds 13 = .ok (.getfield 9, 3) := by decide +kernel
theorem dX2_moveCrowds_16 : decode cX2_moveCrowds 16 = .ok (.getfield 37, 3) := by decide +kernel
theorem dX2_moveCrowds_19 : decode cX2_moveCrowds 19 = .ok (.if_icmp .ge 23, 3) := by decide +kernel
theorem dX2_moveCrowds_22 : decode cX2_moveCrowds 22 = .ok (.aload 4, 2) := by decide +kernel
theorem dX2_moveCrowds_24 : decode cX2_moveCrowds 24 = .ok (.aload_n 0, 1) := by decide +kernel
theorem dX2_moveCrowds_25 : decode cX2_moveCrowds 25 = .ok (.iload_n 1, 1) := by decide +kernel
theorem dX2_moveCrowds_26 : decode cX2_moveCrowds 26 = .ok (.iload 5, 2) := by decide +kernel
theorem dX2_moveCrowds_28 : decode cX2_moveCrowds 28 = .ok (.invokevirtual 54, 3) := by decide +kernel
theorem dX2_moveCrowds_31 : decode cX2_moveCrowds 31 = .ok (.dup2, 1) := by decide +kernel
theorem dX2_moveCrowds_32 : decode cX2_moveCrowds 32 = .ok (.laload, 1) := by decide +kernel
theorem dX2_moveCrowds_33 : decode cX2_moveCrowds 33 = .ok (.lload_n 2, 1) := by decide +kernel
theorem dX2_moveCrowds_34 : decode cX2_moveCrowds 34 = .ok (.ladd, 1) := by decide +kernel
theorem dX2_moveCrowds_35 : decode cX2_moveCrowds 35 = .ok (.lastore, 1) := by decide +kernel
theorem dX2_moveCrowds_36 : decode cX2_moveCrowds 36 = .ok (.iinc 5 1, 3) := by decide +kernel
theorem dX2_moveCrowds_39 : decode cX2_moveCrowds 39 = .ok (.goto (-29), 3) := by decide +kernel
theorem dX2_moveCrowds_42 : decode cX2_moveCrowds 42 = .ok (.return_, 1) := by decide +kernel
theorem dX2_setBehind_0 : decode cX2_setBehind 0 = .ok (.iconst 0, 1) := by decide +kernel
theorem dX2_setBehind_1 : decode cX2_setBehind 1 = .ok (.istore_n 3, 1) := by decide +kernel
theorem dX2_setBehind_2 : decode cX2_setBehind 2 = .ok (.iconst 0, 1) := by decide +kernel
theorem dX2_setBehind_3 : decode cX2_setBehind 3 = .ok (.istore 4, 2) := by decide +kernel
theorem dX2_setBehind_5 : decode cX2_setBehind 5 = .ok (.iload 4, 2) := by decide +kernel
theorem dX2_setBehind_7 : decode cX2_setBehind 7 = .ok (.aload_n 0, 1) := by decide +kernel
theorem dX2_setBehind_8 : decode cX2_setBehind 8 = .ok (.getfield 9, 3) := by decide +kernel
theorem dX2_setBehind_11 : decode cX2_setBehind 11 = .ok (.getfield 23, 3) := by decide +kernel
theorem dX2_setBehind_14 : decode cX2_setBehind 14 = .ok (.if_icmp .ge 35, 3) := by decide +kernel
theorem dX2_setBehind_17 : decode cX2_setBehind 17 = .ok (.iload_n 1, 1) := by decide +kernel
theorem dX2_setBehind_18 : decode cX2_setBehind 18 = .ok (.iconst 1, 1) := by decide +kernel
theorem dX2_setBehind_19 : decode cX2_setBehind 19 = .ok (.iload 4, 2) := by decide +kernel
theorem dX2_setBehind_21 : decode cX2_setBehind 21 = .ok (.ishl, 1) := by decide +kernel
theorem dX2_setBehind_22 : decode cX2_setBehind 22 = .ok (.iand, 1) := by decide +kernel
theorem dX2_setBehind_23 : decode cX2_setBehind 23 = .ok (.ifCond .eq 20, 3) := by decide +kernel
theorem dX2_setBehind_26 : decode cX2_setBehind 26 = .ok (.iload_n 3, 1) := by decide +kernel
theorem dX2_setBehind_27 : decode cX2_setBehind 27 = .ok (.iconst 1, 1) := by decide +kernel
theorem dX2_setBehind_28 : decode cX2_setBehind 28 = .ok (.aload_n 0, 1) := by decide +kernel
theorem dX2_setBehind_29 : decode cX2_setBehind 29 = .ok (.getfield 9, 3) := by decide +kernel
theorem dX2_setBehind_32 : decode cX2_setBehind 32 = .ok (.getfield 40, 3) := by decide +kernel
theorem dX2_setBehind_35 : decode cX2_setBehind 35 = .ok (.iload 4, 2) := by decide +kernel
theorem dX2_setBehind_37 : decode cX2_setBehind 37 = .ok (.aaload, 1) := by decide +kernel
theorem dX2_setBehind_38 : decode cX2_setBehind 38 = .ok (.iload_n 2, 1) := by decide +kernel
theorem dX2_setBehind_39 : decode cX2_setBehind 39 = .ok (.iaload, 1) := by decide +kernel
theorem dX2_setBehind_40 : decode cX2_setBehind 40 = .ok (.ishl, 1) := by decide +kernel
theorem dX2_setBehind_41 : decode cX2_setBehind 41 = .ok (.ior, 1) := by decide +kernel
theorem dX2_setBehind_42 : decode cX2_setBehind 42 = .ok (.istore_n 3, 1) := by decide +kernel
theorem dX2_setBehind_43 : decode cX2_setBehind 43 = .ok (.iinc 4 1, 3) := by decide +kernel
theorem dX2_setBehind_46 : decode cX2_setBehind 46 = .ok (.goto (-41), 3) := by decide +kernel
theorem dX2_setBehind_49 : decode cX2_setBehind 49 = .ok (.iload_n 3, 1) := by decide +kernel
theorem dX2_setBehind_50 : decode cX2_setBehind 50 = .ok (.ireturn, 1) := by decide +kernel
theorem dX3_init_0 : decode cX3_init 0 = .ok (.aload_n 0, 1) := by decide +kernel
theorem dX3_init_1 : decode cX3_init 1 = .ok (.invokespecial 3, 3) := by decide +kernel
theorem dX3_init_4 : decode cX3_init 4 = .ok (.aload_n 0, 1) := by decide +kernel
theorem dX3_init_5 : decode cX3_init 5 = .ok (.aload_n 1, 1) := by decide +kernel
theorem dX3_init_6 : decode cX3_init 6 = .ok (.putfield 9, 3) := by decide +kernel
theorem dX3_init_9 : decode cX3_init 9 = .ok (.aload_n 0, 1) := by decide +kernel
theorem dX3_init_10 : decode cX3_init 10 = .ok (.bipush 6, 2) := by decide +kernel
theorem dX3_init_12 : decode cX3_init 12 = .ok (.newarray .int, 2) := by decide +kernel
theorem dX3_init_14 : decode cX3_init 14 = .ok (.putfield 15, 3) := by decide +kernel
theorem dX3_init_17 : decode cX3_init 17 = .ok (.aload_n 0, 1) := by decide +kernel
theorem dX3_init_18 : decode cX3_init 18 = .ok (.bipush 6, 2) := by decide +kernel
theorem dX3_init_20 : decode cX3_init 20 = .ok (.newarray .int, 2) := by decide +kernel
theorem dX3_init_22 : decode cX3_init 22 = .ok (.putfield 19, 3) := by decide +kernel
theorem dX3_init_25 : decode cX3_init 25 = .ok (.return_, 1) := by decide +kernel
set_option maxRecDepth 20000 in
theorem ggX3_walkOn_X3_seedBehind : GoodIn wsX3_walkOn wsX3_seedBehind := goodIn_r _ [6, 7] (by decide +kernel) (by decide +kernel)
set_option maxRecDepth 20000 in
theorem gX3_walkOn_X3_seedBehind : GoodIn wsX3_walkOn (va_wsS RX3 22 yX3_seedBehind wsX3_seedBehind) := goodIn_app (goodIn_of _ (by decide +kernel)) ggX3_walkOn_X3_seedBehind
set_option maxRecDepth 20000 in
theorem ggX3_walkOn_X3_slotOf : GoodIn wsX3_walkOn wsX3_slotOf := goodIn_r _ [11, 1, 12, 13, 14, 15, 16, 17, 18, 19] (by decide +kernel) (by decide +kernel)
set_option maxRecDepth 20000 in
theorem gX3_walkOn_X3_slotOf : GoodIn wsX3_walkOn (wsV RX3 32 RX3 yX3_slotOf wsX3_slotOf) := goodIn_app (goodIn_of _ (by decide +kernel)) ggX3_walkOn_X3_slotOf
theorem dX3_walkOn_0 : decode cX3_walkOn 0 = .ok (.iload_n 1, 1) := by decide +kernel
theorem dX3_walkOn_1 : decode cX3_walkOn 1 = .ok (.istore 4, 2) := by decide +kernel
theorem dX3_walkOn_3 : decode cX3_walkOn 3 = .ok (.iload_n 2, 1) := by decide +kernel
theorem dX3_walkOn_4 : decode cX3_walkOn 4 = .ok (.istore 5, 2) := by decide +kernel
theorem dX3_walkOn_6 : decode cX3_walkOn 6 = .ok (.iconst 0, 1) := by decide +kernel
theorem dX3_walkOn_7 : decode cX3_walkOn 7 = .ok (.istore 6, 2) := by decide +kernel
theorem dX3_walkOn_9 : decode cX3_walkOn 9 = .ok (.iload 6, 2) := by decide +kernel
theorem dX3_walkOn_11 : decode cX3_walkOn 11 = .ok (.iload_n 3, 1) := by decide +kernel
theorem dX3_walkOn_12 : decode cX3_walkOn 12 = .ok (.if_icmp .ge 35, 3) := by decide +kernel
theorem dX3_walkOn_15 : decode cX3_walkOn 15 = .ok (.iload 5, 2) := by decide +kernel
theorem dX3_walkOn_17 : decode cX3_walkOn 17 = .ok (.invokestatic 22, 3) := by decide +kernel
theorem dX3_walkOn_20 : decode cX3_walkOn 20 = .ok (.istore 5, 2) := by decide +kernel
theorem dX3_walkOn_22 : decode cX3_walkOn 22 = .ok (.aload_n 0, 1) := by decide +kernel
theorem dX3_walkOn_23 : decode cX3_walkOn 23 = .ok (.getfield 9, 3) := by decide +kernel
theorem dX3_walkOn_26 : decode cX3_walkOn 26 = .ok (.getfield 26, 3) := by decide +kernel
theorem dX3_walkOn_29 : decode cX3_walkOn 29 = .ok (.iload 4, 2) := by decide +kernel
theorem dX3_walkOn_31 : decode cX3_walkOn 31 = .ok (.aaload, 1) := by decide +kernel
theorem dX3_walkOn_32 : decode cX3_walkOn 32 = .ok (.aload_n 0, 1) := by decide +kernel
theorem dX3_walkOn_33 : decode cX3_walkOn 33 = .ok (.iload 5, 2) := by decide +kernel
theorem dX3_walkOn_35 : decode cX3_walkOn 35 = .ok (.invokevirtual 32, 3) := by decide +kernel
theorem dX3_walkOn_38 : decode cX3_walkOn 38 = .ok (.iaload, 1) := by decide +kernel
theorem dX3_walkOn_39 : decode cX3_walkOn 39 = .ok (.istore 4, 2) := by decide +kernel
theorem dX3_walkOn_41 : decode cX3_walkOn 41 = .ok (.iinc 6 1, 3) := by decide +kernel
theorem dX3_walkOn_44 : decode cX3_walkOn 44 = .ok (.goto (-35), 3) := by decide +kernel
theorem dX3_walkOn_47 : decode cX3_walkOn 47 = .ok (.iload 4, 2) := by decide +kernel
theorem dX3_walkOn_49 : decode cX3_walkOn 49 = .ok (.ireturn, 1) := by decide +kernel
set_option maxRecDepth 20000 in
theorem ggX3_drawFromPast_X3_isTogether : GoodIn wsX3_drawFromPast wsX3_isTogether := goodIn_r _ [8, 1, 2, 3, 28, 29, 30, 31, 32, 33, 34] (by decide +kernel) (by decide +kernel)
set_option maxRecDepth 20000 in
theorem gX3_drawFromPast_X3_isTogether : GoodIn wsX3_drawFromPast (wsV RX3 39 RX3 yX3_isTogether wsX3_isTogether) := goodIn_app (goodIn_of _ (by decide +kernel)) ggX3_drawFromPast_X3_isTogether
set_option maxRecDepth 20000 in
theorem ggX3_drawFromPast_X3_seedBehind : GoodIn wsX3_drawFromPast wsX3_seedBehind := goodIn_r _ [11, 12] (by decide +kernel) (by decide +kernel)
set_option maxRecDepth 20000 in
theorem gX3_drawFromPast_X3_seedBehind : GoodIn wsX3_drawFromPast (va_wsS RX3 22 yX3_seedBehind wsX3_seedBehind) := goodIn_app (goodIn_of _ (by decide +kernel)) ggX3_drawFromPast_X3_seedBehind
set_option maxRecDepth 20000 in
theorem ggX3_drawFromPast_X3_slotOf : GoodIn wsX3_drawFromPast wsX3_slotOf := goodIn_r _ [16, 1, 17, 28, 29, 30, 31, 32, 33, 34] (by decide +kernel) (by decide +kernel)
set_option maxRecDepth 20000 in
theorem gX3_drawFromPast_X3_slotOf : GoodIn wsX3_drawFromPast (wsV RX3 32 RX3 yX3_slotOf wsX3_slotOf) := goodIn_app (goodIn_of _ (by decide +kernel)) ggX3_drawFromPast_X3_slotOf
set_option maxRecDepth 20000 in
theorem ggX3_drawFromPast_X3_putAhead : GoodIn wsX3_drawFromPast wsX3_putAhead := goodIn_r _ [21, 3, 22, 23, 24, 25, 26, 1, 2, 27, 28, 29, 30, 31, 32, 33, 34] (by decide +kernel) (by decide +kernel)
set_option maxRecDepth 20000 in
theorem gX3_drawFromPast_X3_putAhead : GoodIn wsX3_drawFromPast (wsV RX3 43 RX3 yX3_putAhead wsX3_putAhead) := goodIn_app (goodIn_of _ (by decide +kernel)) ggX3_drawFromPast_X3_putAhead
theorem dX3_drawFromPast_0 : decode cX3_drawFromPast 0 = .ok (.iconst 0, 1) := by decide +kernel
theorem dX3_drawFromPast_1 : decode cX3_drawFromPast 1 = .ok (.istore_n 2, 1) := by decide +kernel
theorem dX3_drawFromPast_2 : decode cX3_drawFromPast 2 = .ok (.iload_n 2, 1) := by decide +kernel
theorem dX3_drawFromPast_3 : decode cX3_drawFromPast 3 = .ok (.aload_n 0, 1) := by decide +kernel
theorem dX3_drawFromPast_4 : decode cX3_drawFromPast 4 = .ok (.getfield 9, 3) := by decide +kernel
theorem dX3_drawFromPast_7 : decode cX3_drawFromPast 7 = .ok (.getfield 35, 3) := by decide +kernel
theorem dX3_drawFromPast_10 : decode cX3_drawFromPast 10 = .ok (.if_icmp .ge 16, 3) := by decide +kernel
theorem dX3_drawFromPast_13 : decode cX3_drawFromPast 13 = .ok (.aload_n 0, 1) := by decide +kernel
theorem dX3_drawFromPast_14 : decode cX3_drawFromPast 14 = .ok (.getfield 15, 3) := by decide +kernel
theorem dX3_drawFromPast_17 : decode cX3_drawFromPast 17 = .ok (.iload_n 2, 1) := by decide +kernel
theorem dX3_drawFromPast_18 : decode cX3_drawFromPast 18 = .ok (.iload_n 2, 1) := by decide +kernel
theorem dX3_drawFromPast_19 : decode cX3_drawFromPast 19 = .ok (.iastore, 1) := by decide +kernel
theorem dX3_drawFromPast_20 : decode cX3_drawFromPast 20 = .ok (.iinc 2 1, 3) := by decide +kernel
theorem dX3_drawFromPast_23 : decode cX3_drawFromPast 23 = .ok (.goto (-21), 3) := by decide +kernel
theorem dX3_drawFromPast_26 : decode cX3_drawFromPast 26 = .ok (.iload_n 1, 1) := by decide +kernel
theorem dX3_drawFromPast_27 : decode cX3_drawFromPast 27 = .ok (.istore_n 2, 1) := by decide +kernel
theorem dX3_drawFromPast_28 : decode cX3_drawFromPast 28 = .ok (.iconst 0, 1) := by decide +kernel
theorem dX3_drawFromPast_29 : decode cX3_drawFromPast 29 = .ok (.istore_n 3, 1) := by decide +kernel
theorem dX3_drawFromPast_30 : decode cX3_drawFromPast 30 = .ok (.iload_n 3, 1) := by decide +kernel
theorem dX3_drawFromPast_31 : decode cX3_drawFromPast 31 = .ok (.sipush 200, 3) := by decide +kernel
theorem dX3_drawFromPast_34 : decode cX3_drawFromPast 34 = .ok (.if_icmp .ge 30, 3) := by decide +kernel
theorem dX3_drawFromPast_37 : decode cX3_drawFromPast 37 = .ok (.aload_n 0, 1) := by decide +kernel
theorem dX3_drawFromPast_38 : decode cX3_drawFromPast 38 = .ok (.invokevirtual 39, 3) := by decide +kernel
theorem dX3_drawFromPast_41 : decode cX3_drawFromPast 41 = .ok (.ifCond .ne 23, 3) := by decide +kernel
theorem dX3_drawFromPast_44 : decode cX3_drawFromPast 44 = .ok (.iload_n 2, 1) := by decide +kernel
theorem dX3_drawFromPast_45 : decode cX3_drawFromPast 45 = .ok (.invokestatic 22, 3) := by decide +kernel
theorem dX3_drawFromPast_48 : decode cX3_drawFromPast 48 = .ok (.istore_n 2, 1) := by decide +kernel
theorem dX3_drawFromPast_49 : decode cX3_drawFromPast 49 = .ok (.aload_n 0, 1) := by decide +kernel
theorem dX3_drawFromPast_50 : decode cX3_drawFromPast 50 = .ok (.aload_n 0, 1) := by decide +kernel
theorem dX3_drawFromPast_51 : decode cX3_drawFromPast 51 = .ok (.iload_n 2, 1) := by decide +kernel
theorem dX3_drawFromPast_52 : decode cX3_drawFromPast 52 = .ok (.invokevirtual 32, 3) := by decide +kernel
theorem dX3_drawFromPast_55 : decode cX3_drawFromPast 55 = .ok (.invokevirtual 43, 3) := by decide +kernel
theorem dX3_drawFromPast_58 : decode cX3_drawFromPast 58 = .ok (.iinc 3 1, 3) := by decide +kernel
theorem dX3_drawFromPast_61 : decode cX3_drawFromPast 61 = .ok (.goto (-31), 3) := by decide +kernel
theorem dX3_drawFromPast_64 : decode cX3_drawFromPast 64 = .ok (.aload_n 0, 1) := by decide +kernel
theorem dX3_drawFromPast_65 : decode cX3_drawFromPast 65 = .ok (.invokevirtual 39, 3) := by decide +kernel
theorem dX3_drawFromPast_68 : decode cX3_drawFromPast 68 = .ok (.ifCond .eq 17, 3) := by decide +kernel
theorem dX3_drawFromPast_71 : decode cX3_drawFromPast 71 = .ok (.bipush 6, 2) := by decide +kernel
theorem dX3_drawFromPast_73 : decode cX3_drawFromPast 73 = .ok (.iload_n 3, 1) := by decide +kernel
theorem dX3_drawFromPast_74 : decode cX3_drawFromPast 74 = .ok (.imul, 1) := by decide +kernel
theorem dX3_drawFromPast_75 : decode cX3_drawFromPast 75 = .ok (.aload_n 0, 1) := by decide +kernel
theorem dX3_drawFromPast_76 : decode cX3_drawFromPast 76 = .ok (.getfield 15, 3) := by decide +kernel
theorem dX3_drawFromPast_79 : decode cX3_drawFromPast 79 = .ok (.iconst 0, 1) := by decide +kernel
theorem dX3_drawFromPast_80 : decode cX3_drawFromPast 80 = .ok (.iaload, 1) := by decide +kernel
theorem dX3_drawFromPast_81 : decode cX3_drawFromPast 81 = .ok (.iadd, 1) := by decide +kernel
theorem dX3_drawFromPast_82 : decode cX3_drawFromPast 82 = .ok (.goto 4, 3) := by decide +kernel
theorem dX3_drawFromPast_85 : decode cX3_drawFromPast 85 = .ok (.iconst (-1), 1) := by decide +kernel
theorem dX3_drawFromPast_86 : decode cX3_drawFromPast 86 = .ok (.ireturn, 1) := by decide +kernel
theorem dX3_isTogether_0 : decode cX3_isTogether 0 = .ok (.iconst 1, 1) := by decide +kernel
theorem dX3_isTogether_1 : decode cX3_isTogether 1 = .ok (.istore_n 1, 1) := by decide +kernel
theorem dX3_isTogether_2 : decode cX3_isTogether 2 = .ok (.iload_n 1, 1) := by decide +kernel
theorem dX3_isTogether_3 : decode cX3_isTogether 3 = .ok (.aload_n 0, 1) := by decide +kernel
theorem dX3_isTogether_4 : decode cX3_isTogether 4 = .ok (.getfield 9, 3) := by decide +kernel
theorem dX3_isTogether_7 : decode cX3_isTogether 7 = .ok (.getfield 35, 3) := by decide +kernel
theorem dX3_isTogether_10 : decode cX3_isTogether 10 = .ok (.if_icmp .ge 26, 3) := by decide +kernel
theorem dX3_isTogether_13 : decode cX3_isTogether 13 = .ok (.aload_n 0, 1) := by decide +kernel
theorem dX3_isTogether_14 : decode cX3_isTogether 14 = .ok (.getfield 15, 3) := by decide +kernel
theorem dX3_isTogether_17 : decode cX3_isTogether 17 = .ok (.iload_n 1, 1) := by decide +kernel
theorem dX3_isTogether_18 : decode cX3_isTogether 18 = .ok (.iaload, 1) := by decide +kernel
theorem dX3_isTogether_19 : decode cX3_isTogether 19 = .ok (.aload_n 0, 1) := by decide +kernel
theorem dX3_isTogether_20 : decode cX3_isTogether 20 = .ok (.getfield 15, 3) := by decide +kernel
theorem dX3_isTogether_23 : decode cX3_isTogether 23 = .ok (.iconst 0, 1) := by decide +kernel
theorem dX3_isTogether_24 : decode cX3_isTogether 24 = .ok (.iaload, 1) := by decide +kernel
theorem dX3_isTogether_25 : decode cX3_isTogether 25 = .ok (.if_icmp .eq 5, 3) := by decide +kernel
theorem dX3_isTogether_28 : decode cX3_isTogether 28 = .ok (.iconst 0, 1) := by decide +kernel
theorem dX3_isTogether_29 : decode cX3_isTogether 29 = .ok (.ireturn, 1) := by decide +kernel
theorem dX3_isTogether_30 : decode cX3_isTogether 30 = .ok (.iinc 1 1, 3) := by decide +kernel
theorem dX3_isTogether_33 : decode cX3_isTogether 33 = .ok (.goto (-31), 3) := by decide +kernel
theorem dX3_isTogether_36 : decode cX3_isTogether 36 = .ok (.iconst 1, 1) := by decide +kernel
theorem dX3_isTogether_37 : decode cX3_isTogether 37 = .ok (.ireturn, 1) := by decide +kernel
theorem dX3_putAhead_0 : decode cX3_putAhead 0 = .ok (.aload_n 0, 1) := by decide +kernel
theorem dX3_putAhead_1 : decode cX3_putAhead 1 = .ok (.getfield 15, 3) := by decide +kernel
theorem dX3_putAhead_4 : decode cX3_putAhead 4 = .ok (.iconst 0, 1) := by decide +kernel
theorem dX3_putAhead_5 : decode cX3_putAhead 5 = .ok (.aload_n 0, 1) := by decide +kernel
theorem dX3_putAhead_6 : decode cX3_putAhead 6 = .ok (.getfield 19, 3) := by decide +kernel
theorem dX3_putAhead_9 : decode cX3_putAhead 9 = .ok (.iconst 0, 1) := by decide +kernel
theorem dX3_putAhead_10 : decode cX3_putAhead 10 = .ok (.bipush 6, 2) := by decide +kernel
theorem dX3_putAhead_12 : decode cX3_putAhead 12 = .ok (.invokestatic 47, 3) := by decide +kernel
theorem dX3_putAhead_15 : decode cX3_putAhead 15 = .ok (.iconst 0, 1) := by decide +kernel
theorem dX3_putAhead_16 : decode cX3_putAhead 16 = .ok (.istore_n 2, 1) := by decide +kernel
theorem dX3_putAhead_17 : decode cX3_putAhead 17 = .ok (.iload_n 2, 1) := by decide +kernel
theorem dX3_putAhead_18 : decode cX3_putAhead 18 = .ok (.aload_n 0, 1) := by decide +kernel
theorem dX3_putAhead_19 : decode cX3_putAhead 19 = .ok (.getfield 9, 3) := by decide +kernel
theorem dX3_putAhead_22 : decode cX3_putAhead 22 = .ok (.getfield 35, 3) := by decide +kernel
theorem dX3_putAhead_25 : decode cX3_putAhead 25 = .ok (.if_icmp .ge 31, 3) := by decide +kernel
theorem dX3_putAhead_28 : decode cX3_putAhead 28 = .ok (.aload_n 0, 1) := by decide +kernel
theorem dX3_putAhead_29 : decode cX3_putAhead 29 = .ok (.getfield 15, 3) := by decide +kernel
theorem dX3_putAhead_32 : decode cX3_putAhead 32 = .ok (.iload_n 2, 1) := by decide +kernel
theorem dX3_putAhead_33 : decode cX3_putAhead 33 = .ok (.aload_n 0, 1) := by decide +kernel
theorem dX3_putAhead_34 : decode cX3_putAhead 34 = .ok (.getfield 19, 3) := by decide +kernel
theorem dX3_putAhead_37 : decode cX3_putAhead 37 = .ok (.aload_n 0, 1) := by decide +kernel
theorem dX3_putAhead_38 : decode cX3_putAhead 38 = .ok (.getfield 9, 3) := by decide +kernel
theorem dX3_putAhead_41 : decode cX3_putAhead 41 = .ok (.getfield 26, 3) := by decide +kernel
theorem dX3_putAhead_44 : decode cX3_putAhead 44 = .ok (.iload_n 2, 1) := by decide +kernel
theorem dX3_putAhead_45 : decode cX3_putAhead 45 = .ok (.aaload, 1) := by decide +kernel
theorem dX3_putAhead_46 : decode cX3_putAhead 46 = .ok (.iload_n 1, 1) := by decide +kernel
theorem dX3_putAhead_47 : decode cX3_putAhead 47 = .ok (.iaload, 1) := by decide +kernel
theorem dX3_putAhead_48 : decode cX3_putAhead 48 = .ok (.iaload, 1) := by decide +kernel
theorem dX3_putAhead_49 : decode cX3_putAhead 49 = .ok (.iastore, 1) := by decide +kernel
theorem dX3_putAhead_50 : decode cX3_putAhead 50 = .ok (.iinc 2 1, 3) := by decide +kernel
theorem dX3_putAhead_53 : decode cX3_putAhead 53 = .ok (.goto (-36), 3) := by decide +kernel
theorem dX3_putAhead_56 : decode cX3_putAhead 56 = .ok (.return_, 1) := by decide +kernel
theorem dX3_slotOf_0 : decode cX3_slotOf 0 = .ok (.aload_n 0, 1) := by decide +kernel
theorem dX3_slotOf_1 : decode cX3_slotOf 1 = .ok (.getfield 9, 3) := by decide +kernel
theorem dX3_slotOf_4 : decode cX3_slotOf 4 = .ok (.getfield 53, 3) := by decide +kernel
theorem dX3_slotOf_7 : decode cX3_slotOf 7 = .ok (.iconst 1, 1) := by decide +kernel
theorem dX3_slotOf_8 : decode cX3_slotOf 8 = .ok (.if_icmp .ge 7, 3) := by decide +kernel
theorem dX3_slotOf_11 : decode cX3_slotOf 11 = .ok (.iconst 0, 1) := by decide +kernel
theorem dX3_slotOf_12 : decode cX3_slotOf 12 = .ok (.goto 12, 3) := by decide +kernel
theorem dX3_slotOf_15 : decode cX3_slotOf 15 = .ok (.iload_n 1, 1) := by decide +kernel
theorem dX3_slotOf_16 : decode cX3_slotOf 16 = .ok (.aload_n 0, 1) := by decide +kernel
theorem dX3_slotOf_17 : decode cX3_slotOf 17 = .ok (.getfield 9, 3) := by decide +kernel
theorem dX3_slotOf_20 : decode cX3_slotOf 20 = .ok (.getfield 53, 3) := by decide +kernel
theorem dX3_slotOf_23 : decode cX3_slotOf 23 = .ok (.irem, 1) := by decide +kernel
theorem dX3_slotOf_24 : decode cX3_slotOf 24 = .ok (.ireturn, 1) := by decide +kernel
theorem dX3_seedBehind_0 : decode cX3_seedBehind 0 = .ok (.sipush 7919, 3) := by decide +kernel
theorem dX3_seedBehind_3 : decode cX3_seedBehind 3 = .ok (.iload_n 0, 1) := by decide +kernel
theorem dX3_seedBehind_4 : decode cX3_seedBehind 4 = .ok (.imul, 1) := by decide +kernel
theorem dX3_seedBehind_5 : decode cX3_seedBehind 5 = .ok (.sipush 12345, 3) := by decide +kernel
theorem dX3_seedBehind_8 : decode cX3_seedBehind 8 = .ok (.iadd, 1) := by decide +kernel
theorem dX3_seedBehind_9 : decode cX3_seedBehind 9 = .ok (.ldc 56, 2) := by decide +kernel
theorem dX3_seedBehind_11 : decode cX3_seedBehind 11 = .ok (.irem, 1) := by decide +kernel
theorem dX3_seedBehind_12 : decode cX3_seedBehind 12 = .ok (.ireturn, 1) := by decide +kernel
theorem dX4_init_0 : decode cX4_init 0 = .ok (.aload_n 0, 1) := by decide +kernel
theorem dX4_init_1 : decode cX4_init 1 = .ok (.invokespecial 3, 3) := by decide +kernel
theorem dX4_init_4 : decode cX4_init 4 = .ok (.aload_n 0, 1) := by decide +kernel
theorem dX4_init_5 : decode cX4_init 5 = .ok (.aload_n 1, 1) := by decide +kernel
theorem dX4_init_6 : decode cX4_init 6 = .ok (.putfield 9, 3) := by decide +kernel
theorem dX4_init_9 : decode cX4_init 9 = .ok (.aload_n 0, 1) := by decide +kernel
theorem dX4_init_10 : decode cX4_init 10 = .ok (.bipush 6, 2) := by decide +kernel
theorem dX4_init_12 : decode cX4_init 12 = .ok (.newarray .int, 2) := by decide +kernel
theorem dX4_init_14 : decode cX4_init 14 = .ok (.putfield 15, 3) := by decide +kernel
theorem dX4_init_17 : decode cX4_init 17 = .ok (.aload_n 0, 1) := by decide +kernel
theorem dX4_init_18 : decode cX4_init 18 = .ok (.bipush 13, 2) := by decide +kernel
theorem dX4_init_20 : decode cX4_init 20 = .ok (.bipush 6, 2) := by decide +kernel
theorem dX4_init_22 : decode cX4_init 22 = .ok (.multianewarray 19 2, 4) := by decide +kernel
theorem dX4_init_26 : decode cX4_init 26 = .ok (.putfield 21, 3) := by decide +kernel
theorem dX4_init_29 : decode cX4_init 29 = .ok (.return_, 1) := by decide +kernel
set_option maxRecDepth 20000 in
theorem ggX4_forget_J7_fill_53178 : GoodIn wsX4_forget wsJ7_fill_53178 := goodIn_r _ [5] (by decide +kernel) (by decide +kernel)
set_option maxRecDepth 20000 in
theorem gX4_forget_J7_fill_53178 : GoodIn wsX4_forget (va_wsS RX4 24 yJ7_fill_53178 wsJ7_fill_53178) := goodIn_app (goodIn_of _ (by decide +kernel)) ggX4_forget_J7_fill_53178
theorem dX4_forget_0 : decode cX4_forget 0 = .ok (.aload_n 0, 1) := by decide +kernel
theorem dX4_forget_1 : decode cX4_forget 1 = .ok (.getfield 15, 3) := by decide +kernel
theorem dX4_forget_4 : decode cX4_forget 4 = .ok (.iconst 0, 1) := by decide +kernel
theorem dX4_forget_5 : decode cX4_forget 5 = .ok (.invokestatic 24, 3) := by decide +kernel
theorem dX4_forget_8 : decode cX4_forget 8 = .ok (.return_, 1) := by decide +kernel
theorem dX4_setPay_0 : decode cX4_setPay 0 = .ok (.aload_n 0, 1) := by decide +kernel
theorem dX4_setPay_1 : decode cX4_setPay 1 = .ok (.getfield 15, 3) := by decide +kernel
theorem dX4_setPay_4 : decode cX4_setPay 4 = .ok (.iload_n 1, 1) := by decide +kernel
theorem dX4_setPay_5 : decode cX4_setPay 5 = .ok (.iaload, 1) := by decide +kernel
theorem dX4_setPay_6 : decode cX4_setPay 6 = .ok (.istore_n 3, 1) := by decide +kernel
theorem dX4_setPay_7 : decode cX4_setPay 7 = .ok (.aload_n 0, 1) := by decide +kernel
theorem dX4_setPay_8 : decode cX4_setPay 8 = .ok (.getfield 15, 3) := by decide +kernel
theorem dX4_setPay_11 : decode cX4_setPay 11 = .ok (.iload_n 1, 1) := by decide +kernel
theorem dX4_setPay_12 : decode cX4_setPay 12 = .ok (.iload_n 2, 1) := by decide +kernel
theorem dX4_setPay_13 : decode cX4_setPay 13 = .ok (.iastore, 1) := by decide +kernel
theorem dX4_setPay_14 : decode cX4_setPay 14 = .ok (.iload_n 3, 1) := by decide +kernel
theorem dX4_setPay_15 : decode cX4_setPay 15 = .ok (.ireturn, 1) := by decide +kernel
theorem dX4_driftOf_0 : decode cX4_driftOf 0 = .ok (.lconst 0, 1) := by decide +kernel
theorem dX4_driftOf_1 : decode cX4_driftOf 1 = .ok (.lstore_n 2, 1) := by decide +kernel
theorem dX4_driftOf_2 : decode cX4_driftOf 2 = .ok (.iconst 0, 1) := by decide +kernel
theorem dX4_driftOf_3 : decode cX4_driftOf 3 = .ok (.istore 4, 2) := by decide +kernel
theorem dX4_driftOf_5 : decode cX4_driftOf 5 = .ok (.iload 4, 2) := by decide +kernel
theorem dX4_driftOf_7 : decode cX4_driftOf 7 = .ok (.aload_n 0, 1) := by decide +kernel
theorem dX4_driftOf_8 : decode cX4_driftOf 8 = .ok (.getfield 9, 3) := by decide +kernel
theorem dX4_driftOf_11 : decode cX4_driftOf 11 = .ok (.getfield 30, 3) := by decide +kernel
theorem dX4_driftOf_14 : decode cX4_driftOf 14 = .ok (.if_icmp .ge 34, 3) := by decide +kernel
theorem dX4_driftOf_17 : decode cX4_driftOf 17 = .ok (.lload_n 2, 1) := by decide +kernel
theorem dX4_driftOf_18 : decode cX4_driftOf 18 = .ok (.aload_n 0, 1) := by decide +kernel
theorem dX4_driftOf_19 : decode cX4_driftOf 19 = .ok (.getfield 9, 3) := by decide +kernel
theorem dX4_driftOf_22 : decode cX4_driftOf 22 = .ok (.getfield 36, 3) := by decide +kernel
theorem dX4_driftOf_25 : decode cX4_driftOf 25 = .ok (.iload_n 1, 1) := by decide +kernel
theorem dX4_driftOf_26 : decode cX4_driftOf 26 = .ok (.aaload, 1) := by decide +kernel
theorem dX4_driftOf_27 : decode cX4_driftOf 27 = .ok (.iload 4, 2) := by decide +kernel
theorem dX4_driftOf_29 : decode cX4_driftOf 29 = .ok (.iaload, 1) := by decide +kernel
theorem dX4_driftOf_30 : decode cX4_driftOf 30 = .ok (.i2l, 1) := by decide +kernel
theorem dX4_driftOf_31 : decode cX4_driftOf 31 = .ok (.aload_n 0, 1) := by decide +kernel
theorem dX4_driftOf_32 : decode cX4_driftOf 32 = .ok (.getfield 15, 3) := by decide +kernel
theorem dX4_driftOf_35 : decode cX4_driftOf 35 = .ok (.iload 4, 2) := by decide +kernel
theorem dX4_driftOf_37 : decode cX4_driftOf 37 = .ok (.iaload, 1) := by decide +kernel
theorem dX4_driftOf_38 : decode cX4_driftOf 38 = .ok (.i2l, 1) := by decide +kernel
theorem dX4_driftOf_39 : decode cX4_driftOf 39 = .ok (.lmul, 1) := by decide +kernel
theorem dX4_driftOf_40 : decode cX4_driftOf 40 = .ok (.ladd, 1) := by decide +kernel
theorem dX4_driftOf_41 : decode cX4_driftOf 41 = .ok (.lstore_n 2, 1) := by decide +kernel
theorem dX4_driftOf_42 : decode cX4_driftOf 42 = .ok (.iinc 4 1, 3) := by decide +kernel
theorem dX4_driftOf_45 : decode cX4_driftOf 45 = .ok (.goto (-40), 3) := by decide +kernel
theorem dX4_driftOf_48 : decode cX4_driftOf 48 = .ok (.lload_n 2, 1) := by decide +kernel
theorem dX4_driftOf_49 : decode cX4_driftOf 49 = .ok (.aload_n 0, 1) := by decide +kernel
theorem dX4_driftOf_50 : decode cX4_driftOf 50 = .ok (.getfield 9, 3) := by decide +kernel
theorem dX4_driftOf_53 : decode cX4_driftOf 53 = .ok (.getfield 40, 3) := by decide +kernel
theorem dX4_driftOf_56 : decode cX4_driftOf 56 = .ok (.i2l, 1) := by decide +kernel
theorem dX4_driftOf_57 : decode cX4_driftOf 57 = .ok (.aload_n 0, 1) := by decide +kernel
theorem dX4_driftOf_58 : decode cX4_driftOf 58 = .ok (.getfield 15, 3) := by decide +kernel
theorem dX4_driftOf_61 : decode cX4_driftOf 61 = .ok (.iload_n 1, 1) := by decide +kernel
theorem dX4_driftOf_62 : decode cX4_driftOf 62 = .ok (.iaload, 1) := by decide +kernel
theorem dX4_driftOf_63 : decode cX4_driftOf 63 = .ok (.i2l, 1) := by decide +kernel
theorem dX4_driftOf_64 : decode cX4_driftOf 64 = .ok (.lmul, 1) := by decide +kernel
theorem dX4_driftOf_65 : decode cX4_driftOf 65 = .ok (.lsub, 1) := by decide +kernel
theorem dX4_driftOf_66 : decode cX4_driftOf 66 = .ok (.lreturn, 1) := by decide +kernel
set_option maxRecDepth 20000 in
theorem ggX4_bestOf_X4_countBests : GoodIn wsX4_bestOf wsX4_countBests := goodIn_r _ [6, 7, 8, 1, 9, 10, 11, 12, 13, 14, 15, 5, 16, 17, 18, 19, 20, 21, 22, 23, 24, 25, 26, 27, 28, 29, 30, 31, 32, 33, 34, 35, 36, 37, 38, 39, 40] (by decide +kernel) (by decide +kernel)
