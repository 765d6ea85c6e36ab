theorem dX9_init_81 : decode cX9_init 81 = .ok (.newarray .int, 2) := by decide +kernel
theorem dX9_init_83 : decode cX9_init 83 = .ok (.putfield 42, 3) := by decide +kernel
theorem dX9_init_86 : decode cX9_init 86 = .ok (.aload_n 0, 1) := by decide +kernel
theorem dX9_init_87 : decode cX9_init 87 = .ok (.bipush 6, 2) := by decide +kernel
theorem dX9_init_89 : decode cX9_init 89 = .ok (.newarray .int, 2) := by decide +kernel
theorem dX9_init_91 : decode cX9_init 91 = .ok (.putfield 45, 3) := by decide +kernel
theorem dX9_init_94 : decode cX9_init 94 = .ok (.return_, 1) := by decide +kernel
theorem dX9_thrown_0 : decode cX9_thrown 0 = .ok (.aload_n 0, 1) := by decide +kernel
theorem dX9_thrown_1 : decode cX9_thrown 1 = .ok (.getfield 48, 3) := by decide +kernel
theorem dX9_thrown_4 : decode cX9_thrown 4 = .ok (.ireturn, 1) := by decide +kernel
theorem dX9_can_0 : decode cX9_can 0 = .ok (.aload_n 0, 1) := by decide +kernel
theorem dX9_can_1 : decode cX9_can 1 = .ok (.iload_n 1, 1) := by decide +kernel
theorem dX9_can_2 : decode cX9_can 2 = .ok (.putfield 48, 3) := by decide +kernel
theorem dX9_can_5 : decode cX9_can 5 = .ok (.iload_n 1, 1) := by decide +kernel
theorem dX9_can_6 : decode cX9_can 6 = .ok (.ifCond .ne 7, 3) := by decide +kernel
theorem dX9_can_9 : decode cX9_can 9 = .ok (.iconst 1, 1) := by decide +kernel
theorem dX9_can_10 : decode cX9_can 10 = .ok (.goto 4, 3) := by decide +kernel
theorem dX9_can_13 : decode cX9_can 13 = .ok (.iconst 0, 1) := by decide +kernel
theorem dX9_can_14 : decode cX9_can 14 = .ok (.ireturn, 1) := by decide +kernel
theorem dX9_isIn_0 : decode cX9_isIn 0 = .ok (.iload_n 0, 1) := by decide +kernel
theorem dX9_isIn_1 : decode cX9_isIn 1 = .ok (.iload_n 1, 1) := by decide +kernel
theorem dX9_isIn_2 : decode cX9_isIn 2 = .ok (.if_icmp .lt 12, 3) := by decide +kernel
theorem dX9_isIn_5 : decode cX9_isIn 5 = .ok (.iload_n 0, 1) := by decide +kernel
theorem dX9_isIn_6 : decode cX9_isIn 6 = .ok (.iload_n 2, 1) := by decide +kernel
theorem dX9_isIn_7 : decode cX9_isIn 7 = .ok (.if_icmp .gt 7, 3) := by decide +kernel
theorem dX9_isIn_10 : decode cX9_isIn 10 = .ok (.iconst 1, 1) := by decide +kernel
theorem dX9_isIn_11 : decode cX9_isIn 11 = .ok (.goto 4, 3) := by decide +kernel
theorem dX9_isIn_14 : decode cX9_isIn 14 = .ok (.iconst 0, 1) := by decide +kernel
theorem dX9_isIn_15 : decode cX9_isIn 15 = .ok (.ireturn, 1) := by decide +kernel
set_option maxRecDepth 20000 in
theorem ggX9_isState_X9_isIn : GoodIn wsX9_isState wsX9_isIn := goodIn_r _ [5] (by decide +kernel) (by decide +kernel)
set_option maxRecDepth 20000 in
theorem gX9_isState_X9_isIn : GoodIn wsX9_isState (va_wsS RX9 51 yX9_isIn wsX9_isIn) := goodIn_app (goodIn_of _ (by decide +kernel)) ggX9_isState_X9_isIn
theorem dX9_isState_0 : decode cX9_isState 0 = .ok (.iload_n 1, 1) := by decide +kernel
theorem dX9_isState_1 : decode cX9_isState 1 = .ok (.iconst 0, 1) := by decide +kernel
theorem dX9_isState_2 : decode cX9_isState 2 = .ok (.aload_n 0, 1) := by decide +kernel
theorem dX9_isState_3 : decode cX9_isState 3 = .ok (.getfield 7, 3) := by decide +kernel
theorem dX9_isState_6 : decode cX9_isState 6 = .ok (.iconst 1, 1) := by decide +kernel
theorem dX9_isState_7 : decode cX9_isState 7 = .ok (.isub, 1) := by decide +kernel
theorem dX9_isState_8 : decode cX9_isState 8 = .ok (.invokestatic 51, 3) := by decide +kernel
theorem dX9_isState_11 : decode cX9_isState 11 = .ok (.ireturn, 1) := by decide +kernel
set_option maxRecDepth 20000 in
theorem ggX9_isSlot_X9_isIn : GoodIn wsX9_isSlot wsX9_isIn := goodIn_r _ [5] (by decide +kernel) (by decide +kernel)
set_option maxRecDepth 20000 in
theorem gX9_isSlot_X9_isIn : GoodIn wsX9_isSlot (va_wsS RX9 51 yX9_isIn wsX9_isIn) := goodIn_app (goodIn_of _ (by decide +kernel)) ggX9_isSlot_X9_isIn
theorem dX9_isSlot_0 : decode cX9_isSlot 0 = .ok (.iload_n 1, 1) := by decide +kernel
theorem dX9_isSlot_1 : decode cX9_isSlot 1 = .ok (.iconst 0, 1) := by decide +kernel
theorem dX9_isSlot_2 : decode cX9_isSlot 2 = .ok (.aload_n 0, 1) := by decide +kernel
theorem dX9_isSlot_3 : decode cX9_isSlot 3 = .ok (.getfield 13, 3) := by decide +kernel
theorem dX9_isSlot_6 : decode cX9_isSlot 6 = .ok (.iconst 1, 1) := by decide +kernel
theorem dX9_isSlot_7 : decode cX9_isSlot 7 = .ok (.isub, 1) := by decide +kernel
theorem dX9_isSlot_8 : decode cX9_isSlot 8 = .ok (.invokestatic 51, 3) := by decide +kernel
theorem dX9_isSlot_11 : decode cX9_isSlot 11 = .ok (.ireturn, 1) := by decide +kernel
set_option maxRecDepth 20000 in
theorem ggX9_areSteps_X9_isIn : GoodIn wsX9_areSteps wsX9_isIn := goodIn_r _ [4] (by decide +kernel) (by decide +kernel)
set_option maxRecDepth 20000 in
theorem gX9_areSteps_X9_isIn : GoodIn wsX9_areSteps (va_wsS RX9 51 yX9_isIn wsX9_isIn) := goodIn_app (goodIn_of _ (by decide +kernel)) ggX9_areSteps_X9_isIn
theorem dX9_areSteps_0 : decode cX9_areSteps 0 = .ok (.iload_n 0, 1) := by decide +kernel
theorem dX9_areSteps_1 : decode cX9_areSteps 1 = .ok (.iconst 0, 1) := by decide +kernel
theorem dX9_areSteps_2 : decode cX9_areSteps 2 = .ok (.bipush 12, 2) := by decide +kernel
theorem dX9_areSteps_4 : decode cX9_areSteps 4 = .ok (.invokestatic 51, 3) := by decide +kernel
theorem dX9_areSteps_7 : decode cX9_areSteps 7 = .ok (.ireturn, 1) := by decide +kernel
theorem dX9_goes_0 : decode cX9_goes 0 = .ok (.aload_n 0, 1) := by decide +kernel
theorem dX9_goes_1 : decode cX9_goes 1 = .ok (.getfield 16, 3) := by decide +kernel
theorem dX9_goes_4 : decode cX9_goes 4 = .ok (.bipush 12, 2) := by decide +kernel
theorem dX9_goes_6 : decode cX9_goes 6 = .ok (.iload_n 1, 1) := by decide +kernel
theorem dX9_goes_7 : decode cX9_goes 7 = .ok (.imul, 1) := by decide +kernel
theorem dX9_goes_8 : decode cX9_goes 8 = .ok (.iload_n 2, 1) := by decide +kernel
theorem dX9_goes_9 : decode cX9_goes 9 = .ok (.iadd, 1) := by decide +kernel
theorem dX9_goes_10 : decode cX9_goes 10 = .ok (.iaload, 1) := by decide +kernel
theorem dX9_goes_11 : decode cX9_goes 11 = .ok (.ireturn, 1) := by decide +kernel
set_option maxRecDepth 20000 in
theorem ggX9_begin_X9_isIn : GoodIn wsX9_begin wsX9_isIn := goodIn_r _ [9] (by decide +kernel) (by decide +kernel)
set_option maxRecDepth 20000 in
theorem gX9_begin_X9_isIn : GoodIn wsX9_begin (va_wsS RX9 51 yX9_isIn wsX9_isIn) := goodIn_app (goodIn_of _ (by decide +kernel)) ggX9_begin_X9_isIn
set_option maxRecDepth 20000 in
theorem ggX9_begin_X9_can : GoodIn wsX9_begin wsX9_can := goodIn_r _ [13, 14, 15, 16, 17, 18, 19, 20, 21, 22, 23, 24, 25, 26, 27] (by decide +kernel) (by decide +kernel)
set_option maxRecDepth 20000 in
theorem gX9_begin_X9_can : GoodIn wsX9_begin (wsV RX9 55 RX9 yX9_can wsX9_can) := goodIn_app (goodIn_of _ (by decide +kernel)) ggX9_begin_X9_can
theorem dX9_begin_0 : decode cX9_begin 0 = .ok (.aload_n 0, 1) := by decide +kernel
theorem dX9_begin_1 : decode cX9_begin 1 = .ok (.iload_n 1, 1) := by decide +kernel
theorem dX9_begin_2 : decode cX9_begin 2 = .ok (.iconst 1, 1) := by decide +kernel
theorem dX9_begin_3 : decode cX9_begin 3 = .ok (.bipush 6, 2) := by decide +kernel
theorem dX9_begin_5 : decode cX9_begin 5 = .ok (.invokestatic 51, 3) := by decide +kernel
theorem dX9_begin_8 : decode cX9_begin 8 = .ok (.ifCond .eq 17, 3) := by decide +kernel
theorem dX9_begin_11 : decode cX9_begin 11 = .ok (.iload_n 2, 1) := by decide +kernel
theorem dX9_begin_12 : decode cX9_begin 12 = .ok (.iconst 1, 1) := by decide +kernel
theorem dX9_begin_13 : decode cX9_begin 13 = .ok (.bipush 12, 2) := by decide +kernel
theorem dX9_begin_15 : decode cX9_begin 15 = .ok (.invokestatic 51, 3) := by decide +kernel
theorem dX9_begin_18 : decode cX9_begin 18 = .ok (.ifCond .eq 7, 3) := by decide +kernel
theorem dX9_begin_21 : decode cX9_begin 21 = .ok (.iconst 0, 1) := by decide +kernel
theorem dX9_begin_22 : decode cX9_begin 22 = .ok (.goto 4, 3) := by decide +kernel
theorem dX9_begin_25 : decode cX9_begin 25 = .ok (.iconst 1, 1) := by decide +kernel
theorem dX9_begin_26 : decode cX9_begin 26 = .ok (.invokevirtual 55, 3) := by decide +kernel
theorem dX9_begin_29 : decode cX9_begin 29 = .ok (.ifCond .eq 70, 3) := by decide +kernel
theorem dX9_begin_32 : decode cX9_begin 32 = .ok (.aload_n 0, 1) := by decide +kernel
theorem dX9_begin_33 : decode cX9_begin 33 = .ok (.iload_n 1, 1) := by decide +kernel
theorem dX9_begin_34 : decode cX9_begin 34 = .ok (.putfield 7, 3) := by decide +kernel
theorem dX9_begin_37 : decode cX9_begin 37 = .ok (.aload_n 0, 1) := by decide +kernel
theorem dX9_begin_38 : decode cX9_begin 38 = .ok (.iload_n 2, 1) := by decide +kernel
theorem dX9_begin_39 : decode cX9_begin 39 = .ok (.putfield 13, 3) := by decide +kernel
theorem dX9_begin_42 : decode cX9_begin 42 = .ok (.iconst 0, 1) := by decide +kernel
theorem dX9_begin_43 : decode cX9_begin 43 = .ok (.istore_n 3, 1) := by decide +kernel
theorem dX9_begin_44 : decode cX9_begin 44 = .ok (.iload_n 3, 1) := by decide +kernel
theorem dX9_begin_45 : decode cX9_begin 45 = .ok (.bipush 6, 2) := by decide +kernel
theorem dX9_begin_47 : decode cX9_begin 47 = .ok (.if_icmp .ge 52, 3) := by decide +kernel
theorem dX9_begin_50 : decode cX9_begin 50 = .ok (.aload_n 0, 1) := by decide +kernel
theorem dX9_begin_51 : decode cX9_begin 51 = .ok (.getfield 20, 3) := by decide +kernel
theorem dX9_begin_54 : decode cX9_begin 54 = .ok (.iload_n 3, 1) := by decide +kernel
theorem dX9_begin_55 : decode cX9_begin 55 = .ok (.iconst 0, 1) := by decide +kernel
theorem dX9_begin_56 : decode cX9_begin 56 = .ok (.iastore, 1) := by decide +kernel
theorem dX9_begin_57 : decode cX9_begin 57 = .ok (.aload_n 0, 1) := by decide +kernel
theorem dX9_begin_58 : decode cX9_begin 58 = .ok (.getfield 23, 3) := by decide +kernel
theorem dX9_begin_61 : decode cX9_begin 61 = .ok (.iload_n 3, 1) := by decide +kernel
theorem dX9_begin_62 : decode cX9_begin 62 = .ok (.iconst 0, 1) := by decide +kernel
theorem dX9_begin_63 : decode cX9_begin 63 = .ok (.iastore, 1) := by decide +kernel
theorem dX9_begin_64 : decode cX9_begin 64 = .ok (.iconst 0, 1) := by decide +kernel
theorem dX9_begin_65 : decode cX9_begin 65 = .ok (.istore 4, 2) := by decide +kernel
theorem dX9_begin_67 : decode cX9_begin 67 = .ok (.iload 4, 2) := by decide +kernel
theorem dX9_begin_69 : decode cX9_begin 69 = .ok (.bipush 12, 2) := by decide +kernel
theorem dX9_begin_71 : decode cX9_begin 71 = .ok (.if_icmp .ge 22, 3) := by decide +kernel
theorem dX9_begin_74 : decode cX9_begin 74 = .ok (.aload_n 0, 1) := by decide +kernel
theorem dX9_begin_75 : decode cX9_begin 75 = .ok (.getfield 16, 3) := by decide +kernel
theorem dX9_begin_78 : decode cX9_begin 78 = .ok (.bipush 12, 2) := by decide +kernel
theorem dX9_begin_80 : decode cX9_begin 80 = .ok (.iload_n 3, 1) := by decide +kernel
theorem dX9_begin_81 : decode cX9_begin 81 = .ok (.imul, 1) := by decide +kernel
theorem dX9_begin_82 : decode cX9_begin 82 = .ok (.iload 4, 2) := by decide +kernel
theorem dX9_begin_84 : decode cX9_begin 84 = .ok (.iadd, 1) := by decide +kernel
theorem dX9_begin_85 : decode cX9_begin 85 = .ok (.iload_n 3, 1) := by decide +kernel
theorem dX9_begin_86 : decode cX9_begin 86 = .ok (.iastore, 1) := by decide +kernel
theorem dX9_begin_87 : decode cX9_begin 87 = .ok (.iinc 4 1, 3) := by decide +kernel
theorem dX9_begin_90 : decode cX9_begin 90 = .ok (.goto (-23), 3) := by decide +kernel
theorem dX9_begin_93 : decode cX9_begin 93 = .ok (.iinc 3 1, 3) := by decide +kernel
theorem dX9_begin_96 : decode cX9_begin 96 = .ok (.goto (-52), 3) := by decide +kernel
theorem dX9_begin_99 : decode cX9_begin 99 = .ok (.return_, 1) := by decide +kernel
set_option maxRecDepth 20000 in
theorem ggX9_lead_X9_isState : GoodIn wsX9_lead wsX9_isState := goodIn_r _ [6, 7, 8, 9, 5, 10, 25, 26, 27, 28, 29, 30, 31, 32, 33, 34, 35, 36, 37] (by decide +kernel) (by decide +kernel)
set_option maxRecDepth 20000 in
theorem gX9_lead_X9_isState : GoodIn wsX9_lead (wsV RX9 59 RX9 yX9_isState wsX9_isState) := goodIn_app (goodIn_of _ (by decide +kernel)) ggX9_lead_X9_isState
set_option maxRecDepth 20000 in
theorem ggX9_lead_X9_isSlot : GoodIn wsX9_lead wsX9_isSlot := goodIn_r _ [14, 15, 8, 9, 5, 10, 25, 26, 27, 28, 29, 30, 31, 32, 33, 34, 35, 36, 37] (by decide +kernel) (by decide +kernel)
set_option maxRecDepth 20000 in
theorem gX9_lead_X9_isSlot : GoodIn wsX9_lead (wsV RX9 62 RX9 yX9_isSlot wsX9_isSlot) := goodIn_app (goodIn_of _ (by decide +kernel)) ggX9_lead_X9_isSlot
set_option maxRecDepth 20000 in
theorem ggX9_lead_X9_can : GoodIn wsX9_lead wsX9_can := goodIn_r _ [19, 20, 25, 26, 27, 28, 29, 30, 31, 32, 33, 34, 35, 36, 37] (by decide +kernel) (by decide +kernel)
set_option maxRecDepth 20000 in
theorem gX9_lead_X9_can : GoodIn wsX9_lead (wsV RX9 55 RX9 yX9_can wsX9_can) := goodIn_app (goodIn_of _ (by decide +kernel)) ggX9_lead_X9_can
set_option maxRecDepth 20000 in
theorem ggX9_lead_X9_goes : GoodIn wsX9_lead wsX9_goes := goodIn_r _ [24, 1, 25, 26, 27, 28, 29, 30, 31, 32, 33, 34, 35, 36, 37] (by decide +kernel) (by decide +kernel)
set_option maxRecDepth 20000 in
theorem gX9_lead_X9_goes : GoodIn wsX9_lead (wsV RX9 65 RX9 yX9_goes wsX9_goes) := goodIn_app (goodIn_of _ (by decide +kernel)) ggX9_lead_X9_goes
theorem dX9_lead_0 : decode cX9_lead 0 = .ok (.aload_n 0, 1) := by decide +kernel
theorem dX9_lead_1 : decode cX9_lead 1 = .ok (.aload_n 0, 1) := by decide +kernel
theorem dX9_lead_2 : decode cX9_lead 2 = .ok (.iload_n 1, 1) := by decide +kernel
theorem dX9_lead_3 : decode cX9_lead 3 = .ok (.invokevirtual 59, 3) := by decide +kernel
theorem dX9_lead_6 : decode cX9_lead 6 = .ok (.ifCond .eq 23, 3) := by decide +kernel
theorem dX9_lead_9 : decode cX9_lead 9 = .ok (.aload_n 0, 1) := by decide +kernel
theorem dX9_lead_10 : decode cX9_lead 10 = .ok (.iload_n 3, 1) := by decide +kernel
theorem dX9_lead_11 : decode cX9_lead 11 = .ok (.invokevirtual 59, 3) := by decide +kernel
theorem dX9_lead_14 : decode cX9_lead 14 = .ok (.ifCond .eq 15, 3) := by decide +kernel
theorem dX9_lead_17 : decode cX9_lead 17 = .ok (.aload_n 0, 1) := by decide +kernel
theorem dX9_lead_18 : decode cX9_lead 18 = .ok (.iload_n 2, 1) := by decide +kernel
theorem dX9_lead_19 : decode cX9_lead 19 = .ok (.invokevirtual 62, 3) := by decide +kernel
theorem dX9_lead_22 : decode cX9_lead 22 = .ok (.ifCond .eq 7, 3) := by decide +kernel
theorem dX9_lead_25 : decode cX9_lead 25 = .ok (.iconst 0, 1) := by decide +kernel
theorem dX9_lead_26 : decode cX9_lead 26 = .ok (.goto 4, 3) := by decide +kernel
theorem dX9_lead_29 : decode cX9_lead 29 = .ok (.iconst 1, 1) := by decide +kernel
theorem dX9_lead_30 : decode cX9_lead 30 = .ok (.invokevirtual 55, 3) := by decide +kernel
theorem dX9_lead_33 : decode cX9_lead 33 = .ok (.ifCond .ne 5, 3) := by decide +kernel
theorem dX9_lead_36 : decode cX9_lead 36 = .ok (.iconst 0, 1) := by decide +kernel
theorem dX9_lead_37 : decode cX9_lead 37 = .ok (.ireturn, 1) := by decide +kernel
theorem dX9_lead_38 : decode cX9_lead 38 = .ok (.aload_n 0, 1) := by decide +kernel
theorem dX9_lead_39 : decode cX9_lead 39 = .ok (.iload_n 1, 1) := by decide +kernel
theorem dX9_lead_40 : decode cX9_lead 40 = .ok (.iload_n 2, 1) := by decide +kernel
theorem dX9_lead_41 : decode cX9_lead 41 = .ok (.invokevirtual 65, 3) := by decide +kernel
theorem dX9_lead_44 : decode cX9_lead 44 = .ok (.istore 4, 2) := by decide +kernel
theorem dX9_lead_46 : decode cX9_lead 46 = .ok (.aload_n 0, 1) := by decide +kernel
theorem dX9_lead_47 : decode cX9_lead 47 = .ok (.getfield 16, 3) := by decide +kernel
theorem dX9_lead_50 : decode cX9_lead 50 = .ok (.bipush 12, 2) := by decide +kernel
theorem dX9_lead_52 : decode cX9_lead 52 = .ok (.iload_n 1, 1) := by decide +kernel
theorem dX9_lead_53 : decode cX9_lead 53 = .ok (.imul, 1) := by decide +kernel
theorem dX9_lead_54 : decode cX9_lead 54 = .ok (.iload_n 2, 1) := by decide +kernel
theorem dX9_lead_55 : decode cX9_lead 55 = .ok (.iadd, 1) := by decide +kernel
theorem dX9_lead_56 : decode cX9_lead 56 = .ok (.iload_n 3, 1) := by decide +kernel
theorem dX9_lead_57 : decode cX9_lead 57 = .ok (.iastore, 1) := by decide +kernel
theorem dX9_lead_58 : decode cX9_lead 58 = .ok (.iload 4, 2) := by decide +kernel
theorem dX9_lead_60 : decode cX9_lead 60 = .ok (.ireturn, 1) := by decide +kernel
set_option maxRecDepth 20000 in
theorem ggX9_swap_X9_isState : GoodIn wsX9_swap wsX9_isState := goodIn_r _ [6, 7, 8, 9, 5, 10, 25, 26, 27, 28, 29, 30, 31, 32, 33, 34, 35, 36, 37] (by decide +kernel) (by decide +kernel)
set_option maxRecDepth 20000 in
theorem gX9_swap_X9_isState : GoodIn wsX9_swap (wsV RX9 59 RX9 yX9_isState wsX9_isState) := goodIn_app (goodIn_of _ (by decide +kernel)) ggX9_swap_X9_isState
set_option maxRecDepth 20000 in
theorem ggX9_swap_X9_isSlot : GoodIn wsX9_swap wsX9_isSlot := goodIn_r _ [14, 15, 8, 9, 5, 10, 25, 26, 27, 28, 29, 30, 31, 32, 33, 34, 35, 36, 37] (by decide +kernel) (by decide +kernel)
set_option maxRecDepth 20000 in
theorem gX9_swap_X9_isSlot : GoodIn wsX9_swap (wsV RX9 62 RX9 yX9_isSlot wsX9_isSlot) := goodIn_app (goodIn_of _ (by decide +kernel)) ggX9_swap_X9_isSlot
set_option maxRecDepth 20000 in
theorem ggX9_swap_X9_can : GoodIn wsX9_swap wsX9_can := goodIn_r _ [19, 20, 25, 26, 27, 28, 29, 30, 31, 32, 33, 34, 35, 36, 37] (by decide +kernel) (by decide +kernel)
set_option maxRecDepth 20000 in
theorem gX9_swap_X9_can : GoodIn wsX9_swap (wsV RX9 55 RX9 yX9_can wsX9_can) := goodIn_app (goodIn_of _ (by decide +kernel)) ggX9_swap_X9_can
set_option maxRecDepth 20000 in
theorem ggX9_swap_X9_goes : GoodIn wsX9_swap wsX9_goes := goodIn_r _ [24, 1, 25, 26, 27, 28, 29, 30, 31, 32, 33, 34, 35, 36, 37] (by decide +kernel) (by decide +kernel)
set_option maxRecDepth 20000 in
theorem gX9_swap_X9_goes : GoodIn wsX9_swap (wsV RX9 65 RX9 yX9_goes wsX9_goes) := goodIn_app (goodIn_of _ (by decide +kernel)) ggX9_swap_X9_goes
theorem dX9_swap_0 : decode cX9_swap 0 = .ok (.aload_n 0, 1) := by decide +kernel
theorem dX9_swap_1 : decode cX9_swap 1 = .ok (.aload_n 0, 1) := by decide +kernel
theorem dX9_swap_2 : decode cX9_swap 2 = .ok (.iload_n 1, 1) := by decide +kernel
theorem dX9_swap_3 : decode cX9_swap 3 = .ok (.invokevirtual 59, 3) := by decide +kernel
theorem dX9_swap_6 : decode cX9_swap 6 = .ok (.ifCond .eq 23, 3) := by decide +kernel
theorem dX9_swap_9 : decode cX9_swap 9 = .ok (.aload_n 0, 1) := by decide +kernel
theorem dX9_swap_10 : decode cX9_swap 10 = .ok (.iload_n 2, 1) := by decide +kernel
theorem dX9_swap_11 : decode cX9_swap 11 = .ok (.invokevirtual 62, 3) := by decide +kernel
theorem dX9_swap_14 : decode cX9_swap 14 = .ok (.ifCond .eq 15, 3) := by decide +kernel
theorem dX9_swap_17 : decode cX9_swap 17 = .ok (.aload_n 0, 1) := by decide +kernel
theorem dX9_swap_18 : decode cX9_swap 18 = .ok (.iload_n 3, 1) := by decide +kernel
theorem dX9_swap_19 : decode cX9_swap 19 = .ok (.invokevirtual 62, 3) := by decide +kernel
theorem dX9_swap_22 : decode cX9_swap 22 = .ok (.ifCond .eq 7, 3) := by decide +kernel
theorem dX9_swap_25 : decode cX9_swap 25 = .ok (.iconst 0, 1) := by decide +kernel
theorem dX9_swap_26 : decode cX9_swap 26 = .ok (.goto 4, 3) := by decide +kernel
theorem dX9_swap_29 : decode cX9_swap 29 = .ok (.iconst 1, 1) := by decide +kernel
theorem dX9_swap_30 : decode cX9_swap 30 = .ok (.invokevirtual 55, 3) := by decide +kernel
theorem dX9_swap_33 : decode cX9_swap 33 = .ok (.ifCond .eq 41, 3) := by decide +kernel
theorem dX9_swap_36 : decode cX9_swap 36 = .ok (.aload_n 0, 1) := by decide +kernel
theorem dX9_swap_37 : decode cX9_swap 37 = .ok (.iload_n 1, 1) := by decide +kernel
theorem dX9_swap_38 : decode cX9_swap 38 = .ok (.iload_n 2, 1) := by decide +kernel
theorem dX9_swap_39 : decode cX9_swap 39 = .ok (.invokevirtual 65, 3) := by decide +kernel
theorem dX9_swap_42 : decode cX9_swap 42 = .ok (.istore 4, 2) := by decide +kernel
theorem dX9_swap_44 : decode cX9_swap 44 = .ok (.aload_n 0, 1) := by decide +kernel
theorem dX9_swap_45 : decode cX9_swap 45 = .ok (.getfield 16, 3) := by decide +kernel
theorem dX9_swap_48 : decode cX9_swap 48 = .ok (.bipush 12, 2) := by decide +kernel
theorem dX9_swap_50 : decode cX9_swap 50 = .ok (.iload_n 1, 1) := by decide +kernel
theorem dX9_swap_51 : decode cX9_swap 51 = .ok (.imul, 1) := by decide +kernel
theorem dX9_swap_52 : decode cX9_swap 52 = .ok (.iload_n 2, 1) := by decide +kernel
theorem dX9_swap_53 : decode cX9_swap 53 = .ok (.iadd, 1) := by decide +kernel
theorem dX9_swap_54 : decode cX9_swap 54 = .ok (.aload_n 0, 1) := by decide +kernel
theorem dX9_swap_55 : decode cX9_swap 55 = .ok (.iload_n 1, 1) := by decide +kernel
theorem dX9_swap_56 : decode cX9_swap 56 = .ok (.iload_n 3, 1) := by decide +kernel
theorem dX9_swap_57 : decode cX9_swap 57 = .ok (.invokevirtual 65, 3) := by decide +kernel
theorem dX9_swap_60 : decode cX9_swap 60 = .ok (.iastore, 1) := by decide +kernel
theorem dX9_swap_61 : decode cX9_swap 61 = .ok (.aload_n 0, 1) := by decide +kernel
theorem dX9_swap_62 : decode cX9_swap 62 = .ok (.getfield 16, 3) := by decide +kernel
theorem dX9_swap_65 : decode cX9_swap 65 = .ok (.bipush 12, 2) := by decide +kernel
theorem dX9_swap_67 : decode cX9_swap 67 = .ok (.iload_n 1, 1) := by decide +kernel
theorem dX9_swap_68 : decode cX9_swap 68 = .ok (.imul, 1) := by decide +kernel
theorem dX9_swap_69 : decode cX9_swap 69 = .ok (.iload_n 3, 1) := by decide +kernel
theorem dX9_swap_70 : decode cX9_swap 70 = .ok (.iadd, 1) := by decide +kernel
theorem dX9_swap_71 : decode cX9_swap 71 = .ok (.iload 4, 2) := by decide +kernel
theorem dX9_swap_73 : decode cX9_swap 73 = .ok (.iastore, 1) := by decide +kernel
theorem dX9_swap_74 : decode cX9_swap 74 = .ok (.return_, 1) := by decide +kernel
set_option maxRecDepth 20000 in
theorem ggX9_pay_X9_isState : GoodIn wsX9_pay wsX9_isState := goodIn_r _ [8, 9, 10, 11, 7, 12, 18, 19, 20, 21, 22, 23, 24, 25, 26, 27, 28, 29, 30] (by decide +kernel) (by decide +kernel)
set_option maxRecDepth 20000 in
theorem gX9_pay_X9_isState : GoodIn wsX9_pay (wsV RX9 59 RX9 yX9_isState wsX9_isState) := goodIn_app (goodIn_of _ (by decide +kernel)) ggX9_pay_X9_isState
set_option maxRecDepth 20000 in
theorem ggX9_pay_X9_isIn : GoodIn wsX9_pay wsX9_isIn := goodIn_r _ [12] (by decide +kernel) (by decide +kernel)
set_option maxRecDepth 20000 in
theorem gX9_pay_X9_isIn : GoodIn wsX9_pay (va_wsS RX9 51 yX9_isIn wsX9_isIn) := goodIn_app (goodIn_of _ (by decide +kernel)) ggX9_pay_X9_isIn
set_option maxRecDepth 20000 in
theorem ggX9_pay_X9_can : GoodIn wsX9_pay wsX9_can := goodIn_r _ [16, 17, 18, 19, 20, 21, 22, 23, 24, 25, 26, 27, 28, 29, 30] (by decide +kernel) (by decide +kernel)
set_option maxRecDepth 20000 in
theorem gX9_pay_X9_can : GoodIn wsX9_pay (wsV RX9 55 RX9 yX9_can wsX9_can) := goodIn_app (goodIn_of _ (by decide +kernel)) ggX9_pay_X9_can
theorem dX9_pay_0 : decode cX9_pay 0 = .ok (.aload_n 0, 1) := by decide +kernel
theorem dX9_pay_1 : decode cX9_pay 1 = .ok (.aload_n 0, 1) := by decide +kernel
theorem dX9_pay_2 : decode cX9_pay 2 = .ok (.iload_n 1, 1) := by decide +kernel
theorem dX9_pay_3 : decode cX9_pay 3 = .ok (.invokevirtual 59, 3) := by decide +kernel
theorem dX9_pay_6 : decode cX9_pay 6 = .ok (.ifCond .ne 7, 3) := by decide +kernel
theorem dX9_pay_9 : decode cX9_pay 9 = .ok (.iconst 1, 1) := by decide +kernel
theorem dX9_pay_10 : decode cX9_pay 10 = .ok (.goto 19, 3) := by decide +kernel
theorem dX9_pay_13 : decode cX9_pay 13 = .ok (.iload_n 2, 1) := by decide +kernel
theorem dX9_pay_14 : decode cX9_pay 14 = .ok (.ldc 69, 2) := by decide +kernel
theorem dX9_pay_16 : decode cX9_pay 16 = .ok (.ldc 70, 2) := by decide +kernel
theorem dX9_pay_18 : decode cX9_pay 18 = .ok (.invokestatic 51, 3) := by decide +kernel
theorem dX9_pay_21 : decode cX9_pay 21 = .ok (.ifCond .eq 7, 3) := by decide +kernel
theorem dX9_pay_24 : decode cX9_pay 24 = .ok (.iconst 0, 1) := by decide +kernel
theorem dX9_pay_25 : decode cX9_pay 25 = .ok (.goto 4, 3) := by decide +kernel
theorem dX9_pay_28 : decode cX9_pay 28 = .ok (.iconst 2, 1) := by decide +kernel
theorem dX9_pay_29 : decode cX9_pay 29 = .ok (.invokevirtual 55, 3) := by decide +kernel
theorem dX9_pay_32 : decode cX9_pay 32 = .ok (.ifCond .ne 5, 3) := by decide +kernel
theorem dX9_pay_35 : decode cX9_pay 35 = .ok (.iconst 0, 1) := by decide +kernel
theorem dX9_pay_36 : decode cX9_pay 36 = .ok (.ireturn, 1) := by decide +kernel
theorem dX9_pay_37 : decode cX9_pay 37 = .ok (.aload_n 0, 1) := by decide +kernel
theorem dX9_pay_38 : decode cX9_pay 38 = .ok (.getfield 20, 3) := by decide +kernel
theorem dX9_pay_41 : decode cX9_pay 41 = .ok (.iload_n 1, 1) := by decide +kernel
theorem dX9_pay_42 : decode cX9_pay 42 = .ok (.iaload, 1) := by decide +kernel
theorem dX9_pay_43 : decode cX9_pay 43 = .ok (.istore_n 3, 1) := by decide +kernel
theorem dX9_pay_44 : decode cX9_pay 44 = .ok (.aload_n 0, 1) := by decide +kernel
theorem dX9_pay_45 : decode cX9_pay 45 = .ok (.getfield 20, 3) := by decide +kernel
theorem dX9_pay_48 : decode cX9_pay 48 = .ok (.iload_n 1, 1) := by decide +kernel
theorem dX9_pay_49 : decode cX9_pay 49 = .ok (.iload_n 2, 1) := by decide +kernel
theorem dX9_pay_50 : decode cX9_pay 50 = .ok (.iastore, 1) := by decide +kernel
theorem dX9_pay_51 : decode cX9_pay 51 = .ok (.iload_n 3, 1) := by decide +kernel
theorem dX9_pay_52 : decode cX9_pay 52 = .ok (.ireturn, 1) := by decide +kernel
set_option maxRecDepth 20000 in
theorem ggX9_colour_X9_isState : GoodIn wsX9_colour wsX9_isState := goodIn_r _ [6, 7, 8, 9, 5, 10, 16, 17, 18, 19, 20, 21, 22, 23, 24, 25, 26, 27, 28] (by decide +kernel) (by decide +kernel)
set_option maxRecDepth 20000 in
theorem gX9_colour_X9_isState : GoodIn wsX9_colour (wsV RX9 59 RX9 yX9_isState wsX9_isState) := goodIn_app (goodIn_of _ (by decide +kernel)) ggX9_colour_X9_isState
set_option maxRecDepth 20000 in
theorem ggX9_colour_X9_isIn : GoodIn wsX9_colour wsX9_isIn := goodIn_r _ [10] (by decide +kernel) (by decide +kernel)
set_option maxRecDepth 20000 in
theorem gX9_colour_X9_isIn : GoodIn wsX9_colour (va_wsS RX9 51 yX9_isIn wsX9_isIn) := goodIn_app (goodIn_of _ (by decide +kernel)) ggX9_colour_X9_isIn
set_option maxRecDepth 20000 in
theorem ggX9_colour_X9_can : GoodIn wsX9_colour wsX9_can := goodIn_r _ [14, 15, 16, 17, 18, 19, 20, 21, 22, 23, 24, 25, 26, 27, 28] (by decide +kernel) (by decide +kernel)
set_option maxRecDepth 20000 in
theorem gX9_colour_X9_can : GoodIn wsX9_colour (wsV RX9 55 RX9 yX9_can wsX9_can) := goodIn_app (goodIn_of _ (by decide +kernel)) ggX9_colour_X9_can
theorem dX9_colour_0 : decode cX9_colour 0 = .ok (.aload_n 0, 1) := by decide +kernel
theorem dX9_colour_1 : decode cX9_colour 1 = .ok (.aload_n 0, 1) := by decide +kernel
theorem dX9_colour_2 : decode cX9_colour 2 = .ok (.iload_n 1, 1) := by decide +kernel
theorem dX9_colour_3 : decode cX9_colour 3 = .ok (.invokevirtual 59, 3) := by decide +kernel
theorem dX9_colour_6 : decode cX9_colour 6 = .ok (.ifCond .ne 7, 3) := by decide +kernel
theorem dX9_colour_9 : decode cX9_colour 9 = .ok (.iconst 1, 1) := by decide +kernel
theorem dX9_colour_10 : decode cX9_colour 10 = .ok (.goto 17, 3) := by decide +kernel
theorem dX9_colour_13 : decode cX9_colour 13 = .ok (.iload_n 2, 1) := by decide +kernel
theorem dX9_colour_14 : decode cX9_colour 14 = .ok (.iconst 0, 1) := by decide +kernel
theorem dX9_colour_15 : decode cX9_colour 15 = .ok (.iconst 5, 1) := by decide +kernel
theorem dX9_colour_16 : decode cX9_colour 16 = .ok (.invokestatic 51, 3) := by decide +kernel
theorem dX9_colour_19 : decode cX9_colour 19 = .ok (.ifCond .eq 7, 3) := by decide +kernel
theorem dX9_colour_22 : decode cX9_colour 22 = .ok (.iconst 0, 1) := by decide +kernel
theorem dX9_colour_23 : decode cX9_colour 23 = .ok (.goto 4, 3) := by decide +kernel
theorem dX9_colour_26 : decode cX9_colour 26 = .ok (.iconst 2, 1) := by decide +kernel
theorem dX9_colour_27 : decode cX9_colour 27 = .ok (.invokevirtual 55, 3) := by decide +kernel
theorem dX9_colour_30 : decode cX9_colour 30 = .ok (.ifCond .ne 5, 3) := by decide +kernel
theorem dX9_colour_33 : decode cX9_colour 33 = .ok (.iconst 0, 1) := by decide +kernel
theorem dX9_colour_34 : decode cX9_colour 34 = .ok (.ireturn, 1) := by decide +kernel
theorem dX9_colour_35 : decode cX9_colour 35 = .ok (.aload_n 0, 1) := by decide +kernel
theorem dX9_colour_36 : decode cX9_colour 36 = .ok (.getfield 23, 3) := by decide +kernel
theorem dX9_colour_39 : decode cX9_colour 39 = .ok (.iload_n 1, 1) := by decide +kernel
theorem dX9_colour_40 : decode cX9_colour 40 = .ok (.iaload, 1) := by decide +kernel
theorem dX9_colour_41 : decode cX9_colour 41 = .ok (.istore_n 3, 1) := by decide +kernel
theorem dX9_colour_42 : decode cX9_colour 42 = .ok (.aload_n 0, 1) := by decide +kernel
theorem dX9_colour_43 : decode cX9_colour 43 = .ok (.getfield 23, 3) := by decide +kernel
theorem dX9_colour_46 : decode cX9_colour 46 = .ok (.iload_n 1, 1) := by decide +kernel
theorem dX9_colour_47 : decode cX9_colour 47 = .ok (.iload_n 2, 1) := by decide +kernel
theorem dX9_colour_48 : decode cX9_colour 48 = .ok (.iastore, 1) := by decide +kernel
theorem dX9_colour_49 : decode cX9_colour 49 = .ok (.iload_n 3, 1) := by decide +kernel
theorem dX9_colour_50 : decode cX9_colour 50 = .ok (.ireturn, 1) := by decide +kernel
set_option maxRecDepth 20000 in
theorem ggX9_weigh_X9_goes : GoodIn wsX9_weigh wsX9_goes := goodIn_r _ [6, 7, 8, 9, 10, 11, 12, 13, 14, 15, 16, 17, 18, 19, 20] (by decide +kernel) (by decide +kernel)
set_option maxRecDepth 20000 in
theorem gX9_weigh_X9_goes : GoodIn wsX9_weigh (wsV RX9 65 RX9 yX9_goes wsX9_goes) := goodIn_app (goodIn_of _ (by decide +kernel)) ggX9_weigh_X9_goes
theorem dX9_weigh_0 : decode cX9_weigh 0 = .ok (.iconst 0, 1) := by decide +kernel
theorem dX9_weigh_1 : decode cX9_weigh 1 = .ok (.istore_n 3, 1) := by decide +kernel
theorem dX9_weigh_2 : decode cX9_weigh 2 = .ok (.iconst 0, 1) := by decide +kernel
theorem dX9_weigh_3 : decode cX9_weigh 3 = .ok (.istore 4, 2) := by decide +kernel
theorem dX9_weigh_5 : decode cX9_weigh 5 = .ok (.iload 4, 2) := by decide +kernel
theorem dX9_weigh_7 : decode cX9_weigh 7 = .ok (.aload_n 0, 1) := by decide +kernel
theorem dX9_weigh_8 : decode cX9_weigh 8 = .ok (.getfield 13, 3) := by decide +kernel
theorem dX9_weigh_11 : decode cX9_weigh 11 = .ok (.if_icmp .ge 28, 3) := by decide +kernel
theorem dX9_weigh_14 : decode cX9_weigh 14 = .ok (.iload_n 3, 1) := by decide +kernel
theorem dX9_weigh_15 : decode cX9_weigh 15 = .ok (.aload_n 0, 1) := by decide +kernel
theorem dX9_weigh_16 : decode cX9_weigh 16 = .ok (.iload_n 1, 1) := by decide +kernel
theorem dX9_weigh_17 : decode cX9_weigh 17 = .ok (.iload 4, 2) := by decide +kernel
theorem dX9_weigh_19 : decode cX9_weigh 19 = .ok (.invokevirtual 65, 3) := by decide +kernel
theorem dX9_weigh_22 : decode cX9_weigh 22 = .ok (.iload_n 2, 1) := by decide +kernel
theorem dX9_weigh_23 : decode cX9_weigh 23 = .ok (.if_icmp .ne 7, 3) := by decide +kernel
theorem dX9_weigh_26 : decode cX9_weigh 26 = .ok (.iconst 1, 1) := by decide +kernel
theorem dX9_weigh_27 : decode cX9_weigh 27 = .ok (.goto 4, 3) := by decide +kernel
theorem dX9_weigh_30 : decode cX9_weigh 30 = .ok (.iconst 0, 1) := by decide +kernel
theorem dX9_weigh_31 : decode cX9_weigh 31 = .ok (.iadd, 1) := by decide +kernel
theorem dX9_weigh_32 : decode cX9_weigh 32 = .ok (.istore_n 3, 1) := by decide +kernel
theorem dX9_weigh_33 : decode cX9_weigh 33 = .ok (.iinc 4 1, 3) := by decide +kernel
theorem dX9_weigh_36 : decode cX9_weigh 36 = .ok (.goto (-31), 3) := by decide +kernel
theorem dX9_weigh_39 : decode cX9_weigh 39 = .ok (.iload_n 3, 1) := by decide +kernel
theorem dX9_weigh_40 : decode cX9_weigh 40 = .ok (.ireturn, 1) := by decide +kernel
set_option maxRecDepth 20000 in
theorem ggX9_weight_X9_isState : GoodIn wsX9_weight wsX9_isState := goodIn_r _ [5, 6, 7, 8, 4, 9, 25, 26, 27, 28, 29, 30, 31, 32, 33, 34, 35, 36, 37] (by decide +kernel) (by decide +kernel)
set_option maxRecDepth 20000 in
theorem gX9_weight_X9_isState : GoodIn wsX9_weight (wsV RX9 59 RX9 yX9_isState wsX9_isState) := goodIn_app (goodIn_of _ (by decide +kernel)) ggX9_weight_X9_isState
set_option maxRecDepth 20000 in
theorem ggX9_weight_X9_can : GoodIn wsX9_weight wsX9_can := goodIn_r _ [13, 14, 25, 26, 27, 28, 29, 30, 31, 32, 33, 34, 35, 36, 37] (by decide +kernel) (by decide +kernel)
set_option maxRecDepth 20000 in
theorem gX9_weight_X9_can : GoodIn wsX9_weight (wsV RX9 55 RX9 yX9_can wsX9_can) := goodIn_app (goodIn_of _ (by decide +kernel)) ggX9_weight_X9_can
set_option maxRecDepth 20000 in
theorem ggX9_weight_X9_weigh : GoodIn wsX9_weight wsX9_weigh := goodIn_r _ [18, 19, 20, 21, 22, 4, 23, 24, 25, 26, 27, 28, 29, 30, 31, 32, 33, 34, 35, 36, 37] (by decide +kernel) (by decide +kernel)
set_option maxRecDepth 20000 in
theorem gX9_weight_X9_weigh : GoodIn wsX9_weight (wsV RX9 71 RX9 yX9_weigh wsX9_weigh) := goodIn_app (goodIn_of _ (by decide +kernel)) ggX9_weight_X9_weigh
theorem dX9_weight_0 : decode cX9_weight 0 = .ok (.aload_n 0, 1) := by decide +kernel
theorem dX9_weight_1 : decode cX9_weight 1 = .ok (.aload_n 0, 1) := by decide +kernel
theorem dX9_weight_2 : decode cX9_weight 2 = .ok (.iload_n 1, 1) := by decide +kernel
theorem dX9_weight_3 : decode cX9_weight 3 = .ok (.invokevirtual 59, 3) := by decide +kernel
theorem dX9_weight_6 : decode cX9_weight 6 = .ok (.ifCond .eq 15, 3) := by decide +kernel
theorem dX9_weight_9 : decode cX9_weight 9 = .ok (.aload_n 0, 1) := by decide +kernel
theorem dX9_weight_10 : decode cX9_weight 10 = .ok (.iload_n 2, 1) := by decide +kernel
theorem dX9_weight_11 : decode cX9_weight 11 = .ok (.invokevirtual 59, 3) := by decide +kernel
theorem dX9_weight_14 : decode cX9_weight 14 = .ok (.ifCond .eq 7, 3) := by decide +kernel
theorem dX9_weight_17 : decode cX9_weight 17 = .ok (.iconst 0, 1) := by decide +kernel
theorem dX9_weight_18 : decode cX9_weight 18 = .ok (.goto 4, 3) := by decide +kernel
theorem dX9_weight_21 : decode cX9_weight 21 = .ok (.iconst 1, 1) := by decide +kernel
theorem dX9_weight_22 : decode cX9_weight 22 = .ok (.invokevirtual 55, 3) := by decide +kernel
theorem dX9_weight_25 : decode cX9_weight 25 = .ok (.ifCond .eq 12, 3) := by decide +kernel
theorem dX9_weight_28 : decode cX9_weight 28 = .ok (.aload_n 0, 1) := by decide +kernel
theorem dX9_weight_29 : decode cX9_weight 29 = .ok (.iload_n 1, 1) := by decide +kernel
theorem dX9_weight_30 : decode cX9_weight 30 = .ok (.iload_n 2, 1) := by decide +kernel
theorem dX9_weight_31 : decode cX9_weight 31 = .ok (.invokevirtual 71, 3) := by decide +kernel
theorem dX9_weight_34 : decode cX9_weight 34 = .ok (.goto 4, 3) := by decide +kernel
theorem dX9_weight_37 : decode cX9_weight 37 = .ok (.iconst 0, 1) := by decide +kernel
theorem dX9_weight_38 : decode cX9_weight 38 = .ok (.ireturn, 1) := by decide +kernel
theorem dX9_power_0 : decode cX9_power 0 = .ok (.lconst 1, 1) := by decide +kernel
theorem dX9_power_1 : decode cX9_power 1 = .ok (.lstore_n 2, 1) := by decide +kernel
theorem dX9_power_2 : decode cX9_power 2 = .ok (.iconst 0, 1) := by decide +kernel
theorem dX9_power_3 : decode cX9_power 3 = .ok (.istore 4, 2) := by decide +kernel
theorem dX9_power_5 : decode cX9_power 5 = .ok (.iload 4, 2) := by decide +kernel
theorem dX9_power_7 : decode cX9_power 7 = .ok (.iload_n 1, 1) := by decide +kernel
theorem dX9_power_8 : decode cX9_power 8 = .ok (.if_icmp .ge 17, 3) := by decide +kernel
theorem dX9_power_11 : decode cX9_power 11 = .ok (.lload_n 2, 1) := by decide +kernel
theorem dX9_power_12 : decode cX9_power 12 = .ok (.aload_n 0, 1) := by decide +kernel
theorem dX9_power_13 : decode cX9_power 13 = .ok (.getfield 13, 3) := by decide +kernel
theorem dX9_power_16 : decode cX9_power 16 = .ok (.i2l, 1) := by decide +kernel
theorem dX9_power_17 : decode cX9_power 17 = .ok (.lmul, 1) := by decide +kernel
theorem dX9_power_18 : decode cX9_power 18 = .ok (.lstore_n 2, 1) := by decide +kernel
theorem dX9_power_19 : decode cX9_power 19 = .ok (.iinc 4 1, 3) := by decide +kernel
theorem dX9_power_22 : decode cX9_power 22 = .ok (.goto (-17), 3) := by decide +kernel
theorem dX9_power_25 : decode cX9_power 25 = .ok (.lload_n 2, 1) := by decide +kernel
theorem dX9_power_26 : decode cX9_power 26 = .ok (.lreturn, 1) := by decide +kernel
set_option maxRecDepth 20000 in
theorem ggX9_words_X9_areSteps : GoodIn wsX9_words wsX9_areSteps := goodIn_r _ [4, 5, 6, 3, 7] (by decide +kernel) (by decide +kernel)
set_option maxRecDepth 20000 in
theorem gX9_words_X9_areSteps : GoodIn wsX9_words (va_wsS RX9 74 yX9_areSteps wsX9_areSteps) := goodIn_app (goodIn_of _ (by decide +kernel)) ggX9_words_X9_areSteps
set_option maxRecDepth 20000 in
theorem ggX9_words_X9_can : GoodIn wsX9_words wsX9_can := goodIn_r _ [11, 12, 18, 19, 20, 21, 22, 23, 24, 25, 26, 27, 28, 29, 30] (by decide +kernel) (by decide +kernel)
set_option maxRecDepth 20000 in
theorem gX9_words_X9_can : GoodIn wsX9_words (wsV RX9 55 RX9 yX9_can wsX9_can) := goodIn_app (goodIn_of _ (by decide +kernel)) ggX9_words_X9_can
set_option maxRecDepth 20000 in
theorem ggX9_words_X9_power : GoodIn wsX9_words wsX9_power := goodIn_r _ [16, 17, 18, 19, 20, 21, 22, 23, 24, 25, 26, 27, 28, 29, 30] (by decide +kernel) (by decide +kernel)
set_option maxRecDepth 20000 in
theorem gX9_words_X9_power : GoodIn wsX9_words (wsV RX9 77 RX9 yX9_power wsX9_power) := goodIn_app (goodIn_of _ (by decide +kernel)) ggX9_words_X9_power
theorem dX9_words_0 : decode cX9_words 0 = .ok (.aload_n 0, 1) := by decide +kernel
theorem dX9_words_1 : decode cX9_words 1 = .ok (.iload_n 1, 1) := by decide +kernel
theorem dX9_words_2 : decode cX9_words 2 = .ok (.invokestatic 74, 3) := by decide +kernel
theorem dX9_words_5 : decode cX9_words 5 = .ok (.ifCond .eq 7, 3) := by decide +kernel
theorem dX9_words_8 : decode cX9_words 8 = .ok (.iconst 0, 1) := by decide +kernel
theorem dX9_words_9 : decode cX9_words 9 = .ok (.goto 4, 3) := by decide +kernel
theorem dX9_words_12 : decode cX9_words 12 = .ok (.iconst 1, 1) := by decide +kernel
theorem dX9_words_13 : decode cX9_words 13 = .ok (.invokevirtual 55, 3) := by decide +kernel
theorem dX9_words_16 : decode cX9_words 16 = .ok (.ifCond .eq 11, 3) := by decide +kernel
theorem dX9_words_19 : decode cX9_words 19 = .ok (.aload_n 0, 1) := by decide +kernel
theorem dX9_words_20 : decode cX9_words 20 = .ok (.iload_n 1, 1) := by decide +kernel
theorem dX9_words_21 : decode cX9_words 21 = .ok (.invokevirtual 77, 3) := by decide +kernel
theorem dX9_words_24 : decode cX9_words 24 = .ok (.goto 4, 3) := by decide +kernel
theorem dX9_words_27 : decode cX9_words 27 = .ok (.lconst 0, 1) := by decide +kernel
theorem dX9_words_28 : decode cX9_words 28 = .ok (.lreturn, 1) := by decide +kernel
theorem dX9_keeps_0 : decode cX9_keeps 0 = .ok (.iconst 0, 1) := by decide +kernel
theorem dX9_keeps_1 : decode cX9_keeps 1 = .ok (.istore_n 1, 1) := by decide +kernel
theorem dX9_keeps_2 : decode cX9_keeps 2 = .ok (.iload_n 1, 1) := by decide +kernel
theorem dX9_keeps_3 : decode cX9_keeps 3 = .ok (.bipush 64, 2) := by decide +kernel
theorem dX9_keeps_5 : decode cX9_keeps 5 = .ok (.if_icmp .ge 28, 3) := by decide +kernel
theorem dX9_keeps_8 : decode cX9_keeps 8 = .ok (.aload_n 0, 1) := by decide +kernel
theorem dX9_keeps_9 : decode cX9_keeps 9 = .ok (.getfield 30, 3) := by decide +kernel
theorem dX9_keeps_12 : decode cX9_keeps 12 = .ok (.iload_n 1, 1) := by decide +kernel
theorem dX9_keeps_13 : decode cX9_keeps 13 = .ok (.aload_n 0, 1) := by decide +kernel
theorem dX9_keeps_14 : decode cX9_keeps 14 = .ok (.getfield 26, 3) := by decide +kernel
theorem dX9_keeps_17 : decode cX9_keeps 17 = .ok (.iload_n 1, 1) := by decide +kernel
theorem dX9_keeps_18 : decode cX9_keeps 18 = .ok (.laload, 1) := by decide +kernel
theorem dX9_keeps_19 : decode cX9_keeps 19 = .ok (.lastore, 1) := by decide +kernel
theorem dX9_keeps_20 : decode cX9_keeps 20 = .ok (.aload_n 0, 1) := by decide +kernel
theorem dX9_keeps_21 : decode cX9_keeps 21 = .ok (.getfield 26, 3) := by decide +kernel
theorem dX9_keeps_24 : decode cX9_keeps 24 = .ok (.iload_n 1, 1) := by decide +kernel
theorem dX9_keeps_25 : decode cX9_keeps 25 = .ok (.lconst 0, 1) := by decide +kernel
theorem dX9_keeps_26 : decode cX9_keeps 26 = .ok (.lastore, 1) := by decide +kernel
theorem dX9_keeps_27 : decode cX9_keeps 27 = .ok (.iinc 1 1, 3) := by decide +kernel
theorem dX9_keeps_30 : decode cX9_keeps 30 = .ok (.goto (-28), 3) := by decide +kernel
theorem dX9_keeps_33 : decode cX9_keeps 33 = .ok (.return_, 1) := by decide +kernel
theorem dX9_begins_0 : decode cX9_begins 0 = .ok (.iconst 0, 1) := by decide +kernel
theorem dX9_begins_1 : decode cX9_begins 1 = .ok (.istore_n 2, 1) := by decide +kernel
theorem dX9_begins_2 : decode cX9_begins 2 = .ok (.iload_n 2, 1) := by decide +kernel
theorem dX9_begins_3 : decode cX9_begins 3 = .ok (.bipush 64, 2) := by decide +kernel
theorem dX9_begins_5 : decode cX9_begins 5 = .ok (.if_icmp .ge 25, 3) := by decide +kernel
theorem dX9_begins_8 : decode cX9_begins 8 = .ok (.aload_n 0, 1) := by decide +kernel
theorem dX9_begins_9 : decode cX9_begins 9 = .ok (.getfield 26, 3) := by decide +kernel
theorem dX9_begins_12 : decode cX9_begins 12 = .ok (.iload_n 2, 1) := by decide +kernel
theorem dX9_begins_13 : decode cX9_begins 13 = .ok (.iload_n 2, 1) := by decide +kernel
theorem dX9_begins_14 : decode cX9_begins 14 = .ok (.iload_n 1, 1) := by decide +kernel
theorem dX9_begins_15 : decode cX9_begins 15 = .ok (.if_icmp .ne 7, 3) := by decide +kernel
theorem dX9_begins_18 : decode cX9_begins 18 = .ok (.lconst 1, 1) := by decide +kernel
theorem dX9_begins_19 : decode cX9_begins 19 = .ok (.goto 4, 3) := by decide +kernel
theorem dX9_begins_22 : decode cX9_begins 22 = .ok (.lconst 0, 1) := by decide +kernel
theorem dX9_begins_23 : decode cX9_begins 23 = .ok (.lastore, 1) := by decide +kernel
theorem dX9_begins_24 : decode cX9_begins 24 = .ok (.iinc 2 1, 3) := by decide +kernel
theorem dX9_begins_27 : decode cX9_begins 27 = .ok (.goto (-25), 3) := by decide +kernel
theorem dX9_begins_30 : decode cX9_begins 30 = .ok (.return_, 1) := by decide +kernel
set_option maxRecDepth 20000 in
theorem ggX9_spreads_X9_begins : GoodIn wsX9_spreads wsX9_begins := goodIn_r _ [9, 3, 19, 20, 21, 22, 23, 24, 25, 26, 27, 28, 29, 30, 31] (by decide +kernel) (by decide +kernel)
set_option maxRecDepth 20000 in
theorem gX9_spreads_X9_begins : GoodIn wsX9_spreads (wsV RX9 81 RX9 yX9_begins wsX9_begins) := goodIn_app (goodIn_of _ (by decide +kernel)) ggX9_spreads_X9_begins
set_option maxRecDepth 20000 in
theorem ggX9_spreads_X9_keeps : GoodIn wsX9_spreads wsX9_keeps := goodIn_r _ [13, 4, 3, 19, 20, 21, 22, 23, 24, 25, 26, 27, 28, 29, 30, 31] (by decide +kernel) (by decide +kernel)
set_option maxRecDepth 20000 in
theorem gX9_spreads_X9_keeps : GoodIn wsX9_spreads (wsV RX9 85 RX9 yX9_keeps wsX9_keeps) := goodIn_app (goodIn_of _ (by decide +kernel)) ggX9_spreads_X9_keeps
set_option maxRecDepth 20000 in
theorem ggX9_spreads_X9_goes : GoodIn wsX9_spreads wsX9_goes := goodIn_r _ [17, 18, 19, 20, 21, 22, 23, 24, 25, 26, 27, 28, 29, 30, 31] (by decide +kernel) (by decide +kernel)
set_option maxRecDepth 20000 in
theorem gX9_spreads_X9_goes : GoodIn wsX9_spreads (wsV RX9 65 RX9 yX9_goes wsX9_goes) := goodIn_app (goodIn_of _ (by decide +kernel)) ggX9_spreads_X9_goes
theorem dX9_spreads_0 : decode cX9_spreads 0 = .ok (.aload_n 0, 1) := by decide +kernel
theorem dX9_spreads_1 : decode cX9_spreads 1 = .ok (.iload_n 1, 1) := by decide +kernel
theorem dX9_spreads_2 : decode cX9_spreads 2 = .ok (.invokevirtual 81, 3) := by decide +kernel
theorem dX9_spreads_5 : decode cX9_spreads 5 = .ok (.iconst 0, 1) := by decide +kernel
theorem dX9_spreads_6 : decode cX9_spreads 6 = .ok (.istore_n 3, 1) := by decide +kernel
theorem dX9_spreads_7 : decode cX9_spreads 7 = .ok (.iload_n 3, 1) := by decide +kernel
theorem dX9_spreads_8 : decode cX9_spreads 8 = .ok (.iload_n 2, 1) := by decide +kernel
theorem dX9_spreads_9 : decode cX9_spreads 9 = .ok (.if_icmp .ge 74, 3) := by decide +kernel
theorem dX9_spreads_12 : decode cX9_spreads 12 = .ok (.aload_n 0, 1) := by decide +kernel
theorem dX9_spreads_13 : decode cX9_spreads 13 = .ok (.invokevirtual 85, 3) := by decide +kernel
theorem dX9_spreads_16 : decode cX9_spreads 16 = .ok (.iconst 0, 1) := by decide +kernel
theorem dX9_spreads_17 : decode cX9_spreads 17 = .ok (.istore 4, 2) := by decide +kernel
theorem dX9_spreads_19 : decode cX9_spreads 19 = .ok (.iload 4, 2) := by decide +kernel
theorem dX9_spreads_21 : decode cX9_spreads 21 = .ok (.aload_n 0, 1) := by decide +kernel
theorem dX9_spreads_22 : decode cX9_spreads 22 = .ok (.getfield 7, 3) := by decide +kernel
theorem dX9_spreads_25 : decode cX9_spreads 25 = .ok (.aload_n 0, 1) := by decide +kernel
theorem dX9_spreads_26 : decode cX9_spreads 26 = .ok (.getfield 13, 3) := by decide +kernel
theorem dX9_spreads_29 : decode cX9_spreads 29 = .ok (.imul, 1) := by decide +kernel
theorem dX9_spreads_30 : decode cX9_spreads 30 = .ok (.if_icmp .ge 47, 3) := by decide +kernel
theorem dX9_spreads_33 : decode cX9_spreads 33 = .ok (.aload_n 0, 1) := by decide +kernel
theorem dX9_spreads_34 : decode cX9_spreads 34 = .ok (.getfield 26, 3) := by decide +kernel
theorem dX9_spreads_37 : decode cX9_spreads 37 = .ok (.aload_n 0, 1) := by decide +kernel
theorem dX9_spreads_38 : decode cX9_spreads 38 = .ok (.iload 4, 2) := by decide +kernel
theorem dX9_spreads_40 : decode cX9_spreads 40 = .ok (.aload_n 0, 1) := by decide +kernel
theorem dX9_spreads_41 : decode cX9_spreads 41 = .ok (.getfield 13, 3) := by decide +kernel
theorem dX9_spreads_44 : decode cX9_spreads 44 = .ok (.idiv, 1) := by decide +kernel
theorem dX9_spreads_45 : decode cX9_spreads 45 = .ok (.iload 4, 2) := by decide +kernel
theorem dX9_spreads_47 : decode cX9_spreads 47 = .ok (.aload_n 0, 1) := by decide +kernel
theorem dX9_spreads_48 : decode cX9_spreads 48 = .ok (.getfield 13, 3) := by decide +kernel
theorem dX9_spreads_51 : decode cX9_spreads 51 = .ok (.irem, 1) := by decide +kernel
theorem dX9_spreads_52 : decode cX9_spreads 52 = .ok (.invokevirtual 65, 3) := by decide +kernel
theorem dX9_spreads_55 : decode cX9_spreads 55 = .ok (.dup2, 1) := by decide +kernel
theorem dX9_spreads_56 : decode cX9_spreads 56 = .ok (.laload, 1) := by decide +kernel
theorem dX9_spreads_57 : decode cX9_spreads 57 = .ok (.aload_n 0, 1) := by decide +kernel
theorem dX9_spreads_58 : decode cX9_spreads 58 = .ok (.getfield 30, 3) := by decide +kernel
theorem dX9_spreads_61 : decode cX9_spreads 61 = .ok (.iload 4, 2) := by decide +kernel
theorem dX9_spreads_63 : decode cX9_spreads 63 = .ok (.aload_n 0, 1) := by decide +kernel
theorem dX9_spreads_64 : decode cX9_spreads 64 = .ok (.getfield 13, 3) := by decide +kernel
theorem dX9_spreads_67 : decode cX9_spreads 67 = .ok (.idiv, 1) := by decide +kernel
theorem dX9_spreads_68 : decode cX9_spreads 68 = .ok (.laload, 1) := by decide +kernel
theorem dX9_spreads_69 : decode cX9_spreads 69 = .ok (.ladd, 1) := by decide +kernel
theorem dX9_spreads_70 : decode cX9_spreads 70 = .ok (.lastore, 1) := by decide +kernel
theorem dX9_spreads_71 : decode cX9_spreads 71 = .ok (.iinc 4 1, 3) := by decide +kernel
theorem dX9_spreads_74 : decode cX9_spreads 74 = .ok (.goto (-55), 3) := by decide +kernel
theorem dX9_spreads_77 : decode cX9_spreads 77 = .ok (.iinc 3 1, 3) := by decide +kernel
theorem dX9_spreads_80 : decode cX9_spreads 80 = .ok (.goto (-73), 3) := by decide +kernel
theorem dX9_spreads_83 : decode cX9_spreads 83 = .ok (.return_, 1) := by decide +kernel
set_option maxRecDepth 20000 in
theorem ggX9_lawFault_X9_isState : GoodIn wsX9_lawFault wsX9_isState := goodIn_r _ [5, 6, 7, 8, 4, 9, 10, 11, 12, 13, 14, 15, 16, 17, 18, 19, 20, 21, 22] (by decide +kernel) (by decide +kernel)
set_option maxRecDepth 20000 in
theorem gX9_lawFault_X9_isState : GoodIn wsX9_lawFault (wsV RX9 59 RX9 yX9_isState wsX9_isState) := goodIn_app (goodIn_of _ (by decide +kernel)) ggX9_lawFault_X9_isState
set_option maxRecDepth 20000 in
theorem ggX9_lawFault_X9_isIn : GoodIn wsX9_lawFault wsX9_isIn := goodIn_r _ [9] (by decide +kernel) (by decide +kernel)
set_option maxRecDepth 20000 in
theorem gX9_lawFault_X9_isIn : GoodIn wsX9_lawFault (va_wsS RX9 51 yX9_isIn wsX9_isIn) := goodIn_app (goodIn_of _ (by decide +kernel)) ggX9_lawFault_X9_isIn
theorem dX9_lawFault_0 : decode cX9_lawFault 0 = .ok (.aload_n 0, 1) := by decide +kernel
theorem dX9_lawFault_1 : decode cX9_lawFault 1 = .ok (.iload_n 1, 1) := by decide +kernel
theorem dX9_lawFault_2 : decode cX9_lawFault 2 = .ok (.invokevirtual 59, 3) := by decide +kernel
theorem dX9_lawFault_5 : decode cX9_lawFault 5 = .ok (.ifCond .eq 11, 3) := by decide +kernel
theorem dX9_lawFault_8 : decode cX9_lawFault 8 = .ok (.aload_n 0, 1) := by decide +kernel
theorem dX9_lawFault_9 : decode cX9_lawFault 9 = .ok (.iload_n 3, 1) := by decide +kernel
theorem dX9_lawFault_10 : decode cX9_lawFault 10 = .ok (.invokevirtual 59, 3) := by decide +kernel
theorem dX9_lawFault_13 : decode cX9_lawFault 13 = .ok (.ifCond .ne 7, 3) := by decide +kernel
theorem dX9_lawFault_16 : decode cX9_lawFault 16 = .ok (.iconst 1, 1) := by decide +kernel
theorem dX9_lawFault_17 : decode cX9_lawFault 17 = .ok (.goto 18, 3) := by decide +kernel
theorem dX9_lawFault_20 : decode cX9_lawFault 20 = .ok (.iload_n 2, 1) := by decide +kernel
theorem dX9_lawFault_21 : decode cX9_lawFault 21 = .ok (.iconst 0, 1) := by decide +kernel
theorem dX9_lawFault_22 : decode cX9_lawFault 22 = .ok (.iload 4, 2) := by decide +kernel
theorem dX9_lawFault_24 : decode cX9_lawFault 24 = .ok (.invokestatic 51, 3) := by decide +kernel
theorem dX9_lawFault_27 : decode cX9_lawFault 27 = .ok (.ifCond .eq 7, 3) := by decide +kernel
theorem dX9_lawFault_30 : decode cX9_lawFault 30 = .ok (.iconst 0, 1) := by decide +kernel
theorem dX9_lawFault_31 : decode cX9_lawFault 31 = .ok (.goto 4, 3) := by decide +kernel
theorem dX9_lawFault_34 : decode cX9_lawFault 34 = .ok (.iconst 2, 1) := by decide +kernel
theorem dX9_lawFault_35 : decode cX9_lawFault 35 = .ok (.ireturn, 1) := by decide +kernel
set_option maxRecDepth 20000 in
theorem ggX9_lawOf_X9_spreads : GoodIn wsX9_lawOf wsX9_spreads := goodIn_r _ [6, 7, 8, 1, 9, 10, 11, 12, 5, 13, 14, 15, 16, 17, 18, 19, 20, 21, 22, 23, 24, 25, 26, 27, 28, 29, 30, 31, 32, 33, 34, 35] (by decide +kernel) (by decide +kernel)
set_option maxRecDepth 20000 in
theorem gX9_lawOf_X9_spreads : GoodIn wsX9_lawOf (wsV RX9 88 RX9 yX9_spreads wsX9_spreads) := goodIn_app (goodIn_of _ (by decide +kernel)) ggX9_lawOf_X9_spreads
theorem dX9_lawOf_0 : decode cX9_lawOf 0 = .ok (.aload_n 0, 1) := by decide +kernel
theorem dX9_lawOf_1 : decode cX9_lawOf 1 = .ok (.iload_n 1, 1) := by decide +kernel
theorem dX9_lawOf_2 : decode cX9_lawOf 2 = .ok (.iload_n 2, 1) := by decide +kernel
theorem dX9_lawOf_3 : decode cX9_lawOf 3 = .ok (.invokevirtual 88, 3) := by decide +kernel
theorem dX9_lawOf_6 : decode cX9_lawOf 6 = .ok (.aload_n 0, 1) := by decide +kernel
theorem dX9_lawOf_7 : decode cX9_lawOf 7 = .ok (.getfield 26, 3) := by decide +kernel
theorem dX9_lawOf_10 : decode cX9_lawOf 10 = .ok (.iload_n 3, 1) := by decide +kernel
theorem dX9_lawOf_11 : decode cX9_lawOf 11 = .ok (.laload, 1) := by decide +kernel
theorem dX9_lawOf_12 : decode cX9_lawOf 12 = .ok (.lreturn, 1) := by decide +kernel
set_option maxRecDepth 20000 in
theorem ggX9_law_X9_lawFault : GoodIn wsX9_law wsX9_lawFault := goodIn_r _ [5, 6, 7, 8, 4, 9, 10, 11, 12, 13, 43, 44, 45, 46, 47, 48, 49, 50, 51, 52, 53, 54, 55] (by decide +kernel) (by decide +kernel)
set_option maxRecDepth 20000 in
theorem gX9_law_X9_lawFault : GoodIn wsX9_law (wsV RX9 92 RX9 yX9_lawFault wsX9_lawFault) := goodIn_app (goodIn_of _ (by decide +kernel)) ggX9_law_X9_lawFault
set_option maxRecDepth 20000 in
theorem ggX9_law_X9_can : GoodIn wsX9_law wsX9_can := goodIn_r _ [17, 18, 43, 44, 45, 46, 47, 48, 49, 50, 51, 52, 53, 54, 55] (by decide +kernel) (by decide +kernel)
set_option maxRecDepth 20000 in
theorem gX9_law_X9_can : GoodIn wsX9_law (wsV RX9 55 RX9 yX9_can wsX9_can) := goodIn_app (goodIn_of _ (by decide +kernel)) ggX9_law_X9_can
set_option maxRecDepth 20000 in
theorem ggX9_law_X9_lawOf : GoodIn wsX9_law wsX9_lawOf := goodIn_r _ [22, 23, 24, 25, 26, 4, 27, 10, 28, 29, 30, 31, 32, 33, 34, 35, 36, 37, 38, 39, 40, 41, 42, 43, 44, 45, 46, 47, 48, 49, 50, 51, 52, 53, 54, 55] (by decide +kernel) (by decide +kernel)
set_option maxRecDepth 20000 in
theorem gX9_law_X9_lawOf : GoodIn wsX9_law (wsV RX9 96 RX9 yX9_lawOf wsX9_lawOf) := goodIn_app (goodIn_of _ (by decide +kernel)) ggX9_law_X9_lawOf
theorem dX9_law_0 : decode cX9_law 0 = .ok (.aload_n 0, 1) := by decide +kernel
theorem dX9_law_1 : decode cX9_law 1 = .ok (.aload_n 0, 1) := by decide +kernel
theorem dX9_law_2 : decode cX9_law 2 = .ok (.iload_n 1, 1) := by decide +kernel
theorem dX9_law_3 : decode cX9_law 3 = .ok (.iload_n 2, 1) := by decide +kernel
theorem dX9_law_4 : decode cX9_law 4 = .ok (.iload_n 3, 1) := by decide +kernel
theorem dX9_law_5 : decode cX9_law 5 = .ok (.bipush 12, 2) := by decide +kernel
theorem dX9_law_7 : decode cX9_law 7 = .ok (.invokevirtual 92, 3) := by decide +kernel
theorem dX9_law_10 : decode cX9_law 10 = .ok (.invokevirtual 55, 3) := by decide +kernel
theorem dX9_law_13 : decode cX9_law 13 = .ok (.ifCond .eq 13, 3) := by decide +kernel
theorem dX9_law_16 : decode cX9_law 16 = .ok (.aload_n 0, 1) := by decide +kernel
theorem dX9_law_17 : decode cX9_law 17 = .ok (.iload_n 1, 1) := by decide +kernel
theorem dX9_law_18 : decode cX9_law 18 = .ok (.iload_n 2, 1) := by decide +kernel
theorem dX9_law_19 : decode cX9_law 19 = .ok (.iload_n 3, 1) := by decide +kernel
theorem dX9_law_20 : decode cX9_law 20 = .ok (.invokevirtual 96, 3) := by decide +kernel
theorem dX9_law_23 : decode cX9_law 23 = .ok (.goto 4, 3) := by decide +kernel
theorem dX9_law_26 : decode cX9_law 26 = .ok (.lconst 0, 1) := by decide +kernel
theorem dX9_law_27 : decode cX9_law 27 = .ok (.lreturn, 1) := by decide +kernel
set_option maxRecDepth 20000 in
theorem ggX9_lawAnew_X9_lawFault : GoodIn wsX9_lawAnew wsX9_lawFault := goodIn_r _ [5, 6, 7, 8, 4, 9, 10, 11, 12, 13, 43, 44, 45, 46, 47, 48, 49, 50, 51, 52, 53, 54, 55] (by decide +kernel) (by decide +kernel)
set_option maxRecDepth 20000 in
theorem gX9_lawAnew_X9_lawFault : GoodIn wsX9_lawAnew (wsV RX9 92 RX9 yX9_lawFault wsX9_lawFault) := goodIn_app (goodIn_of _ (by decide +kernel)) ggX9_lawAnew_X9_lawFault
set_option maxRecDepth 20000 in
theorem ggX9_lawAnew_X9_can : GoodIn wsX9_lawAnew wsX9_can := goodIn_r _ [17, 18, 43, 44, 45, 46, 47, 48, 49, 50, 51, 52, 53, 54, 55] (by decide +kernel) (by decide +kernel)
set_option maxRecDepth 20000 in
theorem gX9_lawAnew_X9_can : GoodIn wsX9_lawAnew (wsV RX9 55 RX9 yX9_can wsX9_can) := goodIn_app (goodIn_of _ (by decide +kernel)) ggX9_lawAnew_X9_can
set_option maxRecDepth 20000 in
theorem ggX9_lawAnew_X9_lawOf : GoodIn wsX9_lawAnew wsX9_lawOf := goodIn_r _ [22, 23, 24, 25, 26, 4, 27, 10, 28, 29, 30, 31, 32, 33, 34, 35, 36, 37, 38, 39, 40, 41, 42, 43, 44, 45, 46, 47, 48, 49, 50, 51, 52, 53, 54, 55] (by decide +kernel) (by decide +kernel)
set_option maxRecDepth 20000 in
theorem gX9_lawAnew_X9_lawOf : GoodIn wsX9_lawAnew (wsV RX9 96 RX9 yX9_lawOf wsX9_lawOf) := goodIn_app (goodIn_of _ (by decide +kernel)) ggX9_lawAnew_X9_lawOf
theorem dX9_lawAnew_0 : decode cX9_lawAnew 0 = .ok (.aload_n 0, 1) := by decide +kernel
theorem dX9_lawAnew_1 : decode cX9_lawAnew 1 = .ok (.aload_n 0, 1) := by decide +kernel
theorem dX9_lawAnew_2 : decode cX9_lawAnew 2 = .ok (.iload_n 1, 1) := by decide +kernel
theorem dX9_lawAnew_3 : decode cX9_lawAnew 3 = .ok (.iload_n 2, 1) := by decide +kernel
theorem dX9_lawAnew_4 : decode cX9_lawAnew 4 = .ok (.iload_n 3, 1) := by decide +kernel
theorem dX9_lawAnew_5 : decode cX9_lawAnew 5 = .ok (.iconst 4, 1) := by decide +kernel
theorem dX9_lawAnew_6 : decode cX9_lawAnew 6 = .ok (.invokevirtual 92, 3) := by decide +kernel
theorem dX9_lawAnew_9 : decode cX9_lawAnew 9 = .ok (.invokevirtual 55, 3) := by decide +kernel
theorem dX9_lawAnew_12 : decode cX9_lawAnew 12 = .ok (.ifCond .eq 13, 3) := by decide +kernel
theorem dX9_lawAnew_15 : decode cX9_lawAnew 15 = .ok (.aload_n 0, 1) := by decide +kernel
theorem dX9_lawAnew_16 : decode cX9_lawAnew 16 = .ok (.iload_n 1, 1) := by decide +kernel
theorem dX9_lawAnew_17 : decode cX9_lawAnew 17 = .ok (.iload_n 2, 1) := by decide +kernel
theorem dX9_lawAnew_18 : decode cX9_lawAnew 18 = .ok (.iload_n 3, 1) := by decide +kernel
theorem dX9_lawAnew_19 : decode cX9_lawAnew 19 = .ok (.invokevirtual 96, 3) := by decide +kernel
theorem dX9_lawAnew_22 : decode cX9_lawAnew 22 = .ok (.goto 4, 3) := by decide +kernel
theorem dX9_lawAnew_25 : decode cX9_lawAnew 25 = .ok (.lconst 0, 1) := by decide +kernel
theorem dX9_lawAnew_26 : decode cX9_lawAnew 26 = .ok (.lreturn, 1) := by decide +kernel
set_option maxRecDepth 20000 in
theorem ggX9_distanceOf_X9_spreads : GoodIn wsX9_distanceOf wsX9_spreads := goodIn_r _ [8, 1, 9, 3, 10, 11, 12, 13, 7, 14, 15, 16, 17, 18, 19, 20, 21, 22, 23, 24, 25, 26, 27, 28, 29, 30, 31, 32, 33, 34, 35, 36] (by decide +kernel) (by decide +kernel)
set_option maxRecDepth 20000 in
theorem gX9_distanceOf_X9_spreads : GoodIn wsX9_distanceOf (wsV RX9 88 RX9 yX9_spreads wsX9_spreads) := goodIn_app (goodIn_of _ (by decide +kernel)) ggX9_distanceOf_X9_spreads
theorem dX9_distanceOf_0 : decode cX9_distanceOf 0 = .ok (.aload_n 0, 1) := by decide +kernel
theorem dX9_distanceOf_1 : decode cX9_distanceOf 1 = .ok (.iload_n 2, 1) := by decide +kernel
theorem dX9_distanceOf_2 : decode cX9_distanceOf 2 = .ok (.iload_n 3, 1) := by decide +kernel
theorem dX9_distanceOf_3 : decode cX9_distanceOf 3 = .ok (.invokevirtual 88, 3) := by decide +kernel
theorem dX9_distanceOf_6 : decode cX9_distanceOf 6 = .ok (.iconst 0, 1) := by decide +kernel
theorem dX9_distanceOf_7 : decode cX9_distanceOf 7 = .ok (.istore 4, 2) := by decide +kernel
theorem dX9_distanceOf_9 : decode cX9_distanceOf 9 = .ok (.iload 4, 2) := by decide +kernel
theorem dX9_distanceOf_11 : decode cX9_distanceOf 11 = .ok (.aload_n 0, 1) := by decide +kernel
theorem dX9_distanceOf_12 : decode cX9_distanceOf 12 = .ok (.getfield 7, 3) := by decide +kernel
theorem dX9_distanceOf_15 : decode cX9_distanceOf 15 = .ok (.if_icmp .ge 23, 3) := by decide +kernel
theorem dX9_distanceOf_18 : decode cX9_distanceOf 18 = .ok (.aload_n 0, 1) := by decide +kernel
theorem dX9_distanceOf_19 : decode cX9_distanceOf 19 = .ok (.getfield 33, 3) := by decide +kernel
theorem dX9_distanceOf_22 : decode cX9_distanceOf 22 = .ok (.iload 4, 2) := by decide +kernel
theorem dX9_distanceOf_24 : decode cX9_distanceOf 24 = .ok (.aload_n 0, 1) := by decide +kernel
theorem dX9_distanceOf_25 : decode cX9_distanceOf 25 = .ok (.getfield 26, 3) := by decide +kernel
theorem dX9_distanceOf_28 : decode cX9_distanceOf 28 = .ok (.iload 4, 2) := by decide +kernel
theorem dX9_distanceOf_30 : decode cX9_distanceOf 30 = .ok (.laload, 1) := by decide +kernel
theorem dX9_distanceOf_31 : decode cX9_distanceOf 31 = .ok (.lastore, 1) := by decide +kernel
theorem dX9_distanceOf_32 : decode cX9_distanceOf 32 = .ok (.iinc 4 1, 3) := by decide +kernel
theorem dX9_distanceOf_35 : decode cX9_distanceOf 35 = .ok (.goto (-26), 3) := by decide +kernel
theorem dX9_distanceOf_38 : decode cX9_distanceOf 38 = .ok (.aload_n 0, 1) := by decide +kernel
theorem dX9_distanceOf_39 : decode cX9_distanceOf 39 = .ok (.iload_n 1, 1) := by decide +kernel
theorem dX9_distanceOf_40 : decode cX9_distanceOf 40 = .ok (.iload_n 3, 1) := by decide +kernel
theorem dX9_distanceOf_41 : decode cX9_distanceOf 41 = .ok (.invokevirtual 88, 3) := by decide +kernel
theorem dX9_distanceOf_44 : decode cX9_distanceOf 44 = .ok (.lconst 0, 1) := by decide +kernel
theorem dX9_distanceOf_45 : decode cX9_distanceOf 45 = .ok (.lstore 4, 2) := by decide +kernel
theorem dX9_distanceOf_47 : decode cX9_distanceOf 47 = .ok (.iconst 0, 1) := by decide +kernel
theorem dX9_distanceOf_48 : decode cX9_distanceOf 48 = .ok (.istore 6, 2) := by decide +kernel
theorem dX9_distanceOf_50 : decode cX9_distanceOf 50 = .ok (.iload 6, 2) := by decide +kernel
theorem dX9_distanceOf_52 : decode cX9_distanceOf 52 = .ok (.aload_n 0, 1) := by decide +kernel
theorem dX9_distanceOf_53 : decode cX9_distanceOf 53 = .ok (.getfield 7, 3) := by decide +kernel
theorem dX9_distanceOf_56 : decode cX9_distanceOf 56 = .ok (.if_icmp .ge 51, 3) := by decide +kernel
theorem dX9_distanceOf_59 : decode cX9_distanceOf 59 = .ok (.lload 4, 2) := by decide +kernel
theorem dX9_distanceOf_61 : decode cX9_distanceOf 61 = .ok (.aload_n 0, 1) := by decide +kernel
theorem dX9_distanceOf_62 : decode cX9_distanceOf 62 = .ok (.getfield 26, 3) := by decide +kernel
theorem dX9_distanceOf_65 : decode cX9_distanceOf 65 = .ok (.iload 6, 2) := by decide +kernel
theorem dX9_distanceOf_67 : decode cX9_distanceOf 67 = .ok (.laload, 1) := by decide +kernel
theorem dX9_distanceOf_68 : decode cX9_distanceOf 68 = .ok (.aload_n 0, 1) := by decide +kernel
theorem dX9_distanceOf_69 : decode cX9_distanceOf 69 = .ok (.getfield 33, 3) := by decide +kernel
theorem dX9_distanceOf_72 : decode cX9_distanceOf 72 = .ok (.iload 6, 2) := by decide +kernel
theorem dX9_distanceOf_74 : decode cX9_distanceOf 74 = .ok (.laload, 1) := by decide +kernel
theorem dX9_distanceOf_75 : decode cX9_distanceOf 75 = .ok (.lcmp, 1) := by decide +kernel
theorem dX9_distanceOf_76 : decode cX9_distanceOf 76 = .ok (.ifCond .le 21, 3) := by decide +kernel
theorem dX9_distanceOf_79 : decode cX9_distanceOf 79 = .ok (.aload_n 0, 1) := by decide +kernel
theorem dX9_distanceOf_80 : decode cX9_distanceOf 80 = .ok (.getfield 26, 3) := by decide +kernel
theorem dX9_distanceOf_83 : decode cX9_distanceOf 83 = .ok (.iload 6, 2) := by decide +kernel
theorem dX9_distanceOf_85 : decode cX9_distanceOf 85 = .ok (.laload, 1) := by decide +kernel
theorem dX9_distanceOf_86 : decode cX9_distanceOf 86 = .ok (.aload_n 0, 1) := by decide +kernel
theorem dX9_distanceOf_87 : decode cX9_distanceOf 87 = .ok (.getfield 33, 3) := by decide +kernel
theorem dX9_distanceOf_90 : decode cX9_distanceOf 90 = .ok (.iload 6, 2) := by decide +kernel
theorem dX9_distanceOf_92 : decode cX9_distanceOf 92 = .ok (.laload, 1) := by decide +kernel
theorem dX9_distanceOf_93 : decode cX9_distanceOf 93 = .ok (.lsub, 1) := by decide +kernel
theorem dX9_distanceOf_94 : decode cX9_distanceOf 94 = .ok (.goto 4, 3) := by decide +kernel
theorem dX9_distanceOf_97 : decode cX9_distanceOf 97 = .ok (.lconst 0, 1) := by decide +kernel
theorem dX9_distanceOf_98 : decode cX9_distanceOf 98 = .ok (.ladd, 1) := by decide +kernel
theorem dX9_distanceOf_99 : decode cX9_distanceOf 99 = .ok (.lstore 4, 2) := by decide +kernel
theorem dX9_distanceOf_101 : decode cX9_distanceOf 101 = .ok (.iinc 6 1, 3) := by decide +kernel
theorem dX9_distanceOf_104 : decode cX9_distanceOf 104 = .ok (.goto (-54), 3) := by decide +kernel
theorem dX9_distanceOf_107 : decode cX9_distanceOf 107 = .ok (.lload 4, 2) := by decide +kernel
theorem dX9_distanceOf_109 : decode cX9_distanceOf 109 = .ok (.lreturn, 1) := by decide +kernel
set_option maxRecDepth 20000 in
theorem ggX9_distance_X9_lawFault : GoodIn wsX9_distance wsX9_lawFault := goodIn_r _ [5, 6, 7, 8, 4, 9, 10, 11, 12, 13, 44, 45, 46, 47, 48, 49, 50, 51, 52, 53, 54, 55, 56] (by decide +kernel) (by decide +kernel)
set_option maxRecDepth 20000 in
theorem gX9_distance_X9_lawFault : GoodIn wsX9_distance (wsV RX9 92 RX9 yX9_lawFault wsX9_lawFault) := goodIn_app (goodIn_of _ (by decide +kernel)) ggX9_distance_X9_lawFault
set_option maxRecDepth 20000 in
theorem ggX9_distance_X9_can : GoodIn wsX9_distance wsX9_can := goodIn_r _ [17, 18, 44, 45, 46, 47, 48, 49, 50, 51, 52, 53, 54, 55, 56] (by decide +kernel) (by decide +kernel)
set_option maxRecDepth 20000 in
theorem gX9_distance_X9_can : GoodIn wsX9_distance (wsV RX9 55 RX9 yX9_can wsX9_can) := goodIn_app (goodIn_of _ (by decide +kernel)) ggX9_distance_X9_can
set_option maxRecDepth 20000 in
theorem ggX9_distance_X9_distanceOf : GoodIn wsX9_distance wsX9_distanceOf := goodIn_r _ [22, 10, 23, 24, 25, 26, 27, 4, 28, 29, 30, 31, 32, 33, 34, 35, 36, 37, 38, 39, 40, 41, 42, 43, 44, 45, 46, 47, 48, 49, 50, 51, 52, 53, 54, 55, 56] (by decide +kernel) (by decide +kernel)
set_option maxRecDepth 20000 in
theorem gX9_distance_X9_distanceOf : GoodIn wsX9_distance (wsV RX9 100 RX9 yX9_distanceOf wsX9_distanceOf) := goodIn_app (goodIn_of _ (by decide +kernel)) ggX9_distance_X9_distanceOf
theorem dX9_distance_0 : decode cX9_distance 0 = .ok (.aload_n 0, 1) := by decide +kernel
theorem dX9_distance_1 : decode cX9_distance 1 = .ok (.aload_n 0, 1) := by decide +kernel
theorem dX9_distance_2 : decode cX9_distance 2 = .ok (.iload_n 1, 1) := by decide +kernel
theorem dX9_distance_3 : decode cX9_distance 3 = .ok (.iload_n 3, 1) := by decide +kernel
theorem dX9_distance_4 : decode cX9_distance 4 = .ok (.iload_n 2, 1) := by decide +kernel
theorem dX9_distance_5 : decode cX9_distance 5 = .ok (.bipush 12, 2) := by decide +kernel
theorem dX9_distance_7 : decode cX9_distance 7 = .ok (.invokevirtual 92, 3) := by decide +kernel
theorem dX9_distance_10 : decode cX9_distance 10 = .ok (.invokevirtual 55, 3) := by decide +kernel
theorem dX9_distance_13 : decode cX9_distance 13 = .ok (.ifCond .eq 13, 3) := by decide +kernel
theorem dX9_distance_16 : decode cX9_distance 16 = .ok (.aload_n 0, 1) := by decide +kernel
theorem dX9_distance_17 : decode cX9_distance 17 = .ok (.iload_n 1, 1) := by decide +kernel
theorem dX9_distance_18 : decode cX9_distance 18 = .ok (.iload_n 2, 1) := by decide +kernel
theorem dX9_distance_19 : decode cX9_distance 19 = .ok (.iload_n 3, 1) := by decide +kernel
theorem dX9_distance_20 : decode cX9_distance 20 = .ok (.invokevirtual 100, 3) := by decide +kernel
theorem dX9_distance_23 : decode cX9_distance 23 = .ok (.goto 4, 3) := by decide +kernel
theorem dX9_distance_26 : decode cX9_distance 26 = .ok (.lconst 0, 1) := by decide +kernel
theorem dX9_distance_27 : decode cX9_distance 27 = .ok (.lreturn, 1) := by decide +kernel
set_option maxRecDepth 20000 in
theorem ggX9_isMixed_X9_distanceOf : GoodIn wsX9_isMixed wsX9_distanceOf := goodIn_r _ [7, 1, 8, 9, 10, 11, 12, 6, 13, 14, 15, 16, 17, 18, 19, 20, 21, 22, 23, 24, 25, 26, 27, 28, 33, 34, 35, 36, 37, 38, 39, 40, 41, 42, 43, 44, 45] (by decide +kernel) (by decide +kernel)
set_option maxRecDepth 20000 in
theorem gX9_isMixed_X9_distanceOf : GoodIn wsX9_isMixed (wsV RX9 100 RX9 yX9_distanceOf wsX9_distanceOf) := goodIn_app (goodIn_of _ (by decide +kernel)) ggX9_isMixed_X9_distanceOf
set_option maxRecDepth 20000 in
theorem ggX9_isMixed_X9_power : GoodIn wsX9_isMixed wsX9_power := goodIn_r _ [32, 14, 33, 34, 35, 36, 37, 38, 39, 40, 41, 42, 43, 44, 45] (by decide +kernel) (by decide +kernel)
set_option maxRecDepth 20000 in
theorem gX9_isMixed_X9_power : GoodIn wsX9_isMixed (wsV RX9 77 RX9 yX9_power wsX9_power) := goodIn_app (goodIn_of _ (by decide +kernel)) ggX9_isMixed_X9_power
theorem dX9_isMixed_0 : decode cX9_isMixed 0 = .ok (.iconst 1, 1) := by decide +kernel
theorem dX9_isMixed_1 : decode cX9_isMixed 1 = .ok (.istore_n 3, 1) := by decide +kernel
theorem dX9_isMixed_2 : decode cX9_isMixed 2 = .ok (.iconst 0, 1) := by decide +kernel
theorem dX9_isMixed_3 : decode cX9_isMixed 3 = .ok (.istore 4, 2) := by decide +kernel
theorem dX9_isMixed_5 : decode cX9_isMixed 5 = .ok (.iload 4, 2) := by decide +kernel
theorem dX9_isMixed_7 : decode cX9_isMixed 7 = .ok (.aload_n 0, 1) := by decide +kernel
theorem dX9_isMixed_8 : decode cX9_isMixed 8 = .ok (.getfield 7, 3) := by decide +kernel
theorem dX9_isMixed_11 : decode cX9_isMixed 11 = .ok (.if_icmp .ge 60, 3) := by decide +kernel
theorem dX9_isMixed_14 : decode cX9_isMixed 14 = .ok (.iconst 0, 1) := by decide +kernel
theorem dX9_isMixed_15 : decode cX9_isMixed 15 = .ok (.istore 5, 2) := by decide +kernel
theorem dX9_isMixed_17 : decode cX9_isMixed 17 = .ok (.iload 5, 2) := by decide +kernel
theorem dX9_isMixed_19 : decode cX9_isMixed 19 = .ok (.iload 4, 2) := by decide +kernel
theorem dX9_isMixed_21 : decode cX9_isMixed 21 = .ok (.if_icmp .ge 44, 3) := by decide +kernel
theorem dX9_isMixed_24 : decode cX9_isMixed 24 = .ok (.iload_n 3, 1) := by decide +kernel
theorem dX9_isMixed_25 : decode cX9_isMixed 25 = .ok (.ifCond .eq 32, 3) := by decide +kernel
theorem dX9_isMixed_28 : decode cX9_isMixed 28 = .ok (.ldc2_w 103, 3) := by decide +kernel
theorem dX9_isMixed_31 : decode cX9_isMixed 31 = .ok (.aload_n 0, 1) := by decide +kernel
theorem dX9_isMixed_32 : decode cX9_isMixed 32 = .ok (.iload 4, 2) := by decide +kernel
theorem dX9_isMixed_34 : decode cX9_isMixed 34 = .ok (.iload 5, 2) := by decide +kernel
theorem dX9_isMixed_36 : decode cX9_isMixed 36 = .ok (.iload_n 2, 1) := by decide +kernel
theorem dX9_isMixed_37 : decode cX9_isMixed 37 = .ok (.invokevirtual 100, 3) := by decide +kernel
theorem dX9_isMixed_40 : decode cX9_isMixed 40 = .ok (.lmul, 1) := by decide +kernel
theorem dX9_isMixed_41 : decode cX9_isMixed 41 = .ok (.iload_n 1, 1) := by decide +kernel
theorem dX9_isMixed_42 : decode cX9_isMixed 42 = .ok (.i2l, 1) := by decide +kernel
theorem dX9_isMixed_43 : decode cX9_isMixed 43 = .ok (.aload_n 0, 1) := by decide +kernel
theorem dX9_isMixed_44 : decode cX9_isMixed 44 = .ok (.iload_n 2, 1) := by decide +kernel
theorem dX9_isMixed_45 : decode cX9_isMixed 45 = .ok (.invokevirtual 77, 3) := by decide +kernel
theorem dX9_isMixed_48 : decode cX9_isMixed 48 = .ok (.lmul, 1) := by decide +kernel
theorem dX9_isMixed_49 : decode cX9_isMixed 49 = .ok (.lcmp, 1) := by decide +kernel
theorem dX9_isMixed_50 : decode cX9_isMixed 50 = .ok (.ifCond .gt 7, 3) := by decide +kernel
theorem dX9_isMixed_53 : decode cX9_isMixed 53 = .ok (.iconst 1, 1) := by decide +kernel
theorem dX9_isMixed_54 : decode cX9_isMixed 54 = .ok (.goto 4, 3) := by decide +kernel
theorem dX9_isMixed_57 : decode cX9_isMixed 57 = .ok (.iconst 0, 1) := by decide +kernel
theorem dX9_isMixed_58 : decode cX9_isMixed 58 = .ok (.istore_n 3, 1) := by decide +kernel
theorem dX9_isMixed_59 : decode cX9_isMixed 59 = .ok (.iinc 5 1, 3) := by decide +kernel
theorem dX9_isMixed_62 : decode cX9_isMixed 62 = .ok (.goto (-45), 3) := by decide +kernel
theorem dX9_isMixed_65 : decode cX9_isMixed 65 = .ok (.iinc 4 1, 3) := by decide +kernel
theorem dX9_isMixed_68 : decode cX9_isMixed 68 = .ok (.goto (-63), 3) := by decide +kernel
theorem dX9_isMixed_71 : decode cX9_isMixed 71 = .ok (.iload_n 3, 1) := by decide +kernel
theorem dX9_isMixed_72 : decode cX9_isMixed 72 = .ok (.ireturn, 1) := by decide +kernel
set_option maxRecDepth 20000 in
theorem ggX9_mixing_X9_isIn : GoodIn wsX9_mixing wsX9_isIn := goodIn_r _ [4] (by decide +kernel) (by decide +kernel)
set_option maxRecDepth 20000 in
theorem gX9_mixing_X9_isIn : GoodIn wsX9_mixing (va_wsS RX9 51 yX9_isIn wsX9_isIn) := goodIn_app (goodIn_of _ (by decide +kernel)) ggX9_mixing_X9_isIn
set_option maxRecDepth 20000 in
theorem ggX9_mixing_X9_can : GoodIn wsX9_mixing wsX9_can := goodIn_r _ [8, 9, 45, 46, 47, 48, 49, 50, 51, 52, 53, 54, 55, 56, 57] (by decide +kernel) (by decide +kernel)
set_option maxRecDepth 20000 in
theorem gX9_mixing_X9_can : GoodIn wsX9_mixing (wsV RX9 55 RX9 yX9_can wsX9_can) := goodIn_app (goodIn_of _ (by decide +kernel)) ggX9_mixing_X9_can
set_option maxRecDepth 20000 in
theorem ggX9_mixing_X9_isMixed : GoodIn wsX9_mixing wsX9_isMixed := goodIn_r _ [13, 14, 15, 16, 17, 18, 3, 19, 20, 21, 22, 23, 24, 25, 26, 27, 28, 29, 30, 31, 32, 33, 34, 35, 36, 37, 38, 39, 40, 41, 42, 43, 44, 45, 46, 47, 48, 49, 50, 51, 52, 53, 54, 55, 56, 57] (by decide +kernel) (by decide +kernel)
set_option maxRecDepth 20000 in
theorem gX9_mixing_X9_isMixed : GoodIn wsX9_mixing (wsV RX9 105 RX9 yX9_isMixed wsX9_isMixed) := goodIn_app (goodIn_of _ (by decide +kernel)) ggX9_mixing_X9_isMixed
theorem dX9_mixing_0 : decode cX9_mixing 0 = .ok (.aload_n 0, 1) := by decide +kernel
theorem dX9_mixing_1 : decode cX9_mixing 1 = .ok (.iload_n 1, 1) := by decide +kernel
theorem dX9_mixing_2 : decode cX9_mixing 2 = .ok (.iconst 0, 1) := by decide +kernel
theorem dX9_mixing_3 : decode cX9_mixing 3 = .ok (.sipush 1000, 3) := by decide +kernel
theorem dX9_mixing_6 : decode cX9_mixing 6 = .ok (.invokestatic 51, 3) := by decide +kernel
theorem dX9_mixing_9 : decode cX9_mixing 9 = .ok (.ifCond .eq 7, 3) := by decide +kernel
theorem dX9_mixing_12 : decode cX9_mixing 12 = .ok (.iconst 0, 1) := by decide +kernel
theorem dX9_mixing_13 : decode cX9_mixing 13 = .ok (.goto 4, 3) := by decide +kernel
theorem dX9_mixing_16 : decode cX9_mixing 16 = .ok (.iconst 1, 1) := by decide +kernel
theorem dX9_mixing_17 : decode cX9_mixing 17 = .ok (.invokevirtual 55, 3) := by decide +kernel
theorem dX9_mixing_20 : decode cX9_mixing 20 = .ok (.ifCond .ne 5, 3) := by decide +kernel
theorem dX9_mixing_23 : decode cX9_mixing 23 = .ok (.iconst 0, 1) := by decide +kernel
theorem dX9_mixing_24 : decode cX9_mixing 24 = .ok (.ireturn, 1) := by decide +kernel
theorem dX9_mixing_25 : decode cX9_mixing 25 = .ok (.iconst (-1), 1) := by decide +kernel
theorem dX9_mixing_26 : decode cX9_mixing 26 = .ok (.istore_n 2, 1) := by decide +kernel
theorem dX9_mixing_27 : decode cX9_mixing 27 = .ok (.bipush 12, 2) := by decide +kernel
theorem dX9_mixing_29 : decode cX9_mixing 29 = .ok (.istore_n 3, 1) := by decide +kernel
theorem dX9_mixing_30 : decode cX9_mixing 30 = .ok (.iload_n 3, 1) := by decide +kernel
theorem dX9_mixing_31 : decode cX9_mixing 31 = .ok (.ifCond .lt 24, 3) := by decide +kernel
theorem dX9_mixing_34 : decode cX9_mixing 34 = .ok (.aload_n 0, 1) := by decide +kernel
theorem dX9_mixing_35 : decode cX9_mixing 35 = .ok (.iload_n 1, 1) := by decide +kernel
theorem dX9_mixing_36 : decode cX9_mixing 36 = .ok (.iload_n 3, 1) := by decide +kernel
theorem dX9_mixing_37 : decode cX9_mixing 37 = .ok (.invokevirtual 105, 3) := by decide +kernel
theorem dX9_mixing_40 : decode cX9_mixing 40 = .ok (.ifCond .eq 7, 3) := by decide +kernel
theorem dX9_mixing_43 : decode cX9_mixing 43 = .ok (.iload_n 3, 1) := by decide +kernel
theorem dX9_mixing_44 : decode cX9_mixing 44 = .ok (.goto 4, 3) := by decide +kernel
theorem dX9_mixing_47 : decode cX9_mixing 47 = .ok (.iload_n 2, 1) := by decide +kernel
theorem dX9_mixing_48 : decode cX9_mixing 48 = .ok (.istore_n 2, 1) := by decide +kernel
theorem dX9_mixing_49 : decode cX9_mixing 49 = .ok (.iinc 3 (-1), 3) := by decide +kernel
theorem dX9_mixing_52 : decode cX9_mixing 52 = .ok (.goto (-22), 3) := by decide +kernel
theorem dX9_mixing_55 : decode cX9_mixing 55 = .ok (.iload_n 2, 1) := by decide +kernel
theorem dX9_mixing_56 : decode cX9_mixing 56 = .ok (.ireturn, 1) := by decide +kernel
set_option maxRecDepth 20000 in
theorem ggX9_apartBy_X9_begins : GoodIn wsX9_apartBy wsX9_begins := goodIn_r _ [8, 3, 18, 19, 20, 21, 22, 23, 24, 25, 26, 27, 28, 29, 30] (by decide +kernel) (by decide +kernel)
set_option maxRecDepth 20000 in
theorem gX9_apartBy_X9_begins : GoodIn wsX9_apartBy (wsV RX9 81 RX9 yX9_begins wsX9_begins) := goodIn_app (goodIn_of _ (by decide +kernel)) ggX9_apartBy_X9_begins
set_option maxRecDepth 20000 in
theorem ggX9_apartBy_X9_keeps : GoodIn wsX9_apartBy wsX9_keeps := goodIn_r _ [12, 2, 3, 18, 19, 20, 21, 22, 23, 24, 25, 26, 27, 28, 29, 30] (by decide +kernel) (by decide +kernel)
set_option maxRecDepth 20000 in
theorem gX9_apartBy_X9_keeps : GoodIn wsX9_apartBy (wsV RX9 85 RX9 yX9_keeps wsX9_keeps) := goodIn_app (goodIn_of _ (by decide +kernel)) ggX9_apartBy_X9_keeps
set_option maxRecDepth 20000 in
theorem ggX9_apartBy_X9_goes : GoodIn wsX9_apartBy wsX9_goes := goodIn_r _ [16, 17, 18, 19, 20, 21, 22, 23, 24, 25, 26, 27, 28, 29, 30] (by decide +kernel) (by decide +kernel)
set_option maxRecDepth 20000 in
theorem gX9_apartBy_X9_goes : GoodIn wsX9_apartBy (wsV RX9 65 RX9 yX9_goes wsX9_goes) := goodIn_app (goodIn_of _ (by decide +kernel)) ggX9_apartBy_X9_goes
theorem dX9_apartBy_0 : decode cX9_apartBy 0 = .ok (.aload_n 0, 1) := by decide +kernel
theorem dX9_apartBy_1 : decode cX9_apartBy 1 = .ok (.iload_n 1, 1) := by decide +kernel
theorem dX9_apartBy_2 : decode cX9_apartBy 2 = .ok (.iload_n 2, 1) := by decide +kernel
theorem dX9_apartBy_3 : decode cX9_apartBy 3 = .ok (.if_icmp .ne 7, 3) := by decide +kernel
theorem dX9_apartBy_6 : decode cX9_apartBy 6 = .ok (.iconst (-1), 1) := by decide +kernel
theorem dX9_apartBy_7 : decode cX9_apartBy 7 = .ok (.goto 9, 3) := by decide +kernel
theorem dX9_apartBy_10 : decode cX9_apartBy 10 = .ok (.bipush 6, 2) := by decide +kernel
theorem dX9_apartBy_12 : decode cX9_apartBy 12 = .ok (.iload_n 1, 1) := by decide +kernel
theorem dX9_apartBy_13 : decode cX9_apartBy 13 = .ok (.imul, 1) := by decide +kernel
theorem dX9_apartBy_14 : decode cX9_apartBy 14 = .ok (.iload_n 2, 1) := by decide +kernel
theorem dX9_apartBy_15 : decode cX9_apartBy 15 = .ok (.iadd, 1) := by decide +kernel
theorem dX9_apartBy_16 : decode cX9_apartBy 16 = .ok (.invokevirtual 81, 3) := by decide +kernel
theorem dX9_apartBy_19 : decode cX9_apartBy 19 = .ok (.iconst 0, 1) := by decide +kernel
theorem dX9_apartBy_20 : decode cX9_apartBy 20 = .ok (.istore 4, 2) := by decide +kernel
theorem dX9_apartBy_22 : decode cX9_apartBy 22 = .ok (.iload 4, 2) := by decide +kernel
theorem dX9_apartBy_24 : decode cX9_apartBy 24 = .ok (.iload_n 3, 1) := by decide +kernel
theorem dX9_apartBy_25 : decode cX9_apartBy 25 = .ok (.if_icmp .ge 119, 3) := by decide +kernel
theorem dX9_apartBy_28 : decode cX9_apartBy 28 = .ok (.aload_n 0, 1) := by decide +kernel
theorem dX9_apartBy_29 : decode cX9_apartBy 29 = .ok (.invokevirtual 85, 3) := by decide +kernel
theorem dX9_apartBy_32 : decode cX9_apartBy 32 = .ok (.iconst 0, 1) := by decide +kernel
theorem dX9_apartBy_33 : decode cX9_apartBy 33 = .ok (.istore 5, 2) := by decide +kernel
theorem dX9_apartBy_35 : decode cX9_apartBy 35 = .ok (.iload 5, 2) := by decide +kernel
theorem dX9_apartBy_37 : decode cX9_apartBy 37 = .ok (.bipush 36, 2) := by decide +kernel
theorem dX9_apartBy_39 : decode cX9_apartBy 39 = .ok (.if_icmp .ge 99, 3) := by decide +kernel
theorem dX9_apartBy_42 : decode cX9_apartBy 42 = .ok (.iconst 0, 1) := by decide +kernel
theorem dX9_apartBy_43 : decode cX9_apartBy 43 = .ok (.istore 6, 2) := by decide +kernel
theorem dX9_apartBy_45 : decode cX9_apartBy 45 = .ok (.iload 6, 2) := by decide +kernel
theorem dX9_apartBy_47 : decode cX9_apartBy 47 = .ok (.aload_n 0, 1) := by decide +kernel
theorem dX9_apartBy_48 : decode cX9_apartBy 48 = .ok (.getfield 13, 3) := by decide +kernel
theorem dX9_apartBy_51 : decode cX9_apartBy 51 = .ok (.if_icmp .ge 81, 3) := by decide +kernel
theorem dX9_apartBy_54 : decode cX9_apartBy 54 = .ok (.aload_n 0, 1) := by decide +kernel
theorem dX9_apartBy_55 : decode cX9_apartBy 55 = .ok (.getfield 30, 3) := by decide +kernel
theorem dX9_apartBy_58 : decode cX9_apartBy 58 = .ok (.iload 5, 2) := by decide +kernel
theorem dX9_apartBy_60 : decode cX9_apartBy 60 = .ok (.laload, 1) := by decide +kernel
theorem dX9_apartBy_61 : decode cX9_apartBy 61 = .ok (.lconst 0, 1) := by decide +kernel
theorem dX9_apartBy_62 : decode cX9_apartBy 62 = .ok (.lcmp, 1) := by decide +kernel
theorem dX9_apartBy_63 : decode cX9_apartBy 63 = .ok (.ifCond .le 69, 3) := by decide +kernel
theorem dX9_apartBy_66 : decode cX9_apartBy 66 = .ok (.aload_n 0, 1) := by decide +kernel
theorem dX9_apartBy_67 : decode cX9_apartBy 67 = .ok (.iload 5, 2) := by decide +kernel
theorem dX9_apartBy_69 : decode cX9_apartBy 69 = .ok (.bipush 6, 2) := by decide +kernel
theorem dX9_apartBy_71 : decode cX9_apartBy 71 = .ok (.idiv, 1) := by decide +kernel
theorem dX9_apartBy_72 : decode cX9_apartBy 72 = .ok (.iload 6, 2) := by decide +kernel
theorem dX9_apartBy_74 : decode cX9_apartBy 74 = .ok (.invokevirtual 65, 3) := by decide +kernel
theorem dX9_apartBy_77 : decode cX9_apartBy 77 = .ok (.istore 7, 2) := by decide +kernel
theorem dX9_apartBy_79 : decode cX9_apartBy 79 = .ok (.aload_n 0, 1) := by decide +kernel
theorem dX9_apartBy_80 : decode cX9_apartBy 80 = .ok (.iload 5, 2) := by decide +kernel
theorem dX9_apartBy_82 : decode cX9_apartBy 82 = .ok (.bipush 6, 2) := by decide +kernel
theorem dX9_apartBy_84 : decode cX9_apartBy 84 = .ok (.irem, 1) := by decide +kernel
theorem dX9_apartBy_85 : decode cX9_apartBy 85 = .ok (.iload 6, 2) := by decide +kernel
theorem dX9_apartBy_87 : decode cX9_apartBy 87 = .ok (.invokevirtual 65, 3) := by decide +kernel
theorem dX9_apartBy_90 : decode cX9_apartBy 90 = .ok (.istore 8, 2) := by decide +kernel
theorem dX9_apartBy_92 : decode cX9_apartBy 92 = .ok (.aload_n 0, 1) := by decide +kernel
theorem dX9_apartBy_93 : decode cX9_apartBy 93 = .ok (.getfield 26, 3) := by decide +kernel
theorem dX9_apartBy_96 : decode cX9_apartBy 96 = .ok (.bipush 6, 2) := by decide +kernel
theorem dX9_apartBy_98 : decode cX9_apartBy 98 = .ok (.iload 7, 2) := by decide +kernel
theorem dX9_apartBy_100 : decode cX9_apartBy 100 = .ok (.imul, 1) := by decide +kernel
theorem dX9_apartBy_101 : decode cX9_apartBy 101 = .ok (.iload 8, 2) := by decide +kernel
theorem dX9_apartBy_103 : decode cX9_apartBy 103 = .ok (.iadd, 1) := by decide +kernel
theorem dX9_apartBy_104 : decode cX9_apartBy 104 = .ok (.dup2, 1) := by decide +kernel
theorem dX9_apartBy_105 : decode cX9_apartBy 105 = .ok (.laload, 1) := by decide +kernel
theorem dX9_apartBy_106 : decode cX9_apartBy 106 = .ok (.iload 7, 2) := by decide +kernel
theorem dX9_apartBy_108 : decode cX9_apartBy 108 = .ok (.iload 8, 2) := by decide +kernel
theorem dX9_apartBy_110 : decode cX9_apartBy 110 = .ok (.if_icmp .ne 7, 3) := by decide +kernel
theorem dX9_apartBy_113 : decode cX9_apartBy 113 = .ok (.lconst 0, 1) := by decide +kernel
theorem dX9_apartBy_114 : decode cX9_apartBy 114 = .ok (.goto 10, 3) := by decide +kernel
theorem dX9_apartBy_117 : decode cX9_apartBy 117 = .ok (.aload_n 0, 1) := by decide +kernel
theorem dX9_apartBy_118 : decode cX9_apartBy 118 = .ok (.getfield 30, 3) := by decide +kernel
theorem dX9_apartBy_121 : decode cX9_apartBy 121 = .ok (.iload 5, 2) := by decide +kernel
