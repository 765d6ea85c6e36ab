set_option maxRecDepth 20000 in
theorem gX8_init_X2_init : GoodIn wsX8_init (wsX2_init) := ggX8_init_X2_init
set_option maxRecDepth 20000 in
theorem ggX8_init_X1_init : GoodIn wsX8_init wsX1_init := goodIn_r _ [63, 64, 2, 3, 65, 123] (by decide +kernel) (by decide +kernel)
set_option maxRecDepth 20000 in
theorem gX8_init_X1_init : GoodIn wsX8_init (wsX1_init) := ggX8_init_X1_init
set_option maxRecDepth 20000 in
theorem ggX8_init_X7_init : GoodIn wsX8_init wsX7_init := goodIn_r _ [68, 69, 2, 3, 70, 50, 71, 41, 72, 73, 124, 125, 126, 127] (by decide +kernel) (by decide +kernel)
set_option maxRecDepth 20000 in
theorem gX8_init_X7_init : GoodIn wsX8_init (wsX7_init) := ggX8_init_X7_init
set_option maxRecDepth 20000 in
theorem ggX8_init_X3_init : GoodIn wsX8_init wsX3_init := goodIn_r _ [76, 77, 2, 3, 78, 41, 79, 80, 128, 129, 130] (by decide +kernel) (by decide +kernel)
set_option maxRecDepth 20000 in
theorem gX8_init_X3_init : GoodIn wsX8_init (wsX3_init) := ggX8_init_X3_init
set_option maxRecDepth 20000 in
theorem ggX8_init_X4_init : GoodIn wsX8_init wsX4_init := goodIn_r _ [83, 84, 2, 3, 85, 41, 86, 87, 50, 88, 131, 132, 133] (by decide +kernel) (by decide +kernel)
set_option maxRecDepth 20000 in
theorem gX8_init_X4_init : GoodIn wsX8_init (wsX4_init) := ggX8_init_X4_init
set_option maxRecDepth 20000 in
theorem ggX8_init_X6_init : GoodIn wsX8_init wsX6_init := goodIn_r _ [91, 92, 2, 3, 93, 41, 94, 134, 135] (by decide +kernel) (by decide +kernel)
set_option maxRecDepth 20000 in
theorem gX8_init_X6_init : GoodIn wsX8_init (wsX6_init) := ggX8_init_X6_init
set_option maxRecDepth 20000 in
theorem ggX8_init_X0_setOut : GoodIn wsX8_init wsX0_setOut := goodIn_r _ [98, 99, 100, 42, 43, 101, 102, 103, 104, 105, 106, 107, 108] (by decide +kernel) (by decide +kernel)
set_option maxRecDepth 20000 in
theorem gX8_init_X0_setOut : GoodIn wsX8_init (wsV RX8 67 RX0 yX0_setOut wsX0_setOut) := goodIn_app (goodIn_of _ (by decide +kernel)) ggX8_init_X0_setOut
theorem dX8_init_0 : decode cX8_init 0 = .ok (.aload_n 0, 1) := by decide +kernel
theorem dX8_init_1 : decode cX8_init 1 = .ok (.invokespecial 1, 3) := by decide +kernel
theorem dX8_init_4 : decode cX8_init 4 = .ok (.aload_n 0, 1) := by decide +kernel
theorem dX8_init_5 : decode cX8_init 5 = .ok (.new 7, 3) := by decide +kernel
theorem dX8_init_8 : decode cX8_init 8 = .ok (.dup, 1) := by decide +kernel
theorem dX8_init_9 : decode cX8_init 9 = .ok (.invokespecial 9, 3) := by decide +kernel
theorem dX8_init_12 : decode cX8_init 12 = .ok (.putfield 10, 3) := by decide +kernel
theorem dX8_init_15 : decode cX8_init 15 = .ok (.aload_n 0, 1) := by decide +kernel
theorem dX8_init_16 : decode cX8_init 16 = .ok (.new 16, 3) := by decide +kernel
theorem dX8_init_19 : decode cX8_init 19 = .ok (.dup, 1) := by decide +kernel
theorem dX8_init_20 : decode cX8_init 20 = .ok (.aload_n 0, 1) := by decide +kernel
theorem dX8_init_21 : decode cX8_init 21 = .ok (.getfield 10, 3) := by decide +kernel
theorem dX8_init_24 : decode cX8_init 24 = .ok (.invokespecial 18, 3) := by decide +kernel
theorem dX8_init_27 : decode cX8_init 27 = .ok (.putfield 21, 3) := by decide +kernel
theorem dX8_init_30 : decode cX8_init 30 = .ok (.aload_n 0, 1) := by decide +kernel
theorem dX8_init_31 : decode cX8_init 31 = .ok (.new 25, 3) := by decide +kernel
theorem dX8_init_34 : decode cX8_init 34 = .ok (.dup, 1) := by decide +kernel
theorem dX8_init_35 : decode cX8_init 35 = .ok (.aload_n 0, 1) := by decide +kernel
theorem dX8_init_36 : decode cX8_init 36 = .ok (.getfield 10, 3) := by decide +kernel
theorem dX8_init_39 : decode cX8_init 39 = .ok (.invokespecial 27, 3) := by decide +kernel
theorem dX8_init_42 : decode cX8_init 42 = .ok (.putfield 28, 3) := by decide +kernel
theorem dX8_init_45 : decode cX8_init 45 = .ok (.aload_n 0, 1) := by decide +kernel
theorem dX8_init_46 : decode cX8_init 46 = .ok (.new 32, 3) := by decide +kernel
theorem dX8_init_49 : decode cX8_init 49 = .ok (.dup, 1) := by decide +kernel
theorem dX8_init_50 : decode cX8_init 50 = .ok (.aload_n 0, 1) := by decide +kernel
theorem dX8_init_51 : decode cX8_init 51 = .ok (.getfield 10, 3) := by decide +kernel
theorem dX8_init_54 : decode cX8_init 54 = .ok (.invokespecial 34, 3) := by decide +kernel
theorem dX8_init_57 : decode cX8_init 57 = .ok (.putfield 35, 3) := by decide +kernel
theorem dX8_init_60 : decode cX8_init 60 = .ok (.aload_n 0, 1) := by decide +kernel
theorem dX8_init_61 : decode cX8_init 61 = .ok (.new 39, 3) := by decide +kernel
theorem dX8_init_64 : decode cX8_init 64 = .ok (.dup, 1) := by decide +kernel
theorem dX8_init_65 : decode cX8_init 65 = .ok (.aload_n 0, 1) := by decide +kernel
theorem dX8_init_66 : decode cX8_init 66 = .ok (.getfield 10, 3) := by decide +kernel
theorem dX8_init_69 : decode cX8_init 69 = .ok (.invokespecial 41, 3) := by decide +kernel
theorem dX8_init_72 : decode cX8_init 72 = .ok (.putfield 42, 3) := by decide +kernel
theorem dX8_init_75 : decode cX8_init 75 = .ok (.aload_n 0, 1) := by decide +kernel
theorem dX8_init_76 : decode cX8_init 76 = .ok (.new 46, 3) := by decide +kernel
theorem dX8_init_79 : decode cX8_init 79 = .ok (.dup, 1) := by decide +kernel
theorem dX8_init_80 : decode cX8_init 80 = .ok (.aload_n 0, 1) := by decide +kernel
theorem dX8_init_81 : decode cX8_init 81 = .ok (.getfield 10, 3) := by decide +kernel
theorem dX8_init_84 : decode cX8_init 84 = .ok (.invokespecial 48, 3) := by decide +kernel
theorem dX8_init_87 : decode cX8_init 87 = .ok (.putfield 49, 3) := by decide +kernel
theorem dX8_init_90 : decode cX8_init 90 = .ok (.aload_n 0, 1) := by decide +kernel
theorem dX8_init_91 : decode cX8_init 91 = .ok (.new 53, 3) := by decide +kernel
theorem dX8_init_94 : decode cX8_init 94 = .ok (.dup, 1) := by decide +kernel
theorem dX8_init_95 : decode cX8_init 95 = .ok (.aload_n 0, 1) := by decide +kernel
theorem dX8_init_96 : decode cX8_init 96 = .ok (.getfield 10, 3) := by decide +kernel
theorem dX8_init_99 : decode cX8_init 99 = .ok (.invokespecial 55, 3) := by decide +kernel
theorem dX8_init_102 : decode cX8_init 102 = .ok (.putfield 56, 3) := by decide +kernel
theorem dX8_init_105 : decode cX8_init 105 = .ok (.aload_n 0, 1) := by decide +kernel
theorem dX8_init_106 : decode cX8_init 106 = .ok (.new 60, 3) := by decide +kernel
theorem dX8_init_109 : decode cX8_init 109 = .ok (.dup, 1) := by decide +kernel
theorem dX8_init_110 : decode cX8_init 110 = .ok (.aload_n 0, 1) := by decide +kernel
theorem dX8_init_111 : decode cX8_init 111 = .ok (.getfield 10, 3) := by decide +kernel
theorem dX8_init_114 : decode cX8_init 114 = .ok (.invokespecial 62, 3) := by decide +kernel
theorem dX8_init_117 : decode cX8_init 117 = .ok (.putfield 63, 3) := by decide +kernel
theorem dX8_init_120 : decode cX8_init 120 = .ok (.aload_n 0, 1) := by decide +kernel
theorem dX8_init_121 : decode cX8_init 121 = .ok (.getfield 10, 3) := by decide +kernel
theorem dX8_init_124 : decode cX8_init 124 = .ok (.iconst 1, 1) := by decide +kernel
theorem dX8_init_125 : decode cX8_init 125 = .ok (.iconst 1, 1) := by decide +kernel
theorem dX8_init_126 : decode cX8_init 126 = .ok (.invokevirtual 67, 3) := by decide +kernel
theorem dX8_init_129 : decode cX8_init 129 = .ok (.return_, 1) := by decide +kernel
set_option maxRecDepth 20000 in
theorem ggX8_begin_X8_needRange : GoodIn wsX8_begin wsX8_needRange := goodIn_ca (goodIn_r _ [7, 8, 9] (by decide +kernel) (by decide +kernel)) (goodIn_sub (fun _ h => List.mem_cons_of_mem _ (List.mem_append_right _ h)) (by decide +kernel))
set_option maxRecDepth 20000 in
theorem gX8_begin_X8_needRange : GoodIn wsX8_begin (va_wsS RX8 71 yX8_needRange wsX8_needRange) := goodIn_app (goodIn_of _ (by decide +kernel)) ggX8_begin_X8_needRange
set_option maxRecDepth 20000 in
theorem ggX8_begin_X0_setOut : GoodIn wsX8_begin wsX0_setOut := goodIn_r _ [14, 15, 16, 17, 18, 19, 20, 21, 22, 45, 46, 47, 48] (by decide +kernel) (by decide +kernel)
set_option maxRecDepth 20000 in
theorem gX8_begin_X0_setOut : GoodIn wsX8_begin (wsV RX8 67 RX0 yX0_setOut wsX0_setOut) := goodIn_app (goodIn_of _ (by decide +kernel)) ggX8_begin_X0_setOut
set_option maxRecDepth 20000 in
theorem ggX8_begin_X4_forget : GoodIn wsX8_begin wsX4_forget := goodIn_r _ [27, 28, 29, 20, 21, 22, 49, 50, 51] (by decide +kernel) (by decide +kernel)
set_option maxRecDepth 20000 in
theorem gX8_begin_X4_forget : GoodIn wsX8_begin (wsV RX8 75 RX4 yX4_forget wsX4_forget) := goodIn_app (goodIn_of _ (by decide +kernel)) ggX8_begin_X4_forget
set_option maxRecDepth 20000 in
theorem ggX8_begin_X6_forget : GoodIn wsX8_begin wsX6_forget := goodIn_r _ [34, 35, 36, 20, 21, 22, 52, 53] (by decide +kernel) (by decide +kernel)
set_option maxRecDepth 20000 in
theorem gX8_begin_X6_forget : GoodIn wsX8_begin (wsV RX8 78 RX6 yX6_forget wsX6_forget) := goodIn_app (goodIn_of _ (by decide +kernel)) ggX8_begin_X6_forget
theorem dX8_begin_0 : decode cX8_begin 0 = .ok (.iload_n 1, 1) := by decide +kernel
theorem dX8_begin_1 : decode cX8_begin 1 = .ok (.iconst 1, 1) := by decide +kernel
theorem dX8_begin_2 : decode cX8_begin 2 = .ok (.bipush 6, 2) := by decide +kernel
theorem dX8_begin_4 : decode cX8_begin 4 = .ok (.invokestatic 71, 3) := by decide +kernel
theorem dX8_begin_7 : decode cX8_begin 7 = .ok (.iload_n 2, 1) := by decide +kernel
theorem dX8_begin_8 : decode cX8_begin 8 = .ok (.iconst 1, 1) := by decide +kernel
theorem dX8_begin_9 : decode cX8_begin 9 = .ok (.bipush 12, 2) := by decide +kernel
theorem dX8_begin_11 : decode cX8_begin 11 = .ok (.invokestatic 71, 3) := by decide +kernel
theorem dX8_begin_14 : decode cX8_begin 14 = .ok (.aload_n 0, 1) := by decide +kernel
theorem dX8_begin_15 : decode cX8_begin 15 = .ok (.getfield 10, 3) := by decide +kernel
theorem dX8_begin_18 : decode cX8_begin 18 = .ok (.iload_n 1, 1) := by decide +kernel
theorem dX8_begin_19 : decode cX8_begin 19 = .ok (.iload_n 2, 1) := by decide +kernel
theorem dX8_begin_20 : decode cX8_begin 20 = .ok (.invokevirtual 67, 3) := by decide +kernel
theorem dX8_begin_23 : decode cX8_begin 23 = .ok (.aload_n 0, 1) := by decide +kernel
theorem dX8_begin_24 : decode cX8_begin 24 = .ok (.getfield 56, 3) := by decide +kernel
theorem dX8_begin_27 : decode cX8_begin 27 = .ok (.invokevirtual 75, 3) := by decide +kernel
theorem dX8_begin_30 : decode cX8_begin 30 = .ok (.aload_n 0, 1) := by decide +kernel
theorem dX8_begin_31 : decode cX8_begin 31 = .ok (.getfield 63, 3) := by decide +kernel
theorem dX8_begin_34 : decode cX8_begin 34 = .ok (.invokevirtual 78, 3) := by decide +kernel
theorem dX8_begin_37 : decode cX8_begin 37 = .ok (.return_, 1) := by decide +kernel
set_option maxRecDepth 20000 in
theorem ggX8_lead_X8_needState : GoodIn wsX8_lead wsX8_needState := goodIn_ca (goodIn_r _ [6, 7, 8, 1, 9, 22, 23, 24, 25, 26, 27, 28, 29, 30, 31, 32, 33] (by decide +kernel) (by decide +kernel)) (goodIn_sub (fun _ h => List.mem_cons_of_mem _ (List.mem_append_right _ h)) (by decide +kernel))
set_option maxRecDepth 20000 in
theorem gX8_lead_X8_needState : GoodIn wsX8_lead (wsV RX8 79 RX8 yX8_needState wsX8_needState) := goodIn_app (goodIn_of _ (by decide +kernel)) ggX8_lead_X8_needState
set_option maxRecDepth 20000 in
theorem ggX8_lead_X8_needSlot : GoodIn wsX8_lead wsX8_needSlot := goodIn_ca (goodIn_r _ [13, 7, 8, 1, 14, 22, 23, 24, 25, 26, 27, 28, 29, 30, 31, 32, 33] (by decide +kernel) (by decide +kernel)) (goodIn_sub (fun _ h => List.mem_cons_of_mem _ (List.mem_append_right _ h)) (by decide +kernel))
set_option maxRecDepth 20000 in
theorem gX8_lead_X8_needSlot : GoodIn wsX8_lead (wsV RX8 83 RX8 yX8_needSlot wsX8_needSlot) := goodIn_app (goodIn_of _ (by decide +kernel)) ggX8_lead_X8_needSlot
set_option maxRecDepth 20000 in
theorem ggX8_lead_X0_turn : GoodIn wsX8_lead wsX0_turn := goodIn_r _ [19, 20, 21, 30, 31, 32, 33] (by decide +kernel) (by decide +kernel)
set_option maxRecDepth 20000 in
theorem gX8_lead_X0_turn : GoodIn wsX8_lead (wsV RX8 86 RX0 yX0_turn wsX0_turn) := goodIn_app (goodIn_of _ (by decide +kernel)) ggX8_lead_X0_turn
theorem dX8_lead_0 : decode cX8_lead 0 = .ok (.aload_n 0, 1) := by decide +kernel
theorem dX8_lead_1 : decode cX8_lead 1 = .ok (.iload_n 1, 1) := by decide +kernel
theorem dX8_lead_2 : decode cX8_lead 2 = .ok (.invokevirtual 79, 3) := by decide +kernel
theorem dX8_lead_5 : decode cX8_lead 5 = .ok (.aload_n 0, 1) := by decide +kernel
theorem dX8_lead_6 : decode cX8_lead 6 = .ok (.iload_n 2, 1) := by decide +kernel
theorem dX8_lead_7 : decode cX8_lead 7 = .ok (.invokevirtual 83, 3) := by decide +kernel
theorem dX8_lead_10 : decode cX8_lead 10 = .ok (.aload_n 0, 1) := by decide +kernel
theorem dX8_lead_11 : decode cX8_lead 11 = .ok (.iload_n 3, 1) := by decide +kernel
theorem dX8_lead_12 : decode cX8_lead 12 = .ok (.invokevirtual 79, 3) := by decide +kernel
theorem dX8_lead_15 : decode cX8_lead 15 = .ok (.aload_n 0, 1) := by decide +kernel
theorem dX8_lead_16 : decode cX8_lead 16 = .ok (.getfield 10, 3) := by decide +kernel
theorem dX8_lead_19 : decode cX8_lead 19 = .ok (.iload_n 1, 1) := by decide +kernel
theorem dX8_lead_20 : decode cX8_lead 20 = .ok (.iload_n 2, 1) := by decide +kernel
theorem dX8_lead_21 : decode cX8_lead 21 = .ok (.iload_n 3, 1) := by decide +kernel
theorem dX8_lead_22 : decode cX8_lead 22 = .ok (.invokevirtual 86, 3) := by decide +kernel
theorem dX8_lead_25 : decode cX8_lead 25 = .ok (.ireturn, 1) := by decide +kernel
set_option maxRecDepth 20000 in
theorem ggX8_swap_X8_needState : GoodIn wsX8_swap wsX8_needState := goodIn_ca (goodIn_r _ [6, 7, 8, 1, 9, 21, 22, 23, 24, 25, 26, 27, 28, 29, 30, 31, 32] (by decide +kernel) (by decide +kernel)) (goodIn_sub (fun _ h => List.mem_cons_of_mem _ (List.mem_append_right _ h)) (by decide +kernel))
set_option maxRecDepth 20000 in
theorem gX8_swap_X8_needState : GoodIn wsX8_swap (wsV RX8 79 RX8 yX8_needState wsX8_needState) := goodIn_app (goodIn_of _ (by decide +kernel)) ggX8_swap_X8_needState
set_option maxRecDepth 20000 in
theorem ggX8_swap_X8_needSlot : GoodIn wsX8_swap wsX8_needSlot := goodIn_ca (goodIn_r _ [13, 7, 8, 1, 14, 21, 22, 23, 24, 25, 26, 27, 28, 29, 30, 31, 32] (by decide +kernel) (by decide +kernel)) (goodIn_sub (fun _ h => List.mem_cons_of_mem _ (List.mem_append_right _ h)) (by decide +kernel))
set_option maxRecDepth 20000 in
theorem gX8_swap_X8_needSlot : GoodIn wsX8_swap (wsV RX8 83 RX8 yX8_needSlot wsX8_needSlot) := goodIn_app (goodIn_of _ (by decide +kernel)) ggX8_swap_X8_needSlot
set_option maxRecDepth 20000 in
theorem ggX8_swap_X0_exchange : GoodIn wsX8_swap wsX0_exchange := goodIn_r _ [19, 20, 29, 30, 31, 32] (by decide +kernel) (by decide +kernel)
set_option maxRecDepth 20000 in
theorem gX8_swap_X0_exchange : GoodIn wsX8_swap (wsV RX8 90 RX0 yX0_exchange wsX0_exchange) := goodIn_app (goodIn_of _ (by decide +kernel)) ggX8_swap_X0_exchange
theorem dX8_swap_0 : decode cX8_swap 0 = .ok (.aload_n 0, 1) := by decide +kernel
theorem dX8_swap_1 : decode cX8_swap 1 = .ok (.iload_n 1, 1) := by decide +kernel
theorem dX8_swap_2 : decode cX8_swap 2 = .ok (.invokevirtual 79, 3) := by decide +kernel
theorem dX8_swap_5 : decode cX8_swap 5 = .ok (.aload_n 0, 1) := by decide +kernel
theorem dX8_swap_6 : decode cX8_swap 6 = .ok (.iload_n 2, 1) := by decide +kernel
theorem dX8_swap_7 : decode cX8_swap 7 = .ok (.invokevirtual 83, 3) := by decide +kernel
theorem dX8_swap_10 : decode cX8_swap 10 = .ok (.aload_n 0, 1) := by decide +kernel
theorem dX8_swap_11 : decode cX8_swap 11 = .ok (.iload_n 3, 1) := by decide +kernel
theorem dX8_swap_12 : decode cX8_swap 12 = .ok (.invokevirtual 83, 3) := by decide +kernel
theorem dX8_swap_15 : decode cX8_swap 15 = .ok (.aload_n 0, 1) := by decide +kernel
theorem dX8_swap_16 : decode cX8_swap 16 = .ok (.getfield 10, 3) := by decide +kernel
theorem dX8_swap_19 : decode cX8_swap 19 = .ok (.iload_n 1, 1) := by decide +kernel
theorem dX8_swap_20 : decode cX8_swap 20 = .ok (.iload_n 2, 1) := by decide +kernel
theorem dX8_swap_21 : decode cX8_swap 21 = .ok (.iload_n 3, 1) := by decide +kernel
theorem dX8_swap_22 : decode cX8_swap 22 = .ok (.invokevirtual 90, 3) := by decide +kernel
theorem dX8_swap_25 : decode cX8_swap 25 = .ok (.return_, 1) := by decide +kernel
set_option maxRecDepth 20000 in
theorem ggX8_pay_X8_needState : GoodIn wsX8_pay wsX8_needState := goodIn_ca (goodIn_r _ [8, 9, 10, 11, 12, 24, 25, 26, 27, 28, 29, 30, 31, 32, 33, 34, 35] (by decide +kernel) (by decide +kernel)) (goodIn_sub (fun _ h => List.mem_cons_of_mem _ (List.mem_append_left _ (List.mem_append_right _ h))) (by decide +kernel))
set_option maxRecDepth 20000 in
theorem gX8_pay_X8_needState : GoodIn wsX8_pay (wsV RX8 79 RX8 yX8_needState wsX8_needState) := goodIn_app (goodIn_of _ (by decide +kernel)) ggX8_pay_X8_needState
set_option maxRecDepth 20000 in
theorem ggX8_pay_X8_needRange : GoodIn wsX8_pay wsX8_needRange := goodIn_ca (goodIn_r _ [15, 16, 17] (by decide +kernel) (by decide +kernel)) (goodIn_sub (fun _ h => List.mem_cons_of_mem _ (List.mem_append_right _ h)) (by decide +kernel))
set_option maxRecDepth 20000 in
theorem gX8_pay_X8_needRange : GoodIn wsX8_pay (va_wsS RX8 71 yX8_needRange wsX8_needRange) := goodIn_app (goodIn_of _ (by decide +kernel)) ggX8_pay_X8_needRange
set_option maxRecDepth 20000 in
theorem ggX8_pay_X4_setPay : GoodIn wsX8_pay wsX4_setPay := goodIn_r _ [22, 23, 36, 37, 38] (by decide +kernel) (by decide +kernel)
set_option maxRecDepth 20000 in
theorem gX8_pay_X4_setPay : GoodIn wsX8_pay (wsV RX8 95 RX4 yX4_setPay wsX4_setPay) := goodIn_app (goodIn_of _ (by decide +kernel)) ggX8_pay_X4_setPay
theorem dX8_pay_0 : decode cX8_pay 0 = .ok (.aload_n 0, 1) := by decide +kernel
theorem dX8_pay_1 : decode cX8_pay 1 = .ok (.iload_n 1, 1) := by decide +kernel
theorem dX8_pay_2 : decode cX8_pay 2 = .ok (.invokevirtual 79, 3) := by decide +kernel
theorem dX8_pay_5 : decode cX8_pay 5 = .ok (.iload_n 2, 1) := by decide +kernel
theorem dX8_pay_6 : decode cX8_pay 6 = .ok (.ldc 93, 2) := by decide +kernel
theorem dX8_pay_8 : decode cX8_pay 8 = .ok (.ldc 94, 2) := by decide +kernel
theorem dX8_pay_10 : decode cX8_pay 10 = .ok (.invokestatic 71, 3) := by decide +kernel
theorem dX8_pay_13 : decode cX8_pay 13 = .ok (.aload_n 0, 1) := by decide +kernel
theorem dX8_pay_14 : decode cX8_pay 14 = .ok (.getfield 56, 3) := by decide +kernel
theorem dX8_pay_17 : decode cX8_pay 17 = .ok (.iload_n 1, 1) := by decide +kernel
theorem dX8_pay_18 : decode cX8_pay 18 = .ok (.iload_n 2, 1) := by decide +kernel
theorem dX8_pay_19 : decode cX8_pay 19 = .ok (.invokevirtual 95, 3) := by decide +kernel
theorem dX8_pay_22 : decode cX8_pay 22 = .ok (.ireturn, 1) := by decide +kernel
set_option maxRecDepth 20000 in
theorem ggX8_colour_X8_needState : GoodIn wsX8_colour wsX8_needState := goodIn_ca (goodIn_r _ [6, 7, 8, 9, 10, 22, 23, 24, 25, 26, 27, 28, 29, 30, 31, 32, 33] (by decide +kernel) (by decide +kernel)) (goodIn_sub (fun _ h => List.mem_cons_of_mem _ (List.mem_append_left _ (List.mem_append_right _ h))) (by decide +kernel))
set_option maxRecDepth 20000 in
theorem gX8_colour_X8_needState : GoodIn wsX8_colour (wsV RX8 79 RX8 yX8_needState wsX8_needState) := goodIn_app (goodIn_of _ (by decide +kernel)) ggX8_colour_X8_needState
set_option maxRecDepth 20000 in
theorem ggX8_colour_X8_needRange : GoodIn wsX8_colour wsX8_needRange := goodIn_ca (goodIn_r _ [13, 14, 15] (by decide +kernel) (by decide +kernel)) (goodIn_sub (fun _ h => List.mem_cons_of_mem _ (List.mem_append_right _ h)) (by decide +kernel))
set_option maxRecDepth 20000 in
theorem gX8_colour_X8_needRange : GoodIn wsX8_colour (va_wsS RX8 71 yX8_needRange wsX8_needRange) := goodIn_app (goodIn_of _ (by decide +kernel)) ggX8_colour_X8_needRange
set_option maxRecDepth 20000 in
theorem ggX8_colour_X6_setColour : GoodIn wsX8_colour wsX6_setColour := goodIn_r _ [20, 21, 34, 35] (by decide +kernel) (by decide +kernel)
set_option maxRecDepth 20000 in
theorem gX8_colour_X6_setColour : GoodIn wsX8_colour (wsV RX8 99 RX6 yX6_setColour wsX6_setColour) := goodIn_app (goodIn_of _ (by decide +kernel)) ggX8_colour_X6_setColour
theorem dX8_colour_0 : decode cX8_colour 0 = .ok (.aload_n 0, 1) := by decide +kernel
theorem dX8_colour_1 : decode cX8_colour 1 = .ok (.iload_n 1, 1) := by decide +kernel
theorem dX8_colour_2 : decode cX8_colour 2 = .ok (.invokevirtual 79, 3) := by decide +kernel
theorem dX8_colour_5 : decode cX8_colour 5 = .ok (.iload_n 2, 1) := by decide +kernel
theorem dX8_colour_6 : decode cX8_colour 6 = .ok (.iconst 0, 1) := by decide +kernel
theorem dX8_colour_7 : decode cX8_colour 7 = .ok (.iconst 5, 1) := by decide +kernel
theorem dX8_colour_8 : decode cX8_colour 8 = .ok (.invokestatic 71, 3) := by decide +kernel
theorem dX8_colour_11 : decode cX8_colour 11 = .ok (.aload_n 0, 1) := by decide +kernel
theorem dX8_colour_12 : decode cX8_colour 12 = .ok (.getfield 63, 3) := by decide +kernel
theorem dX8_colour_15 : decode cX8_colour 15 = .ok (.iload_n 1, 1) := by decide +kernel
theorem dX8_colour_16 : decode cX8_colour 16 = .ok (.iload_n 2, 1) := by decide +kernel
theorem dX8_colour_17 : decode cX8_colour 17 = .ok (.invokevirtual 99, 3) := by decide +kernel
theorem dX8_colour_20 : decode cX8_colour 20 = .ok (.ireturn, 1) := by decide +kernel
set_option maxRecDepth 20000 in
theorem ggX8_weight_X8_needState : GoodIn wsX8_weight wsX8_needState := goodIn_ca (goodIn_r _ [7, 8, 9, 1, 10, 11, 12, 13, 14, 15, 16, 17, 18, 19, 20, 21, 22] (by decide +kernel) (by decide +kernel)) (goodIn_sub (fun _ h => List.mem_cons_of_mem _ (List.mem_append_right _ h)) (by decide +kernel))
set_option maxRecDepth 20000 in
theorem gX8_weight_X8_needState : GoodIn wsX8_weight (wsV RX8 79 RX8 yX8_needState wsX8_needState) := goodIn_app (goodIn_of _ (by decide +kernel)) ggX8_weight_X8_needState
theorem dX8_weight_0 : decode cX8_weight 0 = .ok (.aload_n 0, 1) := by decide +kernel
theorem dX8_weight_1 : decode cX8_weight 1 = .ok (.iload_n 1, 1) := by decide +kernel
theorem dX8_weight_2 : decode cX8_weight 2 = .ok (.invokevirtual 79, 3) := by decide +kernel
theorem dX8_weight_5 : decode cX8_weight 5 = .ok (.aload_n 0, 1) := by decide +kernel
theorem dX8_weight_6 : decode cX8_weight 6 = .ok (.iload_n 2, 1) := by decide +kernel
theorem dX8_weight_7 : decode cX8_weight 7 = .ok (.invokevirtual 79, 3) := by decide +kernel
theorem dX8_weight_10 : decode cX8_weight 10 = .ok (.aload_n 0, 1) := by decide +kernel
theorem dX8_weight_11 : decode cX8_weight 11 = .ok (.getfield 10, 3) := by decide +kernel
theorem dX8_weight_14 : decode cX8_weight 14 = .ok (.getfield 102, 3) := by decide +kernel
theorem dX8_weight_17 : decode cX8_weight 17 = .ok (.iload_n 1, 1) := by decide +kernel
theorem dX8_weight_18 : decode cX8_weight 18 = .ok (.aaload, 1) := by decide +kernel
theorem dX8_weight_19 : decode cX8_weight 19 = .ok (.iload_n 2, 1) := by decide +kernel
theorem dX8_weight_20 : decode cX8_weight 20 = .ok (.iaload, 1) := by decide +kernel
theorem dX8_weight_21 : decode cX8_weight 21 = .ok (.ireturn, 1) := by decide +kernel
set_option maxRecDepth 20000 in
theorem ggX8_words_X8_needRange : GoodIn wsX8_words wsX8_needRange := goodIn_ca (goodIn_r _ [5, 6, 7] (by decide +kernel) (by decide +kernel)) (goodIn_sub (fun _ h => List.mem_cons_of_mem _ (List.mem_append_right _ h)) (by decide +kernel))
set_option maxRecDepth 20000 in
theorem gX8_words_X8_needRange : GoodIn wsX8_words (va_wsS RX8 71 yX8_needRange wsX8_needRange) := goodIn_app (goodIn_of _ (by decide +kernel)) ggX8_words_X8_needRange
set_option maxRecDepth 20000 in
theorem ggX8_words_X0_countWords : GoodIn wsX8_words wsX0_countWords := goodIn_r _ [12, 13, 22, 23, 24, 25] (by decide +kernel) (by decide +kernel)
set_option maxRecDepth 20000 in
theorem gX8_words_X0_countWords : GoodIn wsX8_words (wsV RX8 106 RX0 yX0_countWords wsX0_countWords) := goodIn_app (goodIn_of _ (by decide +kernel)) ggX8_words_X0_countWords
theorem dX8_words_0 : decode cX8_words 0 = .ok (.iload_n 1, 1) := by decide +kernel
theorem dX8_words_1 : decode cX8_words 1 = .ok (.iconst 0, 1) := by decide +kernel
theorem dX8_words_2 : decode cX8_words 2 = .ok (.bipush 12, 2) := by decide +kernel
theorem dX8_words_4 : decode cX8_words 4 = .ok (.invokestatic 71, 3) := by decide +kernel
theorem dX8_words_7 : decode cX8_words 7 = .ok (.aload_n 0, 1) := by decide +kernel
theorem dX8_words_8 : decode cX8_words 8 = .ok (.getfield 10, 3) := by decide +kernel
theorem dX8_words_11 : decode cX8_words 11 = .ok (.iload_n 1, 1) := by decide +kernel
theorem dX8_words_12 : decode cX8_words 12 = .ok (.invokevirtual 106, 3) := by decide +kernel
theorem dX8_words_15 : decode cX8_words 15 = .ok (.lreturn, 1) := by decide +kernel
set_option maxRecDepth 20000 in
theorem ggX8_law_X8_needState : GoodIn wsX8_law wsX8_needState := goodIn_ca (goodIn_r _ [6, 7, 8, 9, 10, 35, 36, 37, 38, 39, 40, 41, 42, 43, 44, 45, 46] (by decide +kernel) (by decide +kernel)) (goodIn_sub (fun _ h => List.mem_cons_of_mem _ (List.mem_append_left _ (List.mem_append_right _ h))) (by decide +kernel))
set_option maxRecDepth 20000 in
theorem gX8_law_X8_needState : GoodIn wsX8_law (wsV RX8 79 RX8 yX8_needState wsX8_needState) := goodIn_app (goodIn_of _ (by decide +kernel)) ggX8_law_X8_needState
set_option maxRecDepth 20000 in
theorem ggX8_law_X8_needRange : GoodIn wsX8_law wsX8_needRange := goodIn_ca (goodIn_r _ [13, 14, 15] (by decide +kernel) (by decide +kernel)) (goodIn_sub (fun _ h => List.mem_cons_of_mem _ (List.mem_append_right _ h)) (by decide +kernel))
set_option maxRecDepth 20000 in
theorem gX8_law_X8_needRange : GoodIn wsX8_law (va_wsS RX8 71 yX8_needRange wsX8_needRange) := goodIn_app (goodIn_of _ (by decide +kernel)) ggX8_law_X8_needRange
set_option maxRecDepth 20000 in
theorem ggX8_law_X5_countLaw : GoodIn wsX8_law wsX5_countLaw := goodIn_r _ [20, 21, 22, 23, 24, 19, 25, 26, 27, 28, 5, 29, 30, 31, 32, 33, 34, 47, 48, 49, 43, 44, 45, 46] (by decide +kernel) (by decide +kernel)
set_option maxRecDepth 20000 in
theorem gX8_law_X5_countLaw : GoodIn wsX8_law (wsV RX8 110 RX5 yX5_countLaw wsX5_countLaw) := goodIn_app (goodIn_of _ (by decide +kernel)) ggX8_law_X5_countLaw
theorem dX8_law_0 : decode cX8_law 0 = .ok (.aload_n 0, 1) := by decide +kernel
theorem dX8_law_1 : decode cX8_law 1 = .ok (.iload_n 1, 1) := by decide +kernel
theorem dX8_law_2 : decode cX8_law 2 = .ok (.invokevirtual 79, 3) := by decide +kernel
theorem dX8_law_5 : decode cX8_law 5 = .ok (.aload_n 0, 1) := by decide +kernel
theorem dX8_law_6 : decode cX8_law 6 = .ok (.iload_n 3, 1) := by decide +kernel
theorem dX8_law_7 : decode cX8_law 7 = .ok (.invokevirtual 79, 3) := by decide +kernel
theorem dX8_law_10 : decode cX8_law 10 = .ok (.iload_n 2, 1) := by decide +kernel
theorem dX8_law_11 : decode cX8_law 11 = .ok (.iconst 0, 1) := by decide +kernel
theorem dX8_law_12 : decode cX8_law 12 = .ok (.bipush 12, 2) := by decide +kernel
theorem dX8_law_14 : decode cX8_law 14 = .ok (.invokestatic 71, 3) := by decide +kernel
theorem dX8_law_17 : decode cX8_law 17 = .ok (.aload_n 0, 1) := by decide +kernel
theorem dX8_law_18 : decode cX8_law 18 = .ok (.getfield 21, 3) := by decide +kernel
theorem dX8_law_21 : decode cX8_law 21 = .ok (.iload_n 1, 1) := by decide +kernel
theorem dX8_law_22 : decode cX8_law 22 = .ok (.iload_n 2, 1) := by decide +kernel
theorem dX8_law_23 : decode cX8_law 23 = .ok (.iload_n 3, 1) := by decide +kernel
theorem dX8_law_24 : decode cX8_law 24 = .ok (.invokevirtual 110, 3) := by decide +kernel
theorem dX8_law_27 : decode cX8_law 27 = .ok (.lreturn, 1) := by decide +kernel
set_option maxRecDepth 20000 in
theorem ggX8_lawAnew_X8_needState : GoodIn wsX8_lawAnew wsX8_needState := goodIn_ca (goodIn_r _ [6, 7, 8, 1, 9, 20, 21, 22, 23, 24, 25, 26, 27, 28, 29, 30, 31] (by decide +kernel) (by decide +kernel)) (goodIn_sub (fun _ h => List.mem_cons_of_mem _ (List.mem_append_left _ (List.mem_append_right _ h))) (by decide +kernel))
set_option maxRecDepth 20000 in
theorem gX8_lawAnew_X8_needState : GoodIn wsX8_lawAnew (wsV RX8 79 RX8 yX8_needState wsX8_needState) := goodIn_app (goodIn_of _ (by decide +kernel)) ggX8_lawAnew_X8_needState
set_option maxRecDepth 20000 in
theorem ggX8_lawAnew_X8_needRange : GoodIn wsX8_lawAnew wsX8_needRange := goodIn_ca (goodIn_r _ [12, 13, 14] (by decide +kernel) (by decide +kernel)) (goodIn_sub (fun _ h => List.mem_cons_of_mem _ (List.mem_append_right _ h)) (by decide +kernel))
set_option maxRecDepth 20000 in
theorem gX8_lawAnew_X8_needRange : GoodIn wsX8_lawAnew (va_wsS RX8 71 yX8_needRange wsX8_needRange) := goodIn_app (goodIn_of _ (by decide +kernel)) ggX8_lawAnew_X8_needRange
set_option maxRecDepth 20000 in
theorem ggX8_lawAnew_X8_goThroughWords : GoodIn wsX8_lawAnew wsX8_goThroughWords := goodIn_r _ [17, 18, 19, 15, 16, 5, 28, 29, 30, 31] (by decide +kernel) (by decide +kernel)
set_option maxRecDepth 20000 in
theorem gX8_lawAnew_X8_goThroughWords : GoodIn wsX8_lawAnew (va_wsS RX8 114 yX8_goThroughWords wsX8_goThroughWords) := goodIn_app (goodIn_of _ (by decide +kernel)) ggX8_lawAnew_X8_goThroughWords
theorem dX8_lawAnew_0 : decode cX8_lawAnew 0 = .ok (.aload_n 0, 1) := by decide +kernel
theorem dX8_lawAnew_1 : decode cX8_lawAnew 1 = .ok (.iload_n 1, 1) := by decide +kernel
theorem dX8_lawAnew_2 : decode cX8_lawAnew 2 = .ok (.invokevirtual 79, 3) := by decide +kernel
theorem dX8_lawAnew_5 : decode cX8_lawAnew 5 = .ok (.aload_n 0, 1) := by decide +kernel
theorem dX8_lawAnew_6 : decode cX8_lawAnew 6 = .ok (.iload_n 3, 1) := by decide +kernel
theorem dX8_lawAnew_7 : decode cX8_lawAnew 7 = .ok (.invokevirtual 79, 3) := by decide +kernel
theorem dX8_lawAnew_10 : decode cX8_lawAnew 10 = .ok (.iload_n 2, 1) := by decide +kernel
theorem dX8_lawAnew_11 : decode cX8_lawAnew 11 = .ok (.iconst 0, 1) := by decide +kernel
theorem dX8_lawAnew_12 : decode cX8_lawAnew 12 = .ok (.iconst 4, 1) := by decide +kernel
theorem dX8_lawAnew_13 : decode cX8_lawAnew 13 = .ok (.invokestatic 71, 3) := by decide +kernel
theorem dX8_lawAnew_16 : decode cX8_lawAnew 16 = .ok (.aload_n 0, 1) := by decide +kernel
theorem dX8_lawAnew_17 : decode cX8_lawAnew 17 = .ok (.getfield 10, 3) := by decide +kernel
theorem dX8_lawAnew_20 : decode cX8_lawAnew 20 = .ok (.iload_n 1, 1) := by decide +kernel
theorem dX8_lawAnew_21 : decode cX8_lawAnew 21 = .ok (.iload_n 2, 1) := by decide +kernel
theorem dX8_lawAnew_22 : decode cX8_lawAnew 22 = .ok (.iload_n 3, 1) := by decide +kernel
theorem dX8_lawAnew_23 : decode cX8_lawAnew 23 = .ok (.invokestatic 114, 3) := by decide +kernel
theorem dX8_lawAnew_26 : decode cX8_lawAnew 26 = .ok (.lreturn, 1) := by decide +kernel
set_option maxRecDepth 20000 in
theorem ggX8_distance_X8_needState : GoodIn wsX8_distance wsX8_needState := goodIn_ca (goodIn_r _ [6, 7, 8, 9, 10, 39, 40, 41, 42, 43, 44, 45, 46, 47, 48, 49, 50] (by decide +kernel) (by decide +kernel)) (goodIn_sub (fun _ h => List.mem_cons_of_mem _ (List.mem_append_left _ (List.mem_append_right _ h))) (by decide +kernel))
set_option maxRecDepth 20000 in
theorem gX8_distance_X8_needState : GoodIn wsX8_distance (wsV RX8 79 RX8 yX8_needState wsX8_needState) := goodIn_app (goodIn_of _ (by decide +kernel)) ggX8_distance_X8_needState
set_option maxRecDepth 20000 in
theorem ggX8_distance_X8_needRange : GoodIn wsX8_distance wsX8_needRange := goodIn_ca (goodIn_r _ [13, 14, 15] (by decide +kernel) (by decide +kernel)) (goodIn_sub (fun _ h => List.mem_cons_of_mem _ (List.mem_append_right _ h)) (by decide +kernel))
set_option maxRecDepth 20000 in
theorem gX8_distance_X8_needRange : GoodIn wsX8_distance (va_wsS RX8 71 yX8_needRange wsX8_needRange) := goodIn_app (goodIn_of _ (by decide +kernel)) ggX8_distance_X8_needRange
set_option maxRecDepth 20000 in
theorem ggX8_distance_X5_countLaws : GoodIn wsX8_distance wsX5_countLaws := goodIn_r _ [20, 21, 22, 23, 24, 5, 25, 26, 27, 28, 19, 29, 30, 51, 52, 53, 47, 48, 49, 50] (by decide +kernel) (by decide +kernel)
set_option maxRecDepth 20000 in
theorem gX8_distance_X5_countLaws : GoodIn wsX8_distance (wsV RX8 118 RX5 yX5_countLaws wsX5_countLaws) := goodIn_app (goodIn_of _ (by decide +kernel)) ggX8_distance_X5_countLaws
set_option maxRecDepth 20000 in
theorem ggX8_distance_X5_distanceBehind : GoodIn wsX8_distance wsX5_distanceBehind := goodIn_r _ [34, 21, 22, 23, 35, 36, 37, 38, 24, 5, 25, 51, 52, 53, 47, 48, 49, 50] (by decide +kernel) (by decide +kernel)
set_option maxRecDepth 20000 in
theorem gX8_distance_X5_distanceBehind : GoodIn wsX8_distance (wsV RX8 121 RX5 yX5_distanceBehind wsX5_distanceBehind) := goodIn_app (goodIn_of _ (by decide +kernel)) ggX8_distance_X5_distanceBehind
theorem dX8_distance_0 : decode cX8_distance 0 = .ok (.aload_n 0, 1) := by decide +kernel
theorem dX8_distance_1 : decode cX8_distance 1 = .ok (.iload_n 1, 1) := by decide +kernel
theorem dX8_distance_2 : decode cX8_distance 2 = .ok (.invokevirtual 79, 3) := by decide +kernel
theorem dX8_distance_5 : decode cX8_distance 5 = .ok (.aload_n 0, 1) := by decide +kernel
theorem dX8_distance_6 : decode cX8_distance 6 = .ok (.iload_n 2, 1) := by decide +kernel
theorem dX8_distance_7 : decode cX8_distance 7 = .ok (.invokevirtual 79, 3) := by decide +kernel
theorem dX8_distance_10 : decode cX8_distance 10 = .ok (.iload_n 3, 1) := by decide +kernel
theorem dX8_distance_11 : decode cX8_distance 11 = .ok (.iconst 0, 1) := by decide +kernel
theorem dX8_distance_12 : decode cX8_distance 12 = .ok (.bipush 12, 2) := by decide +kernel
theorem dX8_distance_14 : decode cX8_distance 14 = .ok (.invokestatic 71, 3) := by decide +kernel
theorem dX8_distance_17 : decode cX8_distance 17 = .ok (.aload_n 0, 1) := by decide +kernel
theorem dX8_distance_18 : decode cX8_distance 18 = .ok (.getfield 21, 3) := by decide +kernel
theorem dX8_distance_21 : decode cX8_distance 21 = .ok (.iload_n 3, 1) := by decide +kernel
theorem dX8_distance_22 : decode cX8_distance 22 = .ok (.invokevirtual 118, 3) := by decide +kernel
theorem dX8_distance_25 : decode cX8_distance 25 = .ok (.aload_n 0, 1) := by decide +kernel
theorem dX8_distance_26 : decode cX8_distance 26 = .ok (.getfield 21, 3) := by decide +kernel
theorem dX8_distance_29 : decode cX8_distance 29 = .ok (.iload_n 1, 1) := by decide +kernel
theorem dX8_distance_30 : decode cX8_distance 30 = .ok (.iload_n 2, 1) := by decide +kernel
theorem dX8_distance_31 : decode cX8_distance 31 = .ok (.iload_n 3, 1) := by decide +kernel
theorem dX8_distance_32 : decode cX8_distance 32 = .ok (.invokevirtual 121, 3) := by decide +kernel
theorem dX8_distance_35 : decode cX8_distance 35 = .ok (.lreturn, 1) := by decide +kernel
set_option maxRecDepth 20000 in
theorem ggX8_mixing_X8_needRange : GoodIn wsX8_mixing wsX8_needRange := goodIn_ca (goodIn_r _ [5, 6, 7] (by decide +kernel) (by decide +kernel)) (goodIn_sub (fun _ h => List.mem_cons_of_mem _ (List.mem_append_right _ h)) (by decide +kernel))
set_option maxRecDepth 20000 in
theorem gX8_mixing_X8_needRange : GoodIn wsX8_mixing (va_wsS RX8 71 yX8_needRange wsX8_needRange) := goodIn_app (goodIn_of _ (by decide +kernel)) ggX8_mixing_X8_needRange
set_option maxRecDepth 20000 in
theorem ggX8_mixing_X5_countLaws : GoodIn wsX8_mixing wsX5_countLaws := goodIn_r _ [12, 13, 14, 15, 16, 4, 17, 18, 19, 20, 11, 21, 22, 50, 51, 52, 53, 54, 55, 56] (by decide +kernel) (by decide +kernel)
set_option maxRecDepth 20000 in
theorem gX8_mixing_X5_countLaws : GoodIn wsX8_mixing (wsV RX8 118 RX5 yX5_countLaws wsX5_countLaws) := goodIn_app (goodIn_of _ (by decide +kernel)) ggX8_mixing_X5_countLaws
set_option maxRecDepth 20000 in
theorem ggX8_mixing_X5_isMixed : GoodIn wsX8_mixing wsX5_isMixed := goodIn_r _ [26, 13, 14, 27, 28, 29, 30, 31, 32, 33, 34, 35, 36, 11, 37, 15, 38, 39, 40, 41, 16, 4, 17, 50, 51, 52, 53, 54, 55, 56] (by decide +kernel) (by decide +kernel)
set_option maxRecDepth 20000 in
theorem gX8_mixing_X5_isMixed : GoodIn wsX8_mixing (wsV RX8 124 RX5 yX5_isMixed wsX5_isMixed) := goodIn_app (goodIn_of _ (by decide +kernel)) ggX8_mixing_X5_isMixed
theorem dX8_mixing_0 : decode cX8_mixing 0 = .ok (.iload_n 1, 1) := by decide +kernel
theorem dX8_mixing_1 : decode cX8_mixing 1 = .ok (.iconst 0, 1) := by decide +kernel
theorem dX8_mixing_2 : decode cX8_mixing 2 = .ok (.sipush 1000, 3) := by decide +kernel
theorem dX8_mixing_5 : decode cX8_mixing 5 = .ok (.invokestatic 71, 3) := by decide +kernel
theorem dX8_mixing_8 : decode cX8_mixing 8 = .ok (.aload_n 0, 1) := by decide +kernel
theorem dX8_mixing_9 : decode cX8_mixing 9 = .ok (.getfield 21, 3) := by decide +kernel
theorem dX8_mixing_12 : decode cX8_mixing 12 = .ok (.bipush 12, 2) := by decide +kernel
theorem dX8_mixing_14 : decode cX8_mixing 14 = .ok (.invokevirtual 118, 3) := by decide +kernel
theorem dX8_mixing_17 : decode cX8_mixing 17 = .ok (.iconst 0, 1) := by decide +kernel
theorem dX8_mixing_18 : decode cX8_mixing 18 = .ok (.istore_n 2, 1) := by decide +kernel
theorem dX8_mixing_19 : decode cX8_mixing 19 = .ok (.iload_n 2, 1) := by decide +kernel
theorem dX8_mixing_20 : decode cX8_mixing 20 = .ok (.bipush 12, 2) := by decide +kernel
theorem dX8_mixing_22 : decode cX8_mixing 22 = .ok (.if_icmp .gt 23, 3) := by decide +kernel
theorem dX8_mixing_25 : decode cX8_mixing 25 = .ok (.aload_n 0, 1) := by decide +kernel
theorem dX8_mixing_26 : decode cX8_mixing 26 = .ok (.getfield 21, 3) := by decide +kernel
theorem dX8_mixing_29 : decode cX8_mixing 29 = .ok (.iload_n 1, 1) := by decide +kernel
theorem dX8_mixing_30 : decode cX8_mixing 30 = .ok (.iload_n 2, 1) := by decide +kernel
theorem dX8_mixing_31 : decode cX8_mixing 31 = .ok (.invokevirtual 124, 3) := by decide +kernel
theorem dX8_mixing_34 : decode cX8_mixing 34 = .ok (.ifCond .eq 5, 3) := by decide +kernel
theorem dX8_mixing_37 : decode cX8_mixing 37 = .ok (.iload_n 2, 1) := by decide +kernel
theorem dX8_mixing_38 : decode cX8_mixing 38 = .ok (.ireturn, 1) := by decide +kernel
theorem dX8_mixing_39 : decode cX8_mixing 39 = .ok (.iinc 2 1, 3) := by decide +kernel
theorem dX8_mixing_42 : decode cX8_mixing 42 = .ok (.goto (-23), 3) := by decide +kernel
theorem dX8_mixing_45 : decode cX8_mixing 45 = .ok (.iconst (-1), 1) := by decide +kernel
theorem dX8_mixing_46 : decode cX8_mixing 46 = .ok (.ireturn, 1) := by decide +kernel
set_option maxRecDepth 20000 in
theorem ggX8_apart_X8_needState : GoodIn wsX8_apart wsX8_needState := goodIn_ca (goodIn_r _ [6, 7, 8, 9, 10, 32, 33, 34, 35, 36, 37, 38, 39, 40, 41, 42, 43] (by decide +kernel) (by decide +kernel)) (goodIn_sub (fun _ h => List.mem_cons_of_mem _ (List.mem_append_left _ (List.mem_append_right _ h))) (by decide +kernel))
set_option maxRecDepth 20000 in
theorem gX8_apart_X8_needState : GoodIn wsX8_apart (wsV RX8 79 RX8 yX8_needState wsX8_needState) := goodIn_app (goodIn_of _ (by decide +kernel)) ggX8_apart_X8_needState
set_option maxRecDepth 20000 in
theorem ggX8_apart_X8_needRange : GoodIn wsX8_apart wsX8_needRange := goodIn_ca (goodIn_r _ [13, 14, 15] (by decide +kernel) (by decide +kernel)) (goodIn_sub (fun _ h => List.mem_cons_of_mem _ (List.mem_append_right _ h)) (by decide +kernel))
set_option maxRecDepth 20000 in
theorem gX8_apart_X8_needRange : GoodIn wsX8_apart (va_wsS RX8 71 yX8_needRange wsX8_needRange) := goodIn_app (goodIn_of _ (by decide +kernel)) ggX8_apart_X8_needRange
set_option maxRecDepth 20000 in
theorem ggX8_apart_X2_countApart : GoodIn wsX8_apart wsX2_countApart := goodIn_r _ [20, 21, 22, 23, 24, 5, 25, 26, 27, 28, 19, 29, 30, 31, 44, 45, 46, 40, 41, 42, 43] (by decide +kernel) (by decide +kernel)
set_option maxRecDepth 20000 in
theorem gX8_apart_X2_countApart : GoodIn wsX8_apart (wsV RX8 128 RX2 yX2_countApart wsX2_countApart) := goodIn_app (goodIn_of _ (by decide +kernel)) ggX8_apart_X2_countApart
theorem dX8_apart_0 : decode cX8_apart 0 = .ok (.aload_n 0, 1) := by decide +kernel
theorem dX8_apart_1 : decode cX8_apart 1 = .ok (.iload_n 1, 1) := by decide +kernel
theorem dX8_apart_2 : decode cX8_apart 2 = .ok (.invokevirtual 79, 3) := by decide +kernel
theorem dX8_apart_5 : decode cX8_apart 5 = .ok (.aload_n 0, 1) := by decide +kernel
theorem dX8_apart_6 : decode cX8_apart 6 = .ok (.iload_n 2, 1) := by decide +kernel
theorem dX8_apart_7 : decode cX8_apart 7 = .ok (.invokevirtual 79, 3) := by decide +kernel
theorem dX8_apart_10 : decode cX8_apart 10 = .ok (.iload_n 3, 1) := by decide +kernel
theorem dX8_apart_11 : decode cX8_apart 11 = .ok (.iconst 0, 1) := by decide +kernel
theorem dX8_apart_12 : decode cX8_apart 12 = .ok (.bipush 12, 2) := by decide +kernel
theorem dX8_apart_14 : decode cX8_apart 14 = .ok (.invokestatic 71, 3) := by decide +kernel
theorem dX8_apart_17 : decode cX8_apart 17 = .ok (.aload_n 0, 1) := by decide +kernel
theorem dX8_apart_18 : decode cX8_apart 18 = .ok (.getfield 28, 3) := by decide +kernel
theorem dX8_apart_21 : decode cX8_apart 21 = .ok (.iload_n 1, 1) := by decide +kernel
theorem dX8_apart_22 : decode cX8_apart 22 = .ok (.iload_n 2, 1) := by decide +kernel
theorem dX8_apart_23 : decode cX8_apart 23 = .ok (.iload_n 3, 1) := by decide +kernel
theorem dX8_apart_24 : decode cX8_apart 24 = .ok (.invokevirtual 128, 3) := by decide +kernel
theorem dX8_apart_27 : decode cX8_apart 27 = .ok (.lreturn, 1) := by decide +kernel
set_option maxRecDepth 20000 in
theorem ggX8_together_X8_needState : GoodIn wsX8_together wsX8_needState := goodIn_ca (goodIn_r _ [6, 7, 8, 9, 10, 38, 39, 40, 41, 42, 43, 44, 45, 46, 47, 48, 49] (by decide +kernel) (by decide +kernel)) (goodIn_sub (fun _ h => List.mem_cons_of_mem _ (List.mem_append_left _ (List.mem_append_right _ h))) (by decide +kernel))
set_option maxRecDepth 20000 in
theorem gX8_together_X8_needState : GoodIn wsX8_together (wsV RX8 79 RX8 yX8_needState wsX8_needState) := goodIn_app (goodIn_of _ (by decide +kernel)) ggX8_together_X8_needState
set_option maxRecDepth 20000 in
theorem ggX8_together_X8_needRange : GoodIn wsX8_together wsX8_needRange := goodIn_ca (goodIn_r _ [13, 14, 15] (by decide +kernel) (by decide +kernel)) (goodIn_sub (fun _ h => List.mem_cons_of_mem _ (List.mem_append_right _ h)) (by decide +kernel))
set_option maxRecDepth 20000 in
theorem gX8_together_X8_needRange : GoodIn wsX8_together (va_wsS RX8 71 yX8_needRange wsX8_needRange) := goodIn_app (goodIn_of _ (by decide +kernel)) ggX8_together_X8_needRange
set_option maxRecDepth 20000 in
theorem ggX8_together_X2_countTogether : GoodIn wsX8_together wsX2_countTogether := goodIn_r _ [20, 21, 22, 23, 24, 25, 26, 27, 28, 29, 30, 19, 31, 32, 33, 34, 35, 36, 37, 50, 51, 52, 46, 47, 48, 49] (by decide +kernel) (by decide +kernel)
set_option maxRecDepth 20000 in
theorem gX8_together_X2_countTogether : GoodIn wsX8_together (wsV RX8 131 RX2 yX2_countTogether wsX2_countTogether) := goodIn_app (goodIn_of _ (by decide +kernel)) ggX8_together_X2_countTogether
theorem dX8_together_0 : decode cX8_together 0 = .ok (.aload_n 0, 1) := by decide +kernel
theorem dX8_together_1 : decode cX8_together 1 = .ok (.iload_n 2, 1) := by decide +kernel
theorem dX8_together_2 : decode cX8_together 2 = .ok (.invokevirtual 79, 3) := by decide +kernel
theorem dX8_together_5 : decode cX8_together 5 = .ok (.iload_n 1, 1) := by decide +kernel
theorem dX8_together_6 : decode cX8_together 6 = .ok (.iconst 0, 1) := by decide +kernel
theorem dX8_together_7 : decode cX8_together 7 = .ok (.bipush 12, 2) := by decide +kernel
theorem dX8_together_9 : decode cX8_together 9 = .ok (.invokestatic 71, 3) := by decide +kernel
theorem dX8_together_12 : decode cX8_together 12 = .ok (.aload_n 0, 1) := by decide +kernel
theorem dX8_together_13 : decode cX8_together 13 = .ok (.getfield 28, 3) := by decide +kernel
theorem dX8_together_16 : decode cX8_together 16 = .ok (.iload_n 1, 1) := by decide +kernel
theorem dX8_together_17 : decode cX8_together 17 = .ok (.iload_n 2, 1) := by decide +kernel
theorem dX8_together_18 : decode cX8_together 18 = .ok (.invokevirtual 131, 3) := by decide +kernel
theorem dX8_together_21 : decode cX8_together 21 = .ok (.lreturn, 1) := by decide +kernel
set_option maxRecDepth 20000 in
theorem ggX8_hits_X8_needState : GoodIn wsX8_hits wsX8_needState := goodIn_ca (goodIn_r _ [6, 7, 8, 9, 10, 40, 41, 42, 43, 44, 45, 46, 47, 48, 49, 50, 51] (by decide +kernel) (by decide +kernel)) (goodIn_sub (fun _ h => List.mem_cons_of_mem _ (List.mem_append_left _ (List.mem_append_right _ h))) (by decide +kernel))
set_option maxRecDepth 20000 in
theorem gX8_hits_X8_needState : GoodIn wsX8_hits (wsV RX8 79 RX8 yX8_needState wsX8_needState) := goodIn_app (goodIn_of _ (by decide +kernel)) ggX8_hits_X8_needState
set_option maxRecDepth 20000 in
theorem ggX8_hits_X8_needRange : GoodIn wsX8_hits wsX8_needRange := goodIn_ca (goodIn_r _ [13, 14, 15] (by decide +kernel) (by decide +kernel)) (goodIn_sub (fun _ h => List.mem_cons_of_mem _ (List.mem_append_right _ h)) (by decide +kernel))
set_option maxRecDepth 20000 in
theorem gX8_hits_X8_needRange : GoodIn wsX8_hits (va_wsS RX8 71 yX8_needRange wsX8_needRange) := goodIn_app (goodIn_of _ (by decide +kernel)) ggX8_hits_X8_needRange
set_option maxRecDepth 20000 in
theorem ggX8_hits_X5_countHits : GoodIn wsX8_hits wsX5_countHits := goodIn_r _ [20, 21, 22, 23, 24, 25, 26, 19, 27, 28, 29, 30, 31, 32, 33, 34, 35, 36, 37, 38, 39, 52, 53, 54, 48, 49, 50, 51] (by decide +kernel) (by decide +kernel)
set_option maxRecDepth 20000 in
theorem gX8_hits_X5_countHits : GoodIn wsX8_hits (wsV RX8 135 RX5 yX5_countHits wsX5_countHits) := goodIn_app (goodIn_of _ (by decide +kernel)) ggX8_hits_X5_countHits
theorem dX8_hits_0 : decode cX8_hits 0 = .ok (.aload_n 0, 1) := by decide +kernel
theorem dX8_hits_1 : decode cX8_hits 1 = .ok (.iload_n 1, 1) := by decide +kernel
theorem dX8_hits_2 : decode cX8_hits 2 = .ok (.invokevirtual 79, 3) := by decide +kernel
theorem dX8_hits_5 : decode cX8_hits 5 = .ok (.aload_n 0, 1) := by decide +kernel
theorem dX8_hits_6 : decode cX8_hits 6 = .ok (.iload_n 3, 1) := by decide +kernel
theorem dX8_hits_7 : decode cX8_hits 7 = .ok (.invokevirtual 79, 3) := by decide +kernel
theorem dX8_hits_10 : decode cX8_hits 10 = .ok (.iload_n 2, 1) := by decide +kernel
theorem dX8_hits_11 : decode cX8_hits 11 = .ok (.iconst 0, 1) := by decide +kernel
theorem dX8_hits_12 : decode cX8_hits 12 = .ok (.bipush 12, 2) := by decide +kernel
theorem dX8_hits_14 : decode cX8_hits 14 = .ok (.invokestatic 71, 3) := by decide +kernel
theorem dX8_hits_17 : decode cX8_hits 17 = .ok (.aload_n 0, 1) := by decide +kernel
theorem dX8_hits_18 : decode cX8_hits 18 = .ok (.getfield 21, 3) := by decide +kernel
theorem dX8_hits_21 : decode cX8_hits 21 = .ok (.iload_n 1, 1) := by decide +kernel
theorem dX8_hits_22 : decode cX8_hits 22 = .ok (.iload_n 2, 1) := by decide +kernel
theorem dX8_hits_23 : decode cX8_hits 23 = .ok (.iload_n 3, 1) := by decide +kernel
theorem dX8_hits_24 : decode cX8_hits 24 = .ok (.invokevirtual 135, 3) := by decide +kernel
theorem dX8_hits_27 : decode cX8_hits 27 = .ok (.lreturn, 1) := by decide +kernel
set_option maxRecDepth 20000 in
theorem ggX8_reach_X8_needState : GoodIn wsX8_reach wsX8_needState := goodIn_ca (goodIn_r _ [6, 7, 8, 9, 10, 23, 24, 25, 26, 27, 28, 29, 30, 31, 32, 33, 34] (by decide +kernel) (by decide +kernel)) (goodIn_sub (fun _ h => List.mem_cons_of_mem _ (List.mem_append_right _ h)) (by decide +kernel))
set_option maxRecDepth 20000 in
theorem gX8_reach_X8_needState : GoodIn wsX8_reach (wsV RX8 79 RX8 yX8_needState wsX8_needState) := goodIn_app (goodIn_of _ (by decide +kernel)) ggX8_reach_X8_needState
set_option maxRecDepth 20000 in
theorem ggX8_reach_X1_reachedFrom : GoodIn wsX8_reach wsX1_reachedFrom := goodIn_r _ [15, 16, 17, 18, 19, 20, 14, 21, 22, 35, 31, 32, 33, 34] (by decide +kernel) (by decide +kernel)
set_option maxRecDepth 20000 in
theorem gX8_reach_X1_reachedFrom : GoodIn wsX8_reach (wsV RX8 138 RX1 yX1_reachedFrom wsX1_reachedFrom) := goodIn_app (goodIn_of _ (by decide +kernel)) ggX8_reach_X1_reachedFrom
theorem dX8_reach_0 : decode cX8_reach 0 = .ok (.aload_n 0, 1) := by decide +kernel
theorem dX8_reach_1 : decode cX8_reach 1 = .ok (.iload_n 1, 1) := by decide +kernel
theorem dX8_reach_2 : decode cX8_reach 2 = .ok (.invokevirtual 79, 3) := by decide +kernel
theorem dX8_reach_5 : decode cX8_reach 5 = .ok (.aload_n 0, 1) := by decide +kernel
theorem dX8_reach_6 : decode cX8_reach 6 = .ok (.getfield 35, 3) := by decide +kernel
theorem dX8_reach_9 : decode cX8_reach 9 = .ok (.iload_n 1, 1) := by decide +kernel
theorem dX8_reach_10 : decode cX8_reach 10 = .ok (.invokevirtual 138, 3) := by decide +kernel
theorem dX8_reach_13 : decode cX8_reach 13 = .ok (.ireturn, 1) := by decide +kernel
set_option maxRecDepth 20000 in
theorem ggX8_closed_X1_countClosed : GoodIn wsX8_closed wsX1_countClosed := goodIn_r _ [6, 7, 8, 9, 10, 11, 5, 12, 13, 14, 15, 16, 17, 18, 19, 20, 21, 30, 31, 32, 33, 34] (by decide +kernel) (by decide +kernel)
set_option maxRecDepth 20000 in
theorem gX8_closed_X1_countClosed : GoodIn wsX8_closed (wsV RX8 142 RX1 yX1_countClosed wsX1_countClosed) := goodIn_app (goodIn_of _ (by decide +kernel)) ggX8_closed_X1_countClosed
theorem dX8_closed_0 : decode cX8_closed 0 = .ok (.aload_n 0, 1) := by decide +kernel
theorem dX8_closed_1 : decode cX8_closed 1 = .ok (.getfield 35, 3) := by decide +kernel
theorem dX8_closed_4 : decode cX8_closed 4 = .ok (.invokevirtual 142, 3) := by decide +kernel
theorem dX8_closed_7 : decode cX8_closed 7 = .ok (.ireturn, 1) := by decide +kernel
set_option maxRecDepth 20000 in
theorem ggX8_period_X8_needState : GoodIn wsX8_period wsX8_needState := goodIn_ca (goodIn_r _ [6, 7, 8, 9, 10, 29, 30, 31, 32, 33, 34, 35, 36, 37, 38, 39, 40] (by decide +kernel) (by decide +kernel)) (goodIn_sub (fun _ h => List.mem_cons_of_mem _ (List.mem_append_right _ h)) (by decide +kernel))
set_option maxRecDepth 20000 in
theorem gX8_period_X8_needState : GoodIn wsX8_period (wsV RX8 79 RX8 yX8_needState wsX8_needState) := goodIn_app (goodIn_of _ (by decide +kernel)) ggX8_period_X8_needState
set_option maxRecDepth 20000 in
theorem ggX8_period_X1_periodOf : GoodIn wsX8_period wsX1_periodOf := goodIn_r _ [15, 16, 17, 18, 14, 19, 20, 21, 22, 23, 24, 25, 26, 27, 28, 41, 37, 38, 39, 40] (by decide +kernel) (by decide +kernel)
set_option maxRecDepth 20000 in
theorem gX8_period_X1_periodOf : GoodIn wsX8_period (wsV RX8 146 RX1 yX1_periodOf wsX1_periodOf) := goodIn_app (goodIn_of _ (by decide +kernel)) ggX8_period_X1_periodOf
theorem dX8_period_0 : decode cX8_period 0 = .ok (.aload_n 0, 1) := by decide +kernel
theorem dX8_period_1 : decode cX8_period 1 = .ok (.iload_n 1, 1) := by decide +kernel
theorem dX8_period_2 : decode cX8_period 2 = .ok (.invokevirtual 79, 3) := by decide +kernel
theorem dX8_period_5 : decode cX8_period 5 = .ok (.aload_n 0, 1) := by decide +kernel
theorem dX8_period_6 : decode cX8_period 6 = .ok (.getfield 35, 3) := by decide +kernel
theorem dX8_period_9 : decode cX8_period 9 = .ok (.iload_n 1, 1) := by decide +kernel
theorem dX8_period_10 : decode cX8_period 10 = .ok (.invokevirtual 146, 3) := by decide +kernel
theorem dX8_period_13 : decode cX8_period 13 = .ok (.ireturn, 1) := by decide +kernel
set_option maxRecDepth 20000 in
theorem ggX8_rest_X7_wholeRest : GoodIn wsX8_rest wsX7_wholeRest := goodIn_r _ [6, 7, 8, 9, 10, 11, 12, 5, 13, 14, 15, 16, 17, 18, 19, 20, 21, 22, 23, 24, 25, 26, 27, 28, 29, 30, 31, 32, 33, 34, 35, 36, 37, 38, 39, 40, 59, 60, 61, 62, 63, 64, 65, 66] (by decide +kernel) (by decide +kernel)
set_option maxRecDepth 20000 in
theorem gX8_rest_X7_wholeRest : GoodIn wsX8_rest (wsV RX8 149 RX7 yX7_wholeRest wsX7_wholeRest) := goodIn_app (goodIn_of _ (by decide +kernel)) ggX8_rest_X7_wholeRest
set_option maxRecDepth 20000 in
theorem ggX8_rest_X8_needState : GoodIn wsX8_rest wsX8_needState := goodIn_ca (goodIn_r _ [45, 46, 47, 48, 49, 51, 52, 53, 54, 55, 56, 57, 58, 63, 64, 65, 66] (by decide +kernel) (by decide +kernel)) (goodIn_sub (fun _ h => List.mem_cons_of_mem _ (List.mem_append_right _ h)) (by decide +kernel))
set_option maxRecDepth 20000 in
theorem gX8_rest_X8_needState : GoodIn wsX8_rest (wsV RX8 79 RX8 yX8_needState wsX8_needState) := goodIn_app (goodIn_of _ (by decide +kernel)) ggX8_rest_X8_needState
set_option maxRecDepth 20000 in
theorem ggX8_rest_X7_restOf : GoodIn wsX8_rest wsX7_restOf := goodIn_r _ [17, 7, 8, 18, 19, 20, 21, 5, 22, 23, 24, 25, 26, 27, 28, 29, 30, 31, 32, 33, 34, 35, 36, 37, 38, 39, 40, 59, 60, 61, 62, 63, 64, 65, 66] (by decide +kernel) (by decide +kernel)
set_option maxRecDepth 20000 in
theorem gX8_rest_X7_restOf : GoodIn wsX8_rest (wsV RX8 153 RX7 yX7_restOf wsX7_restOf) := goodIn_app (goodIn_of _ (by decide +kernel)) ggX8_rest_X7_restOf
theorem dX8_rest_0 : decode cX8_rest 0 = .ok (.iload_n 1, 1) := by decide +kernel
theorem dX8_rest_1 : decode cX8_rest 1 = .ok (.iconst (-1), 1) := by decide +kernel
theorem dX8_rest_2 : decode cX8_rest 2 = .ok (.if_icmp .ne 11, 3) := by decide +kernel
theorem dX8_rest_5 : decode cX8_rest 5 = .ok (.aload_n 0, 1) := by decide +kernel
theorem dX8_rest_6 : decode cX8_rest 6 = .ok (.getfield 42, 3) := by decide +kernel
theorem dX8_rest_9 : decode cX8_rest 9 = .ok (.invokevirtual 149, 3) := by decide +kernel
theorem dX8_rest_12 : decode cX8_rest 12 = .ok (.lreturn, 1) := by decide +kernel
theorem dX8_rest_13 : decode cX8_rest 13 = .ok (.aload_n 0, 1) := by decide +kernel
theorem dX8_rest_14 : decode cX8_rest 14 = .ok (.iload_n 1, 1) := by decide +kernel
theorem dX8_rest_15 : decode cX8_rest 15 = .ok (.invokevirtual 79, 3) := by decide +kernel
theorem dX8_rest_18 : decode cX8_rest 18 = .ok (.aload_n 0, 1) := by decide +kernel
theorem dX8_rest_19 : decode cX8_rest 19 = .ok (.getfield 42, 3) := by decide +kernel
theorem dX8_rest_22 : decode cX8_rest 22 = .ok (.iload_n 1, 1) := by decide +kernel
theorem dX8_rest_23 : decode cX8_rest 23 = .ok (.invokevirtual 153, 3) := by decide +kernel
theorem dX8_rest_26 : decode cX8_rest 26 = .ok (.lreturn, 1) := by decide +kernel
set_option maxRecDepth 20000 in
theorem ggX8_share_X8_needState : GoodIn wsX8_share wsX8_needState := goodIn_ca (goodIn_r _ [8, 9, 10, 11, 12, 53, 54, 55, 56, 57, 58, 59, 60, 61, 62, 63, 64] (by decide +kernel) (by decide +kernel)) (goodIn_sub (fun _ h => List.mem_cons_of_mem _ (List.mem_append_right _ h)) (by decide +kernel))
set_option maxRecDepth 20000 in
theorem gX8_share_X8_needState : GoodIn wsX8_share (wsV RX8 79 RX8 yX8_needState wsX8_needState) := goodIn_app (goodIn_of _ (by decide +kernel)) ggX8_share_X8_needState
set_option maxRecDepth 20000 in
theorem ggX8_share_X7_wholeRest : GoodIn wsX8_share wsX7_wholeRest := goodIn_r _ [17, 18, 19, 20, 21, 22, 23, 16, 24, 25, 26, 27, 28, 29, 30, 31, 32, 33, 34, 35, 36, 37, 38, 39, 40, 41, 42, 43, 44, 45, 46, 47, 48, 49, 50, 51, 65, 66, 67, 68, 61, 62, 63, 64] (by decide +kernel) (by decide +kernel)
set_option maxRecDepth 20000 in
theorem gX8_share_X7_wholeRest : GoodIn wsX8_share (wsV RX8 149 RX7 yX7_wholeRest wsX7_wholeRest) := goodIn_app (goodIn_of _ (by decide +kernel)) ggX8_share_X7_wholeRest
set_option maxRecDepth 20000 in
theorem ggX8_share_X7_restOf : GoodIn wsX8_share wsX7_restOf := goodIn_r _ [28, 18, 19, 29, 30, 31, 32, 16, 33, 34, 35, 36, 37, 38, 39, 40, 41, 42, 43, 44, 45, 46, 47, 48, 49, 50, 51, 65, 66, 67, 68, 61, 62, 63, 64] (by decide +kernel) (by decide +kernel)
set_option maxRecDepth 20000 in
theorem gX8_share_X7_restOf : GoodIn wsX8_share (wsV RX8 153 RX7 yX7_restOf wsX7_restOf) := goodIn_app (goodIn_of _ (by decide +kernel)) ggX8_share_X7_restOf
theorem dX8_share_0 : decode cX8_share 0 = .ok (.aload_n 0, 1) := by decide +kernel
theorem dX8_share_1 : decode cX8_share 1 = .ok (.iload_n 1, 1) := by decide +kernel
theorem dX8_share_2 : decode cX8_share 2 = .ok (.invokevirtual 79, 3) := by decide +kernel
theorem dX8_share_5 : decode cX8_share 5 = .ok (.aload_n 0, 1) := by decide +kernel
theorem dX8_share_6 : decode cX8_share 6 = .ok (.getfield 42, 3) := by decide +kernel
theorem dX8_share_9 : decode cX8_share 9 = .ok (.invokevirtual 149, 3) := by decide +kernel
theorem dX8_share_12 : decode cX8_share 12 = .ok (.lstore_n 2, 1) := by decide +kernel
theorem dX8_share_13 : decode cX8_share 13 = .ok (.lload_n 2, 1) := by decide +kernel
theorem dX8_share_14 : decode cX8_share 14 = .ok (.lconst 0, 1) := by decide +kernel
theorem dX8_share_15 : decode cX8_share 15 = .ok (.lcmp, 1) := by decide +kernel
theorem dX8_share_16 : decode cX8_share 16 = .ok (.ifCond .ne 13, 3) := by decide +kernel
theorem dX8_share_19 : decode cX8_share 19 = .ok (.new 156, 3) := by decide +kernel
theorem dX8_share_22 : decode cX8_share 22 = .ok (.dup, 1) := by decide +kernel
theorem dX8_share_23 : decode cX8_share 23 = .ok (.ldc 158, 2) := by decide +kernel
theorem dX8_share_25 : decode cX8_share 25 = .ok (.invokespecial 160, 3) := by decide +kernel
theorem dX8_share_28 : decode cX8_share 28 = .ok (.athrow, 1) := by decide +kernel
theorem dX8_share_29 : decode cX8_share 29 = .ok (.aload_n 0, 1) := by decide +kernel
theorem dX8_share_30 : decode cX8_share 30 = .ok (.getfield 42, 3) := by decide +kernel
theorem dX8_share_33 : decode cX8_share 33 = .ok (.iload_n 1, 1) := by decide +kernel
theorem dX8_share_34 : decode cX8_share 34 = .ok (.invokevirtual 153, 3) := by decide +kernel
theorem dX8_share_37 : decode cX8_share 37 = .ok (.l2f, 1) := by decide +kernel
theorem dX8_share_38 : decode cX8_share 38 = .ok (.lload_n 2, 1) := by decide +kernel
theorem dX8_share_39 : decode cX8_share 39 = .ok (.l2f, 1) := by decide +kernel
theorem dX8_share_40 : decode cX8_share 40 = .ok (.fdiv, 1) := by decide +kernel
theorem dX8_share_41 : decode cX8_share 41 = .ok (.freturn, 1) := by decide +kernel
set_option maxRecDepth 20000 in
theorem ggX8_ranked_X7_countRests : GoodIn wsX8_ranked wsX7_countRests := goodIn_r _ [10, 11, 12, 13, 14, 15, 16, 9, 17, 18, 19, 20, 21, 22, 23, 24, 25, 26, 27, 28, 29, 30, 31, 32, 33, 34, 35, 36, 37, 38, 39, 40, 57, 58, 59, 60, 53, 54, 55, 56] (by decide +kernel) (by decide +kernel)
set_option maxRecDepth 20000 in
theorem gX8_ranked_X7_countRests : GoodIn wsX8_ranked (wsV RX8 168 RX7 yX7_countRests wsX7_countRests) := goodIn_app (goodIn_of _ (by decide +kernel)) ggX8_ranked_X7_countRests
set_option maxRecDepth 20000 in
theorem ggX8_ranked_X7_countAhead : GoodIn wsX8_ranked wsX7_countAhead := goodIn_r _ [44, 11, 12, 13, 57, 58, 59, 60, 53, 54, 55, 56] (by decide +kernel) (by decide +kernel)
set_option maxRecDepth 20000 in
theorem gX8_ranked_X7_countAhead : GoodIn wsX8_ranked (wsV RX8 175 RX7 yX7_countAhead wsX7_countAhead) := goodIn_app (goodIn_of _ (by decide +kernel)) ggX8_ranked_X7_countAhead
theorem dX8_ranked_0 : decode cX8_ranked 0 = .ok (.iload_n 1, 1) := by decide +kernel
theorem dX8_ranked_1 : decode cX8_ranked 1 = .ok (.ifCond .ge 13, 3) := by decide +kernel
theorem dX8_ranked_4 : decode cX8_ranked 4 = .ok (.new 163, 3) := by decide +kernel
theorem dX8_ranked_7 : decode cX8_ranked 7 = .ok (.dup, 1) := by decide +kernel
theorem dX8_ranked_8 : decode cX8_ranked 8 = .ok (.ldc 165, 2) := by decide +kernel
theorem dX8_ranked_10 : decode cX8_ranked 10 = .ok (.invokespecial 167, 3) := by decide +kernel
theorem dX8_ranked_13 : decode cX8_ranked 13 = .ok (.athrow, 1) := by decide +kernel
theorem dX8_ranked_14 : decode cX8_ranked 14 = .ok (.aload_n 0, 1) := by decide +kernel
theorem dX8_ranked_15 : decode cX8_ranked 15 = .ok (.getfield 42, 3) := by decide +kernel
theorem dX8_ranked_18 : decode cX8_ranked 18 = .ok (.invokevirtual 168, 3) := by decide +kernel
theorem dX8_ranked_21 : decode cX8_ranked 21 = .ok (.iconst 0, 1) := by decide +kernel
theorem dX8_ranked_22 : decode cX8_ranked 22 = .ok (.istore_n 2, 1) := by decide +kernel
theorem dX8_ranked_23 : decode cX8_ranked 23 = .ok (.iload_n 2, 1) := by decide +kernel
theorem dX8_ranked_24 : decode cX8_ranked 24 = .ok (.aload_n 0, 1) := by decide +kernel
theorem dX8_ranked_25 : decode cX8_ranked 25 = .ok (.getfield 10, 3) := by decide +kernel
theorem dX8_ranked_28 : decode cX8_ranked 28 = .ok (.getfield 171, 3) := by decide +kernel
theorem dX8_ranked_31 : decode cX8_ranked 31 = .ok (.if_icmp .ge 23, 3) := by decide +kernel
theorem dX8_ranked_34 : decode cX8_ranked 34 = .ok (.aload_n 0, 1) := by decide +kernel
theorem dX8_ranked_35 : decode cX8_ranked 35 = .ok (.getfield 42, 3) := by decide +kernel
theorem dX8_ranked_38 : decode cX8_ranked 38 = .ok (.iload_n 2, 1) := by decide +kernel
theorem dX8_ranked_39 : decode cX8_ranked 39 = .ok (.invokevirtual 175, 3) := by decide +kernel
theorem dX8_ranked_42 : decode cX8_ranked 42 = .ok (.iload_n 1, 1) := by decide +kernel
theorem dX8_ranked_43 : decode cX8_ranked 43 = .ok (.if_icmp .ne 5, 3) := by decide +kernel
theorem dX8_ranked_46 : decode cX8_ranked 46 = .ok (.iload_n 2, 1) := by decide +kernel
theorem dX8_ranked_47 : decode cX8_ranked 47 = .ok (.ireturn, 1) := by decide +kernel
theorem dX8_ranked_48 : decode cX8_ranked 48 = .ok (.iinc 2 1, 3) := by decide +kernel
theorem dX8_ranked_51 : decode cX8_ranked 51 = .ok (.goto (-28), 3) := by decide +kernel
theorem dX8_ranked_54 : decode cX8_ranked 54 = .ok (.iconst (-1), 1) := by decide +kernel
theorem dX8_ranked_55 : decode cX8_ranked 55 = .ok (.ireturn, 1) := by decide +kernel
set_option maxRecDepth 20000 in
theorem ggX8_walk_X8_needState : GoodIn wsX8_walk wsX8_needState := goodIn_ca (goodIn_r _ [7, 8, 9, 10, 11, 33, 34, 35, 36, 37, 38, 39, 40, 41, 42, 43, 44] (by decide +kernel) (by decide +kernel)) (goodIn_sub (fun _ h => List.mem_cons_of_mem _ (List.mem_append_left _ (List.mem_append_right _ h))) (by decide +kernel))
set_option maxRecDepth 20000 in
theorem gX8_walk_X8_needState : GoodIn wsX8_walk (wsV RX8 79 RX8 yX8_needState wsX8_needState) := goodIn_app (goodIn_of _ (by decide +kernel)) ggX8_walk_X8_needState
set_option maxRecDepth 20000 in
theorem ggX8_walk_X8_needRange : GoodIn wsX8_walk wsX8_needRange := goodIn_ca (goodIn_r _ [14, 15, 16] (by decide +kernel) (by decide +kernel)) (goodIn_sub (fun _ h => List.mem_cons_of_mem _ (List.mem_append_right _ h)) (by decide +kernel))
set_option maxRecDepth 20000 in
theorem gX8_walk_X8_needRange : GoodIn wsX8_walk (va_wsS RX8 71 yX8_needRange wsX8_needRange) := goodIn_app (goodIn_of _ (by decide +kernel)) ggX8_walk_X8_needRange
set_option maxRecDepth 20000 in
theorem ggX8_walk_X3_walkOn : GoodIn wsX8_walk wsX3_walkOn := goodIn_r _ [21, 22, 23, 24, 25, 20, 26, 27, 28, 29, 30, 31, 32, 45, 46, 47, 41, 42, 43, 44] (by decide +kernel) (by decide +kernel)
set_option maxRecDepth 20000 in
theorem gX8_walk_X3_walkOn : GoodIn wsX8_walk (wsV RX8 179 RX3 yX3_walkOn wsX3_walkOn) := goodIn_app (goodIn_of _ (by decide +kernel)) ggX8_walk_X3_walkOn
theorem dX8_walk_0 : decode cX8_walk 0 = .ok (.aload_n 0, 1) := by decide +kernel
theorem dX8_walk_1 : decode cX8_walk 1 = .ok (.iload_n 1, 1) := by decide +kernel
theorem dX8_walk_2 : decode cX8_walk 2 = .ok (.invokevirtual 79, 3) := by decide +kernel
theorem dX8_walk_5 : decode cX8_walk 5 = .ok (.iload_n 2, 1) := by decide +kernel
theorem dX8_walk_6 : decode cX8_walk 6 = .ok (.iconst 0, 1) := by decide +kernel
theorem dX8_walk_7 : decode cX8_walk 7 = .ok (.ldc 178, 2) := by decide +kernel
theorem dX8_walk_9 : decode cX8_walk 9 = .ok (.invokestatic 71, 3) := by decide +kernel
theorem dX8_walk_12 : decode cX8_walk 12 = .ok (.iload_n 3, 1) := by decide +kernel
theorem dX8_walk_13 : decode cX8_walk 13 = .ok (.iconst 0, 1) := by decide +kernel
theorem dX8_walk_14 : decode cX8_walk 14 = .ok (.sipush 1000, 3) := by decide +kernel
theorem dX8_walk_17 : decode cX8_walk 17 = .ok (.invokestatic 71, 3) := by decide +kernel
theorem dX8_walk_20 : decode cX8_walk 20 = .ok (.aload_n 0, 1) := by decide +kernel
theorem dX8_walk_21 : decode cX8_walk 21 = .ok (.getfield 49, 3) := by decide +kernel
theorem dX8_walk_24 : decode cX8_walk 24 = .ok (.iload_n 1, 1) := by decide +kernel
theorem dX8_walk_25 : decode cX8_walk 25 = .ok (.iload_n 2, 1) := by decide +kernel
theorem dX8_walk_26 : decode cX8_walk 26 = .ok (.iload_n 3, 1) := by decide +kernel
theorem dX8_walk_27 : decode cX8_walk 27 = .ok (.invokevirtual 179, 3) := by decide +kernel
theorem dX8_walk_30 : decode cX8_walk 30 = .ok (.ireturn, 1) := by decide +kernel
set_option maxRecDepth 20000 in
theorem ggX8_draw_X8_needRange : GoodIn wsX8_draw wsX8_needRange := goodIn_ca (goodIn_r _ [6, 7, 8] (by decide +kernel) (by decide +kernel)) (goodIn_sub (fun _ h => List.mem_cons_of_mem _ (List.mem_append_right _ h)) (by decide +kernel))
set_option maxRecDepth 20000 in
theorem gX8_draw_X8_needRange : GoodIn wsX8_draw (va_wsS RX8 71 yX8_needRange wsX8_needRange) := goodIn_app (goodIn_of _ (by decide +kernel)) ggX8_draw_X8_needRange
set_option maxRecDepth 20000 in
theorem ggX8_draw_X3_drawFromPast : GoodIn wsX8_draw wsX3_drawFromPast := goodIn_r _ [13, 14, 15, 16, 17, 18, 19, 12, 20, 21, 22, 23, 24, 25, 26, 27, 28, 29, 30, 31, 32, 33, 34, 35, 36, 37, 38, 39, 48, 49, 50, 51, 52, 53, 54] (by decide +kernel) (by decide +kernel)
set_option maxRecDepth 20000 in
theorem gX8_draw_X3_drawFromPast : GoodIn wsX8_draw (wsV RX8 182 RX3 yX3_drawFromPast wsX3_drawFromPast) := goodIn_app (goodIn_of _ (by decide +kernel)) ggX8_draw_X3_drawFromPast
theorem dX8_draw_0 : decode cX8_draw 0 = .ok (.iload_n 1, 1) := by decide +kernel
theorem dX8_draw_1 : decode cX8_draw 1 = .ok (.iconst 0, 1) := by decide +kernel
theorem dX8_draw_2 : decode cX8_draw 2 = .ok (.ldc 178, 2) := by decide +kernel
theorem dX8_draw_4 : decode cX8_draw 4 = .ok (.invokestatic 71, 3) := by decide +kernel
theorem dX8_draw_7 : decode cX8_draw 7 = .ok (.aload_n 0, 1) := by decide +kernel
theorem dX8_draw_8 : decode cX8_draw 8 = .ok (.getfield 49, 3) := by decide +kernel
theorem dX8_draw_11 : decode cX8_draw 11 = .ok (.iload_n 1, 1) := by decide +kernel
theorem dX8_draw_12 : decode cX8_draw 12 = .ok (.invokevirtual 182, 3) := by decide +kernel
theorem dX8_draw_15 : decode cX8_draw 15 = .ok (.ireturn, 1) := by decide +kernel
set_option maxRecDepth 20000 in
theorem ggX8_drift_X8_needState : GoodIn wsX8_drift wsX8_needState := goodIn_ca (goodIn_r _ [6, 7, 8, 9, 10, 21, 22, 23, 24, 25, 26, 27, 28, 29, 30, 31, 32] (by decide +kernel) (by decide +kernel)) (goodIn_sub (fun _ h => List.mem_cons_of_mem _ (List.mem_append_right _ h)) (by decide +kernel))
set_option maxRecDepth 20000 in
theorem gX8_drift_X8_needState : GoodIn wsX8_drift (wsV RX8 79 RX8 yX8_needState wsX8_needState) := goodIn_app (goodIn_of _ (by decide +kernel)) ggX8_drift_X8_needState
set_option maxRecDepth 20000 in
theorem ggX8_drift_X4_driftOf : GoodIn wsX8_drift wsX4_driftOf := goodIn_r _ [15, 16, 17, 18, 19, 20, 33, 34, 35, 29, 30, 31, 32] (by decide +kernel) (by decide +kernel)
set_option maxRecDepth 20000 in
theorem gX8_drift_X4_driftOf : GoodIn wsX8_drift (wsV RX8 185 RX4 yX4_driftOf wsX4_driftOf) := goodIn_app (goodIn_of _ (by decide +kernel)) ggX8_drift_X4_driftOf
theorem dX8_drift_0 : decode cX8_drift 0 = .ok (.aload_n 0, 1) := by decide +kernel
theorem dX8_drift_1 : decode cX8_drift 1 = .ok (.iload_n 1, 1) := by decide +kernel
theorem dX8_drift_2 : decode cX8_drift 2 = .ok (.invokevirtual 79, 3) := by decide +kernel
theorem dX8_drift_5 : decode cX8_drift 5 = .ok (.aload_n 0, 1) := by decide +kernel
theorem dX8_drift_6 : decode cX8_drift 6 = .ok (.getfield 56, 3) := by decide +kernel
theorem dX8_drift_9 : decode cX8_drift 9 = .ok (.iload_n 1, 1) := by decide +kernel
theorem dX8_drift_10 : decode cX8_drift 10 = .ok (.invokevirtual 185, 3) := by decide +kernel
theorem dX8_drift_13 : decode cX8_drift 13 = .ok (.lreturn, 1) := by decide +kernel
set_option maxRecDepth 20000 in
theorem ggX8_isFair_X4_driftOf : GoodIn wsX8_isFair wsX4_driftOf := goodIn_r _ [8, 9, 10, 11, 12, 13, 26, 27, 28, 22, 23, 24, 25] (by decide +kernel) (by decide +kernel)
set_option maxRecDepth 20000 in
theorem gX8_isFair_X4_driftOf : GoodIn wsX8_isFair (wsV RX8 185 RX4 yX4_driftOf wsX4_driftOf) := goodIn_app (goodIn_of _ (by decide +kernel)) ggX8_isFair_X4_driftOf
theorem dX8_isFair_0 : decode cX8_isFair 0 = .ok (.iconst 0, 1) := by decide +kernel
theorem dX8_isFair_1 : decode cX8_isFair 1 = .ok (.istore_n 1, 1) := by decide +kernel
theorem dX8_isFair_2 : decode cX8_isFair 2 = .ok (.iload_n 1, 1) := by decide +kernel
theorem dX8_isFair_3 : decode cX8_isFair 3 = .ok (.aload_n 0, 1) := by decide +kernel
theorem dX8_isFair_4 : decode cX8_isFair 4 = .ok (.getfield 10, 3) := by decide +kernel
theorem dX8_isFair_7 : decode cX8_isFair 7 = .ok (.getfield 171, 3) := by decide +kernel
theorem dX8_isFair_10 : decode cX8_isFair 10 = .ok (.if_icmp .ge 24, 3) := by decide +kernel
theorem dX8_isFair_13 : decode cX8_isFair 13 = .ok (.aload_n 0, 1) := by decide +kernel
theorem dX8_isFair_14 : decode cX8_isFair 14 = .ok (.getfield 56, 3) := by decide +kernel
theorem dX8_isFair_17 : decode cX8_isFair 17 = .ok (.iload_n 1, 1) := by decide +kernel
theorem dX8_isFair_18 : decode cX8_isFair 18 = .ok (.invokevirtual 185, 3) := by decide +kernel
theorem dX8_isFair_21 : decode cX8_isFair 21 = .ok (.lconst 0, 1) := by decide +kernel
theorem dX8_isFair_22 : decode cX8_isFair 22 = .ok (.lcmp, 1) := by decide +kernel
theorem dX8_isFair_23 : decode cX8_isFair 23 = .ok (.ifCond .eq 5, 3) := by decide +kernel
theorem dX8_isFair_26 : decode cX8_isFair 26 = .ok (.iconst 0, 1) := by decide +kernel
theorem dX8_isFair_27 : decode cX8_isFair 27 = .ok (.ireturn, 1) := by decide +kernel
theorem dX8_isFair_28 : decode cX8_isFair 28 = .ok (.iinc 1 1, 3) := by decide +kernel
theorem dX8_isFair_31 : decode cX8_isFair 31 = .ok (.goto (-29), 3) := by decide +kernel
theorem dX8_isFair_34 : decode cX8_isFair 34 = .ok (.iconst 1, 1) := by decide +kernel
theorem dX8_isFair_35 : decode cX8_isFair 35 = .ok (.ireturn, 1) := by decide +kernel
set_option maxRecDepth 20000 in
theorem ggX8_best_X8_needState : GoodIn wsX8_best wsX8_needState := goodIn_ca (goodIn_r _ [6, 7, 8, 9, 10, 53, 54, 55, 56, 57, 58, 59, 60, 61, 62, 63, 64] (by decide +kernel) (by decide +kernel)) (goodIn_sub (fun _ h => List.mem_cons_of_mem _ (List.mem_append_left _ (List.mem_append_right _ h))) (by decide +kernel))
set_option maxRecDepth 20000 in
theorem gX8_best_X8_needState : GoodIn wsX8_best (wsV RX8 79 RX8 yX8_needState wsX8_needState) := goodIn_app (goodIn_of _ (by decide +kernel)) ggX8_best_X8_needState
set_option maxRecDepth 20000 in
theorem ggX8_best_X8_needRange : GoodIn wsX8_best wsX8_needRange := goodIn_ca (goodIn_r _ [13, 14, 15] (by decide +kernel) (by decide +kernel)) (goodIn_sub (fun _ h => List.mem_cons_of_mem _ (List.mem_append_right _ h)) (by decide +kernel))
set_option maxRecDepth 20000 in
theorem gX8_best_X8_needRange : GoodIn wsX8_best (va_wsS RX8 71 yX8_needRange wsX8_needRange) := goodIn_app (goodIn_of _ (by decide +kernel)) ggX8_best_X8_needRange
set_option maxRecDepth 20000 in
theorem ggX8_best_X4_bestOf : GoodIn wsX8_best wsX4_bestOf := goodIn_r _ [20, 21, 22, 23, 24, 19, 25, 26, 27, 28, 29, 30, 31, 32, 33, 34, 35, 36, 37, 38, 39, 40, 41, 42, 43, 44, 45, 46, 47, 48, 49, 50, 51, 52, 65, 66, 67, 61, 62, 63, 64] (by decide +kernel) (by decide +kernel)
set_option maxRecDepth 20000 in
theorem gX8_best_X4_bestOf : GoodIn wsX8_best (wsV RX8 188 RX4 yX4_bestOf wsX4_bestOf) := goodIn_app (goodIn_of _ (by decide +kernel)) ggX8_best_X4_bestOf
theorem dX8_best_0 : decode cX8_best 0 = .ok (.aload_n 0, 1) := by decide +kernel
theorem dX8_best_1 : decode cX8_best 1 = .ok (.iload_n 1, 1) := by decide +kernel
theorem dX8_best_2 : decode cX8_best 2 = .ok (.invokevirtual 79, 3) := by decide +kernel
theorem dX8_best_5 : decode cX8_best 5 = .ok (.iload_n 2, 1) := by decide +kernel
theorem dX8_best_6 : decode cX8_best 6 = .ok (.iconst 0, 1) := by decide +kernel
theorem dX8_best_7 : decode cX8_best 7 = .ok (.bipush 12, 2) := by decide +kernel
theorem dX8_best_9 : decode cX8_best 9 = .ok (.invokestatic 71, 3) := by decide +kernel
theorem dX8_best_12 : decode cX8_best 12 = .ok (.aload_n 0, 1) := by decide +kernel
theorem dX8_best_13 : decode cX8_best 13 = .ok (.getfield 56, 3) := by decide +kernel
theorem dX8_best_16 : decode cX8_best 16 = .ok (.iload_n 1, 1) := by decide +kernel
theorem dX8_best_17 : decode cX8_best 17 = .ok (.iload_n 2, 1) := by decide +kernel
theorem dX8_best_18 : decode cX8_best 18 = .ok (.invokevirtual 188, 3) := by decide +kernel
theorem dX8_best_21 : decode cX8_best 21 = .ok (.lreturn, 1) := by decide +kernel
set_option maxRecDepth 20000 in
theorem ggX8_stops_X8_needState : GoodIn wsX8_stops wsX8_needState := goodIn_ca (goodIn_r _ [6, 7, 8, 9, 10, 53, 54, 55, 56, 57, 58, 59, 60, 61, 62, 63, 64] (by decide +kernel) (by decide +kernel)) (goodIn_sub (fun _ h => List.mem_cons_of_mem _ (List.mem_append_left _ (List.mem_append_right _ h))) (by decide +kernel))
set_option maxRecDepth 20000 in
theorem gX8_stops_X8_needState : GoodIn wsX8_stops (wsV RX8 79 RX8 yX8_needState wsX8_needState) := goodIn_app (goodIn_of _ (by decide +kernel)) ggX8_stops_X8_needState
set_option maxRecDepth 20000 in
theorem ggX8_stops_X8_needRange : GoodIn wsX8_stops wsX8_needRange := goodIn_ca (goodIn_r _ [13, 14, 15] (by decide +kernel) (by decide +kernel)) (goodIn_sub (fun _ h => List.mem_cons_of_mem _ (List.mem_append_right _ h)) (by decide +kernel))
set_option maxRecDepth 20000 in
theorem gX8_stops_X8_needRange : GoodIn wsX8_stops (va_wsS RX8 71 yX8_needRange wsX8_needRange) := goodIn_app (goodIn_of _ (by decide +kernel)) ggX8_stops_X8_needRange
set_option maxRecDepth 20000 in
theorem ggX8_stops_X4_isBestToStop : GoodIn wsX8_stops wsX4_isBestToStop := goodIn_r _ [20, 21, 22, 23, 19, 24, 25, 26, 27, 28, 29, 30, 31, 32, 33, 34, 35, 36, 37, 38, 39, 40, 41, 42, 43, 44, 45, 46, 47, 48, 49, 50, 51, 52, 65, 66, 67, 61, 62, 63, 64] (by decide +kernel) (by decide +kernel)
set_option maxRecDepth 20000 in
theorem gX8_stops_X4_isBestToStop : GoodIn wsX8_stops (wsV RX8 191 RX4 yX4_isBestToStop wsX4_isBestToStop) := goodIn_app (goodIn_of _ (by decide +kernel)) ggX8_stops_X4_isBestToStop
theorem dX8_stops_0 : decode cX8_stops 0 = .ok (.aload_n 0, 1) := by decide +kernel
theorem dX8_stops_1 : decode cX8_stops 1 = .ok (.iload_n 1, 1) := by decide +kernel
theorem dX8_stops_2 : decode cX8_stops 2 = .ok (.invokevirtual 79, 3) := by decide +kernel
theorem dX8_stops_5 : decode cX8_stops 5 = .ok (.iload_n 2, 1) := by decide +kernel
theorem dX8_stops_6 : decode cX8_stops 6 = .ok (.iconst 0, 1) := by decide +kernel
theorem dX8_stops_7 : decode cX8_stops 7 = .ok (.bipush 12, 2) := by decide +kernel
theorem dX8_stops_9 : decode cX8_stops 9 = .ok (.invokestatic 71, 3) := by decide +kernel
theorem dX8_stops_12 : decode cX8_stops 12 = .ok (.aload_n 0, 1) := by decide +kernel
theorem dX8_stops_13 : decode cX8_stops 13 = .ok (.getfield 56, 3) := by decide +kernel
theorem dX8_stops_16 : decode cX8_stops 16 = .ok (.iload_n 1, 1) := by decide +kernel
theorem dX8_stops_17 : decode cX8_stops 17 = .ok (.iload_n 2, 1) := by decide +kernel
theorem dX8_stops_18 : decode cX8_stops 18 = .ok (.invokevirtual 191, 3) := by decide +kernel
theorem dX8_stops_21 : decode cX8_stops 21 = .ok (.ireturn, 1) := by decide +kernel
set_option maxRecDepth 20000 in
theorem ggX8_reverses_X7_isTheSameBackwards : GoodIn wsX8_reverses wsX7_isTheSameBackwards := goodIn_r _ [6, 7, 8, 9, 10, 11, 12, 13, 5, 14, 15, 16, 17, 18, 19, 20, 21, 22, 23, 24, 25, 26, 27, 28, 29, 30, 31, 32, 33, 34, 35, 36, 37, 38, 39, 40, 41, 42, 43, 44, 53, 54, 55, 56, 57, 58, 59, 60] (by decide +kernel) (by decide +kernel)
set_option maxRecDepth 20000 in
theorem gX8_reverses_X7_isTheSameBackwards : GoodIn wsX8_reverses (wsV RX8 194 RX7 yX7_isTheSameBackwards wsX7_isTheSameBackwards) := goodIn_app (goodIn_of _ (by decide +kernel)) ggX8_reverses_X7_isTheSameBackwards
theorem dX8_reverses_0 : decode cX8_reverses 0 = .ok (.aload_n 0, 1) := by decide +kernel
theorem dX8_reverses_1 : decode cX8_reverses 1 = .ok (.getfield 42, 3) := by decide +kernel
theorem dX8_reverses_4 : decode cX8_reverses 4 = .ok (.invokevirtual 194, 3) := by decide +kernel
theorem dX8_reverses_7 : decode cX8_reverses 7 = .ok (.ireturn, 1) := by decide +kernel
set_option maxRecDepth 20000 in
theorem ggX8_isLumped_X6_isChainLumped : GoodIn wsX8_isLumped wsX6_isChainLumped := goodIn_r _ [6, 7, 8, 9, 10, 11, 12, 5, 13, 14, 15, 16, 17, 18, 27, 28, 29, 30, 31, 32] (by decide +kernel) (by decide +kernel)
set_option maxRecDepth 20000 in
theorem gX8_isLumped_X6_isChainLumped : GoodIn wsX8_isLumped (wsV RX8 198 RX6 yX6_isChainLumped wsX6_isChainLumped) := goodIn_app (goodIn_of _ (by decide +kernel)) ggX8_isLumped_X6_isChainLumped
theorem dX8_isLumped_0 : decode cX8_isLumped 0 = .ok (.aload_n 0, 1) := by decide +kernel
theorem dX8_isLumped_1 : decode cX8_isLumped 1 = .ok (.getfield 63, 3) := by decide +kernel
theorem dX8_isLumped_4 : decode cX8_isLumped 4 = .ok (.invokevirtual 198, 3) := by decide +kernel
theorem dX8_isLumped_7 : decode cX8_isLumped 7 = .ok (.ireturn, 1) := by decide +kernel
theorem dX8_needState_0 : decode cX8_needState 0 = .ok (.iload_n 1, 1) := by decide +kernel
theorem dX8_needState_1 : decode cX8_needState 1 = .ok (.ifCond .lt 14, 3) := by decide +kernel
theorem dX8_needState_4 : decode cX8_needState 4 = .ok (.iload_n 1, 1) := by decide +kernel
theorem dX8_needState_5 : decode cX8_needState 5 = .ok (.aload_n 0, 1) := by decide +kernel
theorem dX8_needState_6 : decode cX8_needState 6 = .ok (.getfield 10, 3) := by decide +kernel
theorem dX8_needState_9 : decode cX8_needState 9 = .ok (.getfield 171, 3) := by decide +kernel
theorem dX8_needState_12 : decode cX8_needState 12 = .ok (.if_icmp .lt 13, 3) := by decide +kernel
theorem dX8_needState_15 : decode cX8_needState 15 = .ok (.new 163, 3) := by decide +kernel
theorem dX8_needState_18 : decode cX8_needState 18 = .ok (.dup, 1) := by decide +kernel
theorem dX8_needState_19 : decode cX8_needState 19 = .ok (.ldc 201, 2) := by decide +kernel
theorem dX8_needState_21 : decode cX8_needState 21 = .ok (.invokespecial 167, 3) := by decide +kernel
theorem dX8_needState_24 : decode cX8_needState 24 = .ok (.athrow, 1) := by decide +kernel
theorem dX8_needState_25 : decode cX8_needState 25 = .ok (.return_, 1) := by decide +kernel
theorem dX8_needSlot_0 : decode cX8_needSlot 0 = .ok (.iload_n 1, 1) := by decide +kernel
theorem dX8_needSlot_1 : decode cX8_needSlot 1 = .ok (.ifCond .lt 14, 3) := by decide +kernel
theorem dX8_needSlot_4 : decode cX8_needSlot 4 = .ok (.iload_n 1, 1) := by decide +kernel
theorem dX8_needSlot_5 : decode cX8_needSlot 5 = .ok (.aload_n 0, 1) := by decide +kernel
theorem dX8_needSlot_6 : decode cX8_needSlot 6 = .ok (.getfield 10, 3) := by decide +kernel
theorem dX8_needSlot_9 : decode cX8_needSlot 9 = .ok (.getfield 203, 3) := by decide +kernel
theorem dX8_needSlot_12 : decode cX8_needSlot 12 = .ok (.if_icmp .lt 13, 3) := by decide +kernel
theorem dX8_needSlot_15 : decode cX8_needSlot 15 = .ok (.new 163, 3) := by decide +kernel
theorem dX8_needSlot_18 : decode cX8_needSlot 18 = .ok (.dup, 1) := by decide +kernel
theorem dX8_needSlot_19 : decode cX8_needSlot 19 = .ok (.ldc 206, 2) := by decide +kernel
theorem dX8_needSlot_21 : decode cX8_needSlot 21 = .ok (.invokespecial 167, 3) := by decide +kernel
theorem dX8_needSlot_24 : decode cX8_needSlot 24 = .ok (.athrow, 1) := by decide +kernel
theorem dX8_needSlot_25 : decode cX8_needSlot 25 = .ok (.return_, 1) := by decide +kernel
theorem dX8_needRange_0 : decode cX8_needRange 0 = .ok (.iload_n 0, 1) := by decide +kernel
theorem dX8_needRange_1 : decode cX8_needRange 1 = .ok (.iload_n 1, 1) := by decide +kernel
theorem dX8_needRange_2 : decode cX8_needRange 2 = .ok (.if_icmp .lt 8, 3) := by decide +kernel
theorem dX8_needRange_5 : decode cX8_needRange 5 = .ok (.iload_n 0, 1) := by decide +kernel
theorem dX8_needRange_6 : decode cX8_needRange 6 = .ok (.iload_n 2, 1) := by decide +kernel
theorem dX8_needRange_7 : decode cX8_needRange 7 = .ok (.if_icmp .le 13, 3) := by decide +kernel
theorem dX8_needRange_10 : decode cX8_needRange 10 = .ok (.new 208, 3) := by decide +kernel
theorem dX8_needRange_13 : decode cX8_needRange 13 = .ok (.dup, 1) := by decide +kernel
theorem dX8_needRange_14 : decode cX8_needRange 14 = .ok (.ldc 210, 2) := by decide +kernel
theorem dX8_needRange_16 : decode cX8_needRange 16 = .ok (.invokespecial 212, 3) := by decide +kernel
theorem dX8_needRange_19 : decode cX8_needRange 19 = .ok (.athrow, 1) := by decide +kernel
theorem dX8_needRange_20 : decode cX8_needRange 20 = .ok (.return_, 1) := by decide +kernel
theorem dX8_pairOf_0 : decode cX8_pairOf 0 = .ok (.bipush 6, 2) := by decide +kernel
theorem dX8_pairOf_2 : decode cX8_pairOf 2 = .ok (.iload_n 0, 1) := by decide +kernel
theorem dX8_pairOf_3 : decode cX8_pairOf 3 = .ok (.imul, 1) := by decide +kernel
theorem dX8_pairOf_4 : decode cX8_pairOf 4 = .ok (.iload_n 1, 1) := by decide +kernel
theorem dX8_pairOf_5 : decode cX8_pairOf 5 = .ok (.iadd, 1) := by decide +kernel
theorem dX8_pairOf_6 : decode cX8_pairOf 6 = .ok (.ireturn, 1) := by decide +kernel
set_option maxRecDepth 20000 in
theorem ggX8_goThroughWords_X8_goThroughWords : GoodIn wsX8_goThroughWords wsX8_goThroughWords := goodIn_r _ [0, 1, 2, 3, 4, 5, 6, 7, 8, 9] (by decide +kernel) (by decide +kernel)
set_option maxRecDepth 20000 in
theorem gX8_goThroughWords_X8_goThroughWords : GoodIn wsX8_goThroughWords (va_wsS RX8 114 yX8_goThroughWords wsX8_goThroughWords) := goodIn_app (goodIn_of _ (by decide +kernel)) ggX8_goThroughWords_X8_goThroughWords
theorem dX8_goThroughWords_0 : decode cX8_goThroughWords 0 = .ok (.iload_n 2, 1) := by decide +kernel
theorem dX8_goThroughWords_1 : decode cX8_goThroughWords 1 = .ok (.ifCond .gt 14, 3) := by decide +kernel
theorem dX8_goThroughWords_4 : decode cX8_goThroughWords 4 = .ok (.iload_n 1, 1) := by decide +kernel
theorem dX8_goThroughWords_5 : decode cX8_goThroughWords 5 = .ok (.iload_n 3, 1) := by decide +kernel
theorem dX8_goThroughWords_6 : decode cX8_goThroughWords 6 = .ok (.if_icmp .ne 7, 3) := by decide +kernel
theorem dX8_goThroughWords_9 : decode cX8_goThroughWords 9 = .ok (.lconst 1, 1) := by decide +kernel
theorem dX8_goThroughWords_10 : decode cX8_goThroughWords 10 = .ok (.goto 4, 3) := by decide +kernel
theorem dX8_goThroughWords_13 : decode cX8_goThroughWords 13 = .ok (.lconst 0, 1) := by decide +kernel
theorem dX8_goThroughWords_14 : decode cX8_goThroughWords 14 = .ok (.lreturn, 1) := by decide +kernel
theorem dX8_goThroughWords_15 : decode cX8_goThroughWords 15 = .ok (.lconst 0, 1) := by decide +kernel
theorem dX8_goThroughWords_16 : decode cX8_goThroughWords 16 = .ok (.lstore 4, 2) := by decide +kernel
theorem dX8_goThroughWords_18 : decode cX8_goThroughWords 18 = .ok (.iconst 0, 1) := by decide +kernel
theorem dX8_goThroughWords_19 : decode cX8_goThroughWords 19 = .ok (.istore 6, 2) := by decide +kernel
theorem dX8_goThroughWords_21 : decode cX8_goThroughWords 21 = .ok (.iload 6, 2) := by decide +kernel
theorem dX8_goThroughWords_23 : decode cX8_goThroughWords 23 = .ok (.aload_n 0, 1) := by decide +kernel
theorem dX8_goThroughWords_24 : decode cX8_goThroughWords 24 = .ok (.getfield 203, 3) := by decide +kernel
theorem dX8_goThroughWords_27 : decode cX8_goThroughWords 27 = .ok (.if_icmp .ge 31, 3) := by decide +kernel
theorem dX8_goThroughWords_30 : decode cX8_goThroughWords 30 = .ok (.lload 4, 2) := by decide +kernel
theorem dX8_goThroughWords_32 : decode cX8_goThroughWords 32 = .ok (.aload_n 0, 1) := by decide +kernel
theorem dX8_goThroughWords_33 : decode cX8_goThroughWords 33 = .ok (.aload_n 0, 1) := by decide +kernel
theorem dX8_goThroughWords_34 : decode cX8_goThroughWords 34 = .ok (.getfield 213, 3) := by decide +kernel
theorem dX8_goThroughWords_37 : decode cX8_goThroughWords 37 = .ok (.iload_n 1, 1) := by decide +kernel
theorem dX8_goThroughWords_38 : decode cX8_goThroughWords 38 = .ok (.aaload, 1) := by decide +kernel
theorem dX8_goThroughWords_39 : decode cX8_goThroughWords 39 = .ok (.iload 6, 2) := by decide +kernel
theorem dX8_goThroughWords_41 : decode cX8_goThroughWords 41 = .ok (.iaload, 1) := by decide +kernel
theorem dX8_goThroughWords_42 : decode cX8_goThroughWords 42 = .ok (.iload_n 2, 1) := by decide +kernel
theorem dX8_goThroughWords_43 : decode cX8_goThroughWords 43 = .ok (.iconst 1, 1) := by decide +kernel
theorem dX8_goThroughWords_44 : decode cX8_goThroughWords 44 = .ok (.isub, 1) := by decide +kernel
theorem dX8_goThroughWords_45 : decode cX8_goThroughWords 45 = .ok (.iload_n 3, 1) := by decide +kernel
theorem dX8_goThroughWords_46 : decode cX8_goThroughWords 46 = .ok (.invokestatic 114, 3) := by decide +kernel
theorem dX8_goThroughWords_49 : decode cX8_goThroughWords 49 = .ok (.ladd, 1) := by decide +kernel
theorem dX8_goThroughWords_50 : decode cX8_goThroughWords 50 = .ok (.lstore 4, 2) := by decide +kernel
theorem dX8_goThroughWords_52 : decode cX8_goThroughWords 52 = .ok (.iinc 6 1, 3) := by decide +kernel
theorem dX8_goThroughWords_55 : decode cX8_goThroughWords 55 = .ok (.goto (-34), 3) := by decide +kernel
theorem dX8_goThroughWords_58 : decode cX8_goThroughWords 58 = .ok (.lload 4, 2) := by decide +kernel
theorem dX8_goThroughWords_60 : decode cX8_goThroughWords 60 = .ok (.lreturn, 1) := by decide +kernel
theorem dJ6_bitCount_0f7a4_0 : decode cJ6_bitCount_0f7a4 0 = .ok (.iload_n 0, 1) := by decide +kernel
theorem dJ6_bitCount_0f7a4_1 : decode cJ6_bitCount_0f7a4 1 = .ok (.iload_n 0, 1) := by decide +kernel
theorem dJ6_bitCount_0f7a4_2 : decode cJ6_bitCount_0f7a4 2 = .ok (.iconst 1, 1) := by decide +kernel
theorem dJ6_bitCount_0f7a4_3 : decode cJ6_bitCount_0f7a4 3 = .ok (.iushr, 1) := by decide +kernel
theorem dJ6_bitCount_0f7a4_4 : decode cJ6_bitCount_0f7a4 4 = .ok (.ldc_w 265, 3) := by decide +kernel
theorem dJ6_bitCount_0f7a4_7 : decode cJ6_bitCount_0f7a4 7 = .ok (.iand, 1) := by decide +kernel
theorem dJ6_bitCount_0f7a4_8 : decode cJ6_bitCount_0f7a4 8 = .ok (.isub, 1) := by decide +kernel
theorem dJ6_bitCount_0f7a4_9 : decode cJ6_bitCount_0f7a4 9 = .ok (.istore_n 0, 1) := by decide +kernel
theorem dJ6_bitCount_0f7a4_10 : decode cJ6_bitCount_0f7a4 10 = .ok (.iload_n 0, 1) := by decide +kernel
theorem dJ6_bitCount_0f7a4_11 : decode cJ6_bitCount_0f7a4 11 = .ok (.ldc_w 266, 3) := by decide +kernel
theorem dJ6_bitCount_0f7a4_14 : decode cJ6_bitCount_0f7a4 14 = .ok (.iand, 1) := by decide +kernel
theorem dJ6_bitCount_0f7a4_15 : decode cJ6_bitCount_0f7a4 15 = .ok (.iload_n 0, 1) := by decide +kernel
theorem dJ6_bitCount_0f7a4_16 : decode cJ6_bitCount_0f7a4 16 = .ok (.iconst 2, 1) := by decide +kernel
theorem dJ6_bitCount_0f7a4_17 : decode cJ6_bitCount_0f7a4 17 = .ok (.iushr, 1) := by decide +kernel
theorem dJ6_bitCount_0f7a4_18 : decode cJ6_bitCount_0f7a4 18 = .ok (.ldc_w 266, 3) := by decide +kernel
theorem dJ6_bitCount_0f7a4_21 : decode cJ6_bitCount_0f7a4 21 = .ok (.iand, 1) := by decide +kernel
theorem dJ6_bitCount_0f7a4_22 : decode cJ6_bitCount_0f7a4 22 = .ok (.iadd, 1) := by decide +kernel
theorem dJ6_bitCount_0f7a4_23 : decode cJ6_bitCount_0f7a4 23 = .ok (.istore_n 0, 1) := by decide +kernel
theorem dJ6_bitCount_0f7a4_24 : decode cJ6_bitCount_0f7a4 24 = .ok (.iload_n 0, 1) := by decide +kernel
theorem dJ6_bitCount_0f7a4_25 : decode cJ6_bitCount_0f7a4 25 = .ok (.iload_n 0, 1) := by decide +kernel
theorem dJ6_bitCount_0f7a4_26 : decode cJ6_bitCount_0f7a4 26 = .ok (.iconst 4, 1) := by decide +kernel
theorem dJ6_bitCount_0f7a4_27 : decode cJ6_bitCount_0f7a4 27 = .ok (.iushr, 1) := by decide +kernel
theorem dJ6_bitCount_0f7a4_28 : decode cJ6_bitCount_0f7a4 28 = .ok (.iadd, 1) := by decide +kernel
theorem dJ6_bitCount_0f7a4_29 : decode cJ6_bitCount_0f7a4 29 = .ok (.ldc_w 267, 3) := by decide +kernel
theorem dJ6_bitCount_0f7a4_32 : decode cJ6_bitCount_0f7a4 32 = .ok (.iand, 1) := by decide +kernel
theorem dJ6_bitCount_0f7a4_33 : decode cJ6_bitCount_0f7a4 33 = .ok (.istore_n 0, 1) := by decide +kernel
theorem dJ6_bitCount_0f7a4_34 : decode cJ6_bitCount_0f7a4 34 = .ok (.iload_n 0, 1) := by decide +kernel
theorem dJ6_bitCount_0f7a4_35 : decode cJ6_bitCount_0f7a4 35 = .ok (.iload_n 0, 1) := by decide +kernel
theorem dJ6_bitCount_0f7a4_36 : decode cJ6_bitCount_0f7a4 36 = .ok (.bipush 8, 2) := by decide +kernel
theorem dJ6_bitCount_0f7a4_38 : decode cJ6_bitCount_0f7a4 38 = .ok (.iushr, 1) := by decide +kernel
theorem dJ6_bitCount_0f7a4_39 : decode cJ6_bitCount_0f7a4 39 = .ok (.iadd, 1) := by decide +kernel
theorem dJ6_bitCount_0f7a4_40 : decode cJ6_bitCount_0f7a4 40 = .ok (.istore_n 0, 1) := by decide +kernel
theorem dJ6_bitCount_0f7a4_41 : decode cJ6_bitCount_0f7a4 41 = .ok (.iload_n 0, 1) := by decide +kernel
theorem dJ6_bitCount_0f7a4_42 : decode cJ6_bitCount_0f7a4 42 = .ok (.iload_n 0, 1) := by decide +kernel
theorem dJ6_bitCount_0f7a4_43 : decode cJ6_bitCount_0f7a4 43 = .ok (.bipush 16, 2) := by decide +kernel
theorem dJ6_bitCount_0f7a4_45 : decode cJ6_bitCount_0f7a4 45 = .ok (.iushr, 1) := by decide +kernel
theorem dJ6_bitCount_0f7a4_46 : decode cJ6_bitCount_0f7a4 46 = .ok (.iadd, 1) := by decide +kernel
theorem dJ6_bitCount_0f7a4_47 : decode cJ6_bitCount_0f7a4 47 = .ok (.istore_n 0, 1) := by decide +kernel
theorem dJ6_bitCount_0f7a4_48 : decode cJ6_bitCount_0f7a4 48 = .ok (.iload_n 0, 1) := by decide +kernel
theorem dJ6_bitCount_0f7a4_49 : decode cJ6_bitCount_0f7a4 49 = .ok (.bipush 63, 2) := by decide +kernel
theorem dJ6_bitCount_0f7a4_51 : decode cJ6_bitCount_0f7a4 51 = .ok (.iand, 1) := by decide +kernel
theorem dJ6_bitCount_0f7a4_52 : decode cJ6_bitCount_0f7a4 52 = .ok (.ireturn, 1) := by decide +kernel
