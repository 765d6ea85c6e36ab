theorem dJ9_max_f86c9_0 : decode cJ9_max_f86c9 0 = .ok (.lload_n 0, 1) := by decide +kernel
theorem dJ9_max_f86c9_1 : decode cJ9_max_f86c9 1 = .ok (.lload_n 2, 1) := by decide +kernel
theorem dJ9_max_f86c9_2 : decode cJ9_max_f86c9 2 = .ok (.lcmp, 1) := by decide +kernel
theorem dJ9_max_f86c9_3 : decode cJ9_max_f86c9 3 = .ok (.ifCond .lt 7, 3) := by decide +kernel
theorem dJ9_max_f86c9_6 : decode cJ9_max_f86c9 6 = .ok (.lload_n 0, 1) := by decide +kernel
theorem dJ9_max_f86c9_7 : decode cJ9_max_f86c9 7 = .ok (.goto 4, 3) := by decide +kernel
theorem dJ9_max_f86c9_10 : decode cJ9_max_f86c9 10 = .ok (.lload_n 2, 1) := by decide +kernel
theorem dJ9_max_f86c9_11 : decode cJ9_max_f86c9 11 = .ok (.lreturn, 1) := by decide +kernel
theorem dJ7_fill_d0a16_0 : decode cJ7_fill_d0a16 0 = .ok (.iconst 0, 1) := by decide +kernel
theorem dJ7_fill_d0a16_1 : decode cJ7_fill_d0a16 1 = .ok (.istore_n 3, 1) := by decide +kernel
theorem dJ7_fill_d0a16_2 : decode cJ7_fill_d0a16 2 = .ok (.aload_n 0, 1) := by decide +kernel
theorem dJ7_fill_d0a16_3 : decode cJ7_fill_d0a16 3 = .ok (.arraylength, 1) := by decide +kernel
theorem dJ7_fill_d0a16_4 : decode cJ7_fill_d0a16 4 = .ok (.istore 4, 2) := by decide +kernel
theorem dJ7_fill_d0a16_6 : decode cJ7_fill_d0a16 6 = .ok (.iload_n 3, 1) := by decide +kernel
theorem dJ7_fill_d0a16_7 : decode cJ7_fill_d0a16 7 = .ok (.iload 4, 2) := by decide +kernel
theorem dJ7_fill_d0a16_9 : decode cJ7_fill_d0a16 9 = .ok (.if_icmp .ge 13, 3) := by decide +kernel
theorem dJ7_fill_d0a16_12 : decode cJ7_fill_d0a16 12 = .ok (.aload_n 0, 1) := by decide +kernel
theorem dJ7_fill_d0a16_13 : decode cJ7_fill_d0a16 13 = .ok (.iload_n 3, 1) := by decide +kernel
theorem dJ7_fill_d0a16_14 : decode cJ7_fill_d0a16 14 = .ok (.lload_n 1, 1) := by decide +kernel
theorem dJ7_fill_d0a16_15 : decode cJ7_fill_d0a16 15 = .ok (.lastore, 1) := by decide +kernel
theorem dJ7_fill_d0a16_16 : decode cJ7_fill_d0a16 16 = .ok (.iinc 3 1, 3) := by decide +kernel
theorem dJ7_fill_d0a16_19 : decode cJ7_fill_d0a16 19 = .ok (.goto (-13), 3) := by decide +kernel
theorem dJ7_fill_d0a16_22 : decode cJ7_fill_d0a16 22 = .ok (.return_, 1) := by decide +kernel
theorem dJ7_fill_53178_0 : decode cJ7_fill_53178 0 = .ok (.iconst 0, 1) := by decide +kernel
theorem dJ7_fill_53178_1 : decode cJ7_fill_53178 1 = .ok (.istore_n 2, 1) := by decide +kernel
theorem dJ7_fill_53178_2 : decode cJ7_fill_53178 2 = .ok (.aload_n 0, 1) := by decide +kernel
theorem dJ7_fill_53178_3 : decode cJ7_fill_53178 3 = .ok (.arraylength, 1) := by decide +kernel
theorem dJ7_fill_53178_4 : decode cJ7_fill_53178 4 = .ok (.istore_n 3, 1) := by decide +kernel
theorem dJ7_fill_53178_5 : decode cJ7_fill_53178 5 = .ok (.iload_n 2, 1) := by decide +kernel
theorem dJ7_fill_53178_6 : decode cJ7_fill_53178 6 = .ok (.iload_n 3, 1) := by decide +kernel
theorem dJ7_fill_53178_7 : decode cJ7_fill_53178 7 = .ok (.if_icmp .ge 13, 3) := by decide +kernel
theorem dJ7_fill_53178_10 : decode cJ7_fill_53178 10 = .ok (.aload_n 0, 1) := by decide +kernel
theorem dJ7_fill_53178_11 : decode cJ7_fill_53178 11 = .ok (.iload_n 2, 1) := by decide +kernel
theorem dJ7_fill_53178_12 : decode cJ7_fill_53178 12 = .ok (.iload_n 1, 1) := by decide +kernel
theorem dJ7_fill_53178_13 : decode cJ7_fill_53178 13 = .ok (.iastore, 1) := by decide +kernel
theorem dJ7_fill_53178_14 : decode cJ7_fill_53178 14 = .ok (.iinc 2 1, 3) := by decide +kernel
theorem dJ7_fill_53178_17 : decode cJ7_fill_53178 17 = .ok (.goto (-12), 3) := by decide +kernel
theorem dJ7_fill_53178_20 : decode cJ7_fill_53178 20 = .ok (.return_, 1) := by decide +kernel
theorem dL_draw_0 : decode cL_draw 0 = .ok (.iload_n 1, 1) := by decide +kernel
theorem dL_draw_1 : decode cL_draw 1 = .ok (.aload_n 0, 1) := by decide +kernel
theorem dL_draw_2 : decode cL_draw 2 = .ok (.arraylength, 1) := by decide +kernel
theorem dL_draw_3 : decode cL_draw 3 = .ok (.if_icmp .ge 9, 3) := by decide +kernel
theorem dL_draw_6 : decode cL_draw 6 = .ok (.aload_n 0, 1) := by decide +kernel
theorem dL_draw_7 : decode cL_draw 7 = .ok (.iload_n 1, 1) := by decide +kernel
theorem dL_draw_8 : decode cL_draw 8 = .ok (.iaload, 1) := by decide +kernel
theorem dL_draw_9 : decode cL_draw 9 = .ok (.goto 14, 3) := by decide +kernel
theorem dL_draw_12 : decode cL_draw 12 = .ok (.ldc 7, 2) := by decide +kernel
theorem dL_draw_14 : decode cL_draw 14 = .ok (.iload_n 1, 1) := by decide +kernel
theorem dL_draw_15 : decode cL_draw 15 = .ok (.sipush 1051, 3) := by decide +kernel
theorem dL_draw_18 : decode cL_draw 18 = .ok (.iadd, 1) := by decide +kernel
theorem dL_draw_19 : decode cL_draw 19 = .ok (.imul, 1) := by decide +kernel
theorem dL_draw_20 : decode cL_draw 20 = .ok (.ldc 8, 2) := by decide +kernel
theorem dL_draw_22 : decode cL_draw 22 = .ok (.iadd, 1) := by decide +kernel
theorem dL_draw_23 : decode cL_draw 23 = .ok (.istore_n 3, 1) := by decide +kernel
theorem dL_draw_24 : decode cL_draw 24 = .ok (.iload_n 3, 1) := by decide +kernel
theorem dL_draw_25 : decode cL_draw 25 = .ok (.ldc 9, 2) := by decide +kernel
theorem dL_draw_27 : decode cL_draw 27 = .ok (.iand, 1) := by decide +kernel
theorem dL_draw_28 : decode cL_draw 28 = .ok (.iload_n 2, 1) := by decide +kernel
theorem dL_draw_29 : decode cL_draw 29 = .ok (.irem, 1) := by decide +kernel
theorem dL_draw_30 : decode cL_draw 30 = .ok (.ireturn, 1) := by decide +kernel
set_option maxRecDepth 20000 in
theorem ggL_areLaws_X8_weight : GoodIn wsL_areLaws wsX8_weight := goodIn_ca (goodIn_r _ [5, 6, 7, 8, 9, 10, 4, 11, 12, 13, 14, 94, 95, 96, 97, 98, 99, 100, 101, 102, 103, 104, 105] (by decide +kernel) (by decide +kernel)) (goodIn_sub (fun _ h => List.mem_cons_of_mem _ (List.mem_append_left _ (List.mem_append_right _ h))) (by decide +kernel))
set_option maxRecDepth 20000 in
theorem gL_areLaws_X8_weight : GoodIn wsL_areLaws (wsV RL 10 RX8 yX8_weight wsX8_weight) := goodIn_app (goodIn_of _ (by decide +kernel)) ggL_areLaws_X8_weight
set_option maxRecDepth 20000 in
theorem ggL_areLaws_X8_law : GoodIn wsL_areLaws wsX8_law := goodIn_ca (goodIn_ca (goodIn_r _ [18, 19, 8, 9, 10, 4, 11, 12, 13, 6, 14, 20, 21, 22, 23, 24, 25, 26, 27, 28, 29, 30, 31, 32, 33, 34, 35, 36, 37, 38, 39, 40, 41, 42, 43, 94, 95, 96, 97, 98, 99, 100, 101, 102, 103, 104, 105, 106, 107, 108] (by decide +kernel) (by decide +kernel)) (goodIn_sub (fun _ h => List.mem_cons_of_mem _ (List.mem_append_left _ (List.mem_append_right _ h))) (by decide +kernel))) (goodIn_sub (fun _ h => List.mem_cons_of_mem _ (List.mem_append_right _ h)) (by decide +kernel))
set_option maxRecDepth 20000 in
theorem gL_areLaws_X8_law : GoodIn wsL_areLaws (wsV RL 16 RX8 yX8_law wsX8_law) := goodIn_app (goodIn_of _ (by decide +kernel)) ggL_areLaws_X8_law
set_option maxRecDepth 20000 in
theorem ggL_areLaws_X8_lawAnew : GoodIn wsL_areLaws wsX8_lawAnew := goodIn_ca (goodIn_ca (goodIn_r _ [47, 6, 8, 9, 10, 4, 11, 12, 13, 14, 20, 21, 22, 23, 24, 48, 49, 50, 51, 52, 94, 95, 96, 97, 98, 99, 100, 101, 102, 103, 104, 105] (by decide +kernel) (by decide +kernel)) (goodIn_sub (fun _ h => List.mem_cons_of_mem _ (List.mem_append_left _ (List.mem_append_right _ h))) (by decide +kernel))) (goodIn_sub (fun _ h => List.mem_cons_of_mem _ (List.mem_append_right _ h)) (by decide +kernel))
set_option maxRecDepth 20000 in
theorem gL_areLaws_X8_lawAnew : GoodIn wsL_areLaws (wsV RL 20 RX8 yX8_lawAnew wsX8_lawAnew) := goodIn_app (goodIn_of _ (by decide +kernel)) ggL_areLaws_X8_lawAnew
set_option maxRecDepth 20000 in
theorem ggL_areLaws_X8_words : GoodIn wsL_areLaws wsX8_words := goodIn_ca (goodIn_r _ [56, 6, 20, 21, 4, 22, 23, 24, 57, 58, 59, 60, 61, 62, 94, 95, 96, 97, 98, 99, 100, 101, 102, 103, 104, 105] (by decide +kernel) (by decide +kernel)) (goodIn_sub (fun _ h => List.mem_cons_of_mem _ (List.mem_append_right _ h)) (by decide +kernel))
set_option maxRecDepth 20000 in
theorem gL_areLaws_X8_words : GoodIn wsL_areLaws (wsV RL 23 RX8 yX8_words wsX8_words) := goodIn_app (goodIn_of _ (by decide +kernel)) ggL_areLaws_X8_words
set_option maxRecDepth 20000 in
theorem ggL_areLaws_X8_reach : GoodIn wsL_areLaws wsX8_reach := goodIn_ca (goodIn_r _ [66, 67, 8, 9, 10, 4, 11, 12, 13, 6, 14, 68, 69, 70, 71, 72, 73, 74, 75, 76, 77, 78, 79, 94, 95, 96, 97, 98, 99, 100, 101, 102, 103, 104, 105, 109] (by decide +kernel) (by decide +kernel)) (goodIn_sub (fun _ h => List.mem_cons_of_mem _ (List.mem_append_left _ (List.mem_append_right _ h))) (by decide +kernel))
set_option maxRecDepth 20000 in
theorem gL_areLaws_X8_reach : GoodIn wsL_areLaws (wsV RL 27 RX8 yX8_reach wsX8_reach) := goodIn_app (goodIn_of _ (by decide +kernel)) ggL_areLaws_X8_reach
set_option maxRecDepth 20000 in
theorem ggL_areLaws_X8_period : GoodIn wsL_areLaws wsX8_period := goodIn_ca (goodIn_r _ [83, 67, 8, 9, 10, 4, 11, 12, 13, 6, 14, 84, 85, 86, 71, 87, 75, 76, 77, 78, 73, 74, 79, 88, 89, 90, 91, 92, 93, 94, 95, 96, 97, 98, 99, 100, 101, 102, 103, 104, 105, 109] (by decide +kernel) (by decide +kernel)) (goodIn_sub (fun _ h => List.mem_cons_of_mem _ (List.mem_append_left _ (List.mem_append_right _ h))) (by decide +kernel))
set_option maxRecDepth 20000 in
theorem gL_areLaws_X8_period : GoodIn wsL_areLaws (wsV RL 31 RX8 yX8_period wsX8_period) := goodIn_app (goodIn_of _ (by decide +kernel)) ggL_areLaws_X8_period
theorem dL_areLaws_0 : decode cL_areLaws 0 = .ok (.iload_n 1, 1) := by decide +kernel
theorem dL_areLaws_1 : decode cL_areLaws 1 = .ok (.aload_n 2, 1) := by decide +kernel
theorem dL_areLaws_2 : decode cL_areLaws 2 = .ok (.iconst 0, 1) := by decide +kernel
theorem dL_areLaws_3 : decode cL_areLaws 3 = .ok (.iaload, 1) := by decide +kernel
theorem dL_areLaws_4 : decode cL_areLaws 4 = .ok (.irem, 1) := by decide +kernel
theorem dL_areLaws_5 : decode cL_areLaws 5 = .ok (.istore_n 3, 1) := by decide +kernel
theorem dL_areLaws_6 : decode cL_areLaws 6 = .ok (.iload_n 1, 1) := by decide +kernel
theorem dL_areLaws_7 : decode cL_areLaws 7 = .ok (.bipush 6, 2) := by decide +kernel
theorem dL_areLaws_9 : decode cL_areLaws 9 = .ok (.idiv, 1) := by decide +kernel
theorem dL_areLaws_10 : decode cL_areLaws 10 = .ok (.aload_n 2, 1) := by decide +kernel
theorem dL_areLaws_11 : decode cL_areLaws 11 = .ok (.iconst 0, 1) := by decide +kernel
theorem dL_areLaws_12 : decode cL_areLaws 12 = .ok (.iaload, 1) := by decide +kernel
theorem dL_areLaws_13 : decode cL_areLaws 13 = .ok (.irem, 1) := by decide +kernel
theorem dL_areLaws_14 : decode cL_areLaws 14 = .ok (.istore 4, 2) := by decide +kernel
theorem dL_areLaws_16 : decode cL_areLaws 16 = .ok (.iload_n 1, 1) := by decide +kernel
theorem dL_areLaws_17 : decode cL_areLaws 17 = .ok (.bipush 36, 2) := by decide +kernel
theorem dL_areLaws_19 : decode cL_areLaws 19 = .ok (.idiv, 1) := by decide +kernel
theorem dL_areLaws_20 : decode cL_areLaws 20 = .ok (.bipush 6, 2) := by decide +kernel
theorem dL_areLaws_22 : decode cL_areLaws 22 = .ok (.irem, 1) := by decide +kernel
theorem dL_areLaws_23 : decode cL_areLaws 23 = .ok (.istore 5, 2) := by decide +kernel
theorem dL_areLaws_25 : decode cL_areLaws 25 = .ok (.iload_n 1, 1) := by decide +kernel
theorem dL_areLaws_26 : decode cL_areLaws 26 = .ok (.sipush 216, 3) := by decide +kernel
theorem dL_areLaws_29 : decode cL_areLaws 29 = .ok (.idiv, 1) := by decide +kernel
theorem dL_areLaws_30 : decode cL_areLaws 30 = .ok (.bipush 6, 2) := by decide +kernel
theorem dL_areLaws_32 : decode cL_areLaws 32 = .ok (.irem, 1) := by decide +kernel
theorem dL_areLaws_33 : decode cL_areLaws 33 = .ok (.istore 6, 2) := by decide +kernel
theorem dL_areLaws_35 : decode cL_areLaws 35 = .ok (.lconst 0, 1) := by decide +kernel
theorem dL_areLaws_36 : decode cL_areLaws 36 = .ok (.lstore 7, 2) := by decide +kernel
theorem dL_areLaws_38 : decode cL_areLaws 38 = .ok (.lconst 0, 1) := by decide +kernel
theorem dL_areLaws_39 : decode cL_areLaws 39 = .ok (.lstore 9, 2) := by decide +kernel
theorem dL_areLaws_41 : decode cL_areLaws 41 = .ok (.aload_n 0, 1) := by decide +kernel
theorem dL_areLaws_42 : decode cL_areLaws 42 = .ok (.iload_n 3, 1) := by decide +kernel
theorem dL_areLaws_43 : decode cL_areLaws 43 = .ok (.iload 4, 2) := by decide +kernel
theorem dL_areLaws_45 : decode cL_areLaws 45 = .ok (.invokevirtual 10, 3) := by decide +kernel
theorem dL_areLaws_48 : decode cL_areLaws 48 = .ok (.i2l, 1) := by decide +kernel
theorem dL_areLaws_49 : decode cL_areLaws 49 = .ok (.aload_n 0, 1) := by decide +kernel
theorem dL_areLaws_50 : decode cL_areLaws 50 = .ok (.iload_n 3, 1) := by decide +kernel
theorem dL_areLaws_51 : decode cL_areLaws 51 = .ok (.iconst 1, 1) := by decide +kernel
theorem dL_areLaws_52 : decode cL_areLaws 52 = .ok (.iload 4, 2) := by decide +kernel
theorem dL_areLaws_54 : decode cL_areLaws 54 = .ok (.invokevirtual 16, 3) := by decide +kernel
theorem dL_areLaws_57 : decode cL_areLaws 57 = .ok (.lcmp, 1) := by decide +kernel
theorem dL_areLaws_58 : decode cL_areLaws 58 = .ok (.ifCond .ne 59, 3) := by decide +kernel
theorem dL_areLaws_61 : decode cL_areLaws 61 = .ok (.aload_n 0, 1) := by decide +kernel
theorem dL_areLaws_62 : decode cL_areLaws 62 = .ok (.iload_n 3, 1) := by decide +kernel
theorem dL_areLaws_63 : decode cL_areLaws 63 = .ok (.iload 5, 2) := by decide +kernel
theorem dL_areLaws_65 : decode cL_areLaws 65 = .ok (.iconst 3, 1) := by decide +kernel
theorem dL_areLaws_66 : decode cL_areLaws 66 = .ok (.irem, 1) := by decide +kernel
theorem dL_areLaws_67 : decode cL_areLaws 67 = .ok (.iload 4, 2) := by decide +kernel
theorem dL_areLaws_69 : decode cL_areLaws 69 = .ok (.invokevirtual 20, 3) := by decide +kernel
theorem dL_areLaws_72 : decode cL_areLaws 72 = .ok (.aload_n 0, 1) := by decide +kernel
theorem dL_areLaws_73 : decode cL_areLaws 73 = .ok (.iload_n 3, 1) := by decide +kernel
theorem dL_areLaws_74 : decode cL_areLaws 74 = .ok (.iload 5, 2) := by decide +kernel
theorem dL_areLaws_76 : decode cL_areLaws 76 = .ok (.iconst 3, 1) := by decide +kernel
theorem dL_areLaws_77 : decode cL_areLaws 77 = .ok (.irem, 1) := by decide +kernel
theorem dL_areLaws_78 : decode cL_areLaws 78 = .ok (.iload 4, 2) := by decide +kernel
theorem dL_areLaws_80 : decode cL_areLaws 80 = .ok (.invokevirtual 16, 3) := by decide +kernel
theorem dL_areLaws_83 : decode cL_areLaws 83 = .ok (.lcmp, 1) := by decide +kernel
theorem dL_areLaws_84 : decode cL_areLaws 84 = .ok (.ifCond .ne 33, 3) := by decide +kernel
theorem dL_areLaws_87 : decode cL_areLaws 87 = .ok (.aload_n 0, 1) := by decide +kernel
theorem dL_areLaws_88 : decode cL_areLaws 88 = .ok (.iload 5, 2) := by decide +kernel
theorem dL_areLaws_90 : decode cL_areLaws 90 = .ok (.invokevirtual 23, 3) := by decide +kernel
theorem dL_areLaws_93 : decode cL_areLaws 93 = .ok (.aload_n 0, 1) := by decide +kernel
theorem dL_areLaws_94 : decode cL_areLaws 94 = .ok (.iload 6, 2) := by decide +kernel
theorem dL_areLaws_96 : decode cL_areLaws 96 = .ok (.invokevirtual 23, 3) := by decide +kernel
theorem dL_areLaws_99 : decode cL_areLaws 99 = .ok (.lmul, 1) := by decide +kernel
theorem dL_areLaws_100 : decode cL_areLaws 100 = .ok (.aload_n 0, 1) := by decide +kernel
theorem dL_areLaws_101 : decode cL_areLaws 101 = .ok (.iload 5, 2) := by decide +kernel
theorem dL_areLaws_103 : decode cL_areLaws 103 = .ok (.iload 6, 2) := by decide +kernel
theorem dL_areLaws_105 : decode cL_areLaws 105 = .ok (.iadd, 1) := by decide +kernel
theorem dL_areLaws_106 : decode cL_areLaws 106 = .ok (.invokevirtual 23, 3) := by decide +kernel
theorem dL_areLaws_109 : decode cL_areLaws 109 = .ok (.lcmp, 1) := by decide +kernel
theorem dL_areLaws_110 : decode cL_areLaws 110 = .ok (.ifCond .ne 7, 3) := by decide +kernel
theorem dL_areLaws_113 : decode cL_areLaws 113 = .ok (.iconst 1, 1) := by decide +kernel
theorem dL_areLaws_114 : decode cL_areLaws 114 = .ok (.goto 4, 3) := by decide +kernel
theorem dL_areLaws_117 : decode cL_areLaws 117 = .ok (.iconst 0, 1) := by decide +kernel
theorem dL_areLaws_118 : decode cL_areLaws 118 = .ok (.istore 11, 2) := by decide +kernel
theorem dL_areLaws_120 : decode cL_areLaws 120 = .ok (.iconst 0, 1) := by decide +kernel
theorem dL_areLaws_121 : decode cL_areLaws 121 = .ok (.istore 12, 2) := by decide +kernel
theorem dL_areLaws_123 : decode cL_areLaws 123 = .ok (.iload 12, 2) := by decide +kernel
theorem dL_areLaws_125 : decode cL_areLaws 125 = .ok (.aload_n 2, 1) := by decide +kernel
theorem dL_areLaws_126 : decode cL_areLaws 126 = .ok (.iconst 0, 1) := by decide +kernel
theorem dL_areLaws_127 : decode cL_areLaws 127 = .ok (.iaload, 1) := by decide +kernel
theorem dL_areLaws_128 : decode cL_areLaws 128 = .ok (.if_icmp .ge 88, 3) := by decide +kernel
theorem dL_areLaws_131 : decode cL_areLaws 131 = .ok (.lload 7, 2) := by decide +kernel
theorem dL_areLaws_133 : decode cL_areLaws 133 = .ok (.aload_n 0, 1) := by decide +kernel
theorem dL_areLaws_134 : decode cL_areLaws 134 = .ok (.iload_n 3, 1) := by decide +kernel
theorem dL_areLaws_135 : decode cL_areLaws 135 = .ok (.iload 5, 2) := by decide +kernel
theorem dL_areLaws_137 : decode cL_areLaws 137 = .ok (.iload 12, 2) := by decide +kernel
theorem dL_areLaws_139 : decode cL_areLaws 139 = .ok (.invokevirtual 16, 3) := by decide +kernel
theorem dL_areLaws_142 : decode cL_areLaws 142 = .ok (.ladd, 1) := by decide +kernel
theorem dL_areLaws_143 : decode cL_areLaws 143 = .ok (.lstore 7, 2) := by decide +kernel
theorem dL_areLaws_145 : decode cL_areLaws 145 = .ok (.lload 9, 2) := by decide +kernel
theorem dL_areLaws_147 : decode cL_areLaws 147 = .ok (.aload_n 0, 1) := by decide +kernel
theorem dL_areLaws_148 : decode cL_areLaws 148 = .ok (.iload_n 3, 1) := by decide +kernel
theorem dL_areLaws_149 : decode cL_areLaws 149 = .ok (.iload 5, 2) := by decide +kernel
theorem dL_areLaws_151 : decode cL_areLaws 151 = .ok (.iload 12, 2) := by decide +kernel
theorem dL_areLaws_153 : decode cL_areLaws 153 = .ok (.invokevirtual 16, 3) := by decide +kernel
theorem dL_areLaws_156 : decode cL_areLaws 156 = .ok (.aload_n 0, 1) := by decide +kernel
theorem dL_areLaws_157 : decode cL_areLaws 157 = .ok (.iload 12, 2) := by decide +kernel
theorem dL_areLaws_159 : decode cL_areLaws 159 = .ok (.iload 6, 2) := by decide +kernel
theorem dL_areLaws_161 : decode cL_areLaws 161 = .ok (.iload 4, 2) := by decide +kernel
theorem dL_areLaws_163 : decode cL_areLaws 163 = .ok (.invokevirtual 16, 3) := by decide +kernel
theorem dL_areLaws_166 : decode cL_areLaws 166 = .ok (.lmul, 1) := by decide +kernel
theorem dL_areLaws_167 : decode cL_areLaws 167 = .ok (.ladd, 1) := by decide +kernel
theorem dL_areLaws_168 : decode cL_areLaws 168 = .ok (.lstore 9, 2) := by decide +kernel
theorem dL_areLaws_170 : decode cL_areLaws 170 = .ok (.iload 11, 2) := by decide +kernel
theorem dL_areLaws_172 : decode cL_areLaws 172 = .ok (.ifCond .eq 35, 3) := by decide +kernel
theorem dL_areLaws_175 : decode cL_areLaws 175 = .ok (.aload_n 0, 1) := by decide +kernel
theorem dL_areLaws_176 : decode cL_areLaws 176 = .ok (.iload_n 3, 1) := by decide +kernel
theorem dL_areLaws_177 : decode cL_areLaws 177 = .ok (.iload 5, 2) := by decide +kernel
theorem dL_areLaws_179 : decode cL_areLaws 179 = .ok (.iload 12, 2) := by decide +kernel
theorem dL_areLaws_181 : decode cL_areLaws 181 = .ok (.invokevirtual 16, 3) := by decide +kernel
theorem dL_areLaws_184 : decode cL_areLaws 184 = .ok (.lconst 0, 1) := by decide +kernel
theorem dL_areLaws_185 : decode cL_areLaws 185 = .ok (.lcmp, 1) := by decide +kernel
theorem dL_areLaws_186 : decode cL_areLaws 186 = .ok (.ifCond .eq 17, 3) := by decide +kernel
theorem dL_areLaws_189 : decode cL_areLaws 189 = .ok (.aload_n 0, 1) := by decide +kernel
theorem dL_areLaws_190 : decode cL_areLaws 190 = .ok (.iload_n 3, 1) := by decide +kernel
theorem dL_areLaws_191 : decode cL_areLaws 191 = .ok (.invokevirtual 27, 3) := by decide +kernel
theorem dL_areLaws_194 : decode cL_areLaws 194 = .ok (.iload 12, 2) := by decide +kernel
theorem dL_areLaws_196 : decode cL_areLaws 196 = .ok (.ishr, 1) := by decide +kernel
theorem dL_areLaws_197 : decode cL_areLaws 197 = .ok (.iconst 1, 1) := by decide +kernel
theorem dL_areLaws_198 : decode cL_areLaws 198 = .ok (.iand, 1) := by decide +kernel
theorem dL_areLaws_199 : decode cL_areLaws 199 = .ok (.iconst 1, 1) := by decide +kernel
theorem dL_areLaws_200 : decode cL_areLaws 200 = .ok (.if_icmp .ne 7, 3) := by decide +kernel
theorem dL_areLaws_203 : decode cL_areLaws 203 = .ok (.iconst 1, 1) := by decide +kernel
theorem dL_areLaws_204 : decode cL_areLaws 204 = .ok (.goto 4, 3) := by decide +kernel
theorem dL_areLaws_207 : decode cL_areLaws 207 = .ok (.iconst 0, 1) := by decide +kernel
theorem dL_areLaws_208 : decode cL_areLaws 208 = .ok (.istore 11, 2) := by decide +kernel
theorem dL_areLaws_210 : decode cL_areLaws 210 = .ok (.iinc 12 1, 3) := by decide +kernel
theorem dL_areLaws_213 : decode cL_areLaws 213 = .ok (.goto (-90), 3) := by decide +kernel
theorem dL_areLaws_216 : decode cL_areLaws 216 = .ok (.iload 11, 2) := by decide +kernel
theorem dL_areLaws_218 : decode cL_areLaws 218 = .ok (.ifCond .eq 100, 3) := by decide +kernel
theorem dL_areLaws_221 : decode cL_areLaws 221 = .ok (.lload 7, 2) := by decide +kernel
theorem dL_areLaws_223 : decode cL_areLaws 223 = .ok (.aload_n 0, 1) := by decide +kernel
theorem dL_areLaws_224 : decode cL_areLaws 224 = .ok (.iload 5, 2) := by decide +kernel
theorem dL_areLaws_226 : decode cL_areLaws 226 = .ok (.invokevirtual 23, 3) := by decide +kernel
theorem dL_areLaws_229 : decode cL_areLaws 229 = .ok (.lcmp, 1) := by decide +kernel
theorem dL_areLaws_230 : decode cL_areLaws 230 = .ok (.ifCond .ne 88, 3) := by decide +kernel
theorem dL_areLaws_233 : decode cL_areLaws 233 = .ok (.lload 9, 2) := by decide +kernel
theorem dL_areLaws_235 : decode cL_areLaws 235 = .ok (.aload_n 0, 1) := by decide +kernel
theorem dL_areLaws_236 : decode cL_areLaws 236 = .ok (.iload_n 3, 1) := by decide +kernel
theorem dL_areLaws_237 : decode cL_areLaws 237 = .ok (.iload 5, 2) := by decide +kernel
theorem dL_areLaws_239 : decode cL_areLaws 239 = .ok (.iload 6, 2) := by decide +kernel
theorem dL_areLaws_241 : decode cL_areLaws 241 = .ok (.iadd, 1) := by decide +kernel
theorem dL_areLaws_242 : decode cL_areLaws 242 = .ok (.iload 4, 2) := by decide +kernel
theorem dL_areLaws_244 : decode cL_areLaws 244 = .ok (.invokevirtual 16, 3) := by decide +kernel
theorem dL_areLaws_247 : decode cL_areLaws 247 = .ok (.lcmp, 1) := by decide +kernel
theorem dL_areLaws_248 : decode cL_areLaws 248 = .ok (.ifCond .ne 70, 3) := by decide +kernel
theorem dL_areLaws_251 : decode cL_areLaws 251 = .ok (.iload 5, 2) := by decide +kernel
theorem dL_areLaws_253 : decode cL_areLaws 253 = .ok (.ifCond .eq 35, 3) := by decide +kernel
theorem dL_areLaws_256 : decode cL_areLaws 256 = .ok (.aload_n 0, 1) := by decide +kernel
theorem dL_areLaws_257 : decode cL_areLaws 257 = .ok (.iload_n 3, 1) := by decide +kernel
theorem dL_areLaws_258 : decode cL_areLaws 258 = .ok (.invokevirtual 31, 3) := by decide +kernel
theorem dL_areLaws_261 : decode cL_areLaws 261 = .ok (.ifCond .eq 27, 3) := by decide +kernel
theorem dL_areLaws_264 : decode cL_areLaws 264 = .ok (.aload_n 0, 1) := by decide +kernel
theorem dL_areLaws_265 : decode cL_areLaws 265 = .ok (.iload_n 3, 1) := by decide +kernel
theorem dL_areLaws_266 : decode cL_areLaws 266 = .ok (.iload 5, 2) := by decide +kernel
theorem dL_areLaws_268 : decode cL_areLaws 268 = .ok (.iload_n 3, 1) := by decide +kernel
theorem dL_areLaws_269 : decode cL_areLaws 269 = .ok (.invokevirtual 16, 3) := by decide +kernel
theorem dL_areLaws_272 : decode cL_areLaws 272 = .ok (.lconst 0, 1) := by decide +kernel
theorem dL_areLaws_273 : decode cL_areLaws 273 = .ok (.lcmp, 1) := by decide +kernel
theorem dL_areLaws_274 : decode cL_areLaws 274 = .ok (.ifCond .eq 14, 3) := by decide +kernel
theorem dL_areLaws_277 : decode cL_areLaws 277 = .ok (.iload 5, 2) := by decide +kernel
theorem dL_areLaws_279 : decode cL_areLaws 279 = .ok (.aload_n 0, 1) := by decide +kernel
theorem dL_areLaws_280 : decode cL_areLaws 280 = .ok (.iload_n 3, 1) := by decide +kernel
theorem dL_areLaws_281 : decode cL_areLaws 281 = .ok (.invokevirtual 31, 3) := by decide +kernel
theorem dL_areLaws_284 : decode cL_areLaws 284 = .ok (.irem, 1) := by decide +kernel
theorem dL_areLaws_285 : decode cL_areLaws 285 = .ok (.ifCond .ne 33, 3) := by decide +kernel
theorem dL_areLaws_288 : decode cL_areLaws 288 = .ok (.aload_n 0, 1) := by decide +kernel
theorem dL_areLaws_289 : decode cL_areLaws 289 = .ok (.iload_n 3, 1) := by decide +kernel
theorem dL_areLaws_290 : decode cL_areLaws 290 = .ok (.invokevirtual 31, 3) := by decide +kernel
theorem dL_areLaws_293 : decode cL_areLaws 293 = .ok (.ifCond .gt 21, 3) := by decide +kernel
theorem dL_areLaws_296 : decode cL_areLaws 296 = .ok (.iload 5, 2) := by decide +kernel
theorem dL_areLaws_298 : decode cL_areLaws 298 = .ok (.ifCond .eq 16, 3) := by decide +kernel
theorem dL_areLaws_301 : decode cL_areLaws 301 = .ok (.aload_n 0, 1) := by decide +kernel
theorem dL_areLaws_302 : decode cL_areLaws 302 = .ok (.iload_n 3, 1) := by decide +kernel
theorem dL_areLaws_303 : decode cL_areLaws 303 = .ok (.iload 5, 2) := by decide +kernel
theorem dL_areLaws_305 : decode cL_areLaws 305 = .ok (.iload_n 3, 1) := by decide +kernel
theorem dL_areLaws_306 : decode cL_areLaws 306 = .ok (.invokevirtual 16, 3) := by decide +kernel
theorem dL_areLaws_309 : decode cL_areLaws 309 = .ok (.lconst 0, 1) := by decide +kernel
theorem dL_areLaws_310 : decode cL_areLaws 310 = .ok (.lcmp, 1) := by decide +kernel
theorem dL_areLaws_311 : decode cL_areLaws 311 = .ok (.ifCond .ne 7, 3) := by decide +kernel
theorem dL_areLaws_314 : decode cL_areLaws 314 = .ok (.iconst 1, 1) := by decide +kernel
theorem dL_areLaws_315 : decode cL_areLaws 315 = .ok (.goto 4, 3) := by decide +kernel
theorem dL_areLaws_318 : decode cL_areLaws 318 = .ok (.iconst 0, 1) := by decide +kernel
theorem dL_areLaws_319 : decode cL_areLaws 319 = .ok (.ireturn, 1) := by decide +kernel
set_option maxRecDepth 20000 in
theorem ggL_areFar_X8_distance : GoodIn wsL_areFar wsX8_distance := goodIn_ca (goodIn_ca (goodIn_r _ [5, 6, 7, 8, 9, 4, 10, 11, 12, 13, 14, 15, 16, 17, 18, 19, 20, 21, 22, 23, 24, 25, 26, 27, 28, 29, 30, 31, 32, 33, 34, 35, 36, 37, 38, 39, 40, 41, 42, 139, 140, 141, 142, 143, 144, 145, 146, 147, 148, 149, 150, 151, 152, 153] (by decide +kernel) (by decide +kernel)) (goodIn_sub (fun _ h => List.mem_cons_of_mem _ (List.mem_append_left _ (List.mem_append_right _ h))) (by decide +kernel))) (goodIn_sub (fun _ h => List.mem_cons_of_mem _ (List.mem_append_right _ h)) (by decide +kernel))
set_option maxRecDepth 20000 in
theorem gL_areFar_X8_distance : GoodIn wsL_areFar (wsV RL 34 RX8 yX8_distance wsX8_distance) := goodIn_app (goodIn_of _ (by decide +kernel)) ggL_areFar_X8_distance
set_option maxRecDepth 20000 in
theorem ggL_areFar_X8_apart : GoodIn wsL_areFar wsX8_apart := goodIn_ca (goodIn_ca (goodIn_r _ [46, 47, 7, 8, 9, 4, 10, 11, 12, 13, 14, 15, 16, 17, 18, 19, 48, 49, 50, 51, 52, 53, 54, 55, 28, 29, 56, 57, 58, 59, 60, 61, 139, 140, 141, 142, 143, 144, 145, 146, 147, 148, 149, 150, 154, 155, 156] (by decide +kernel) (by decide +kernel)) (goodIn_sub (fun _ h => List.mem_cons_of_mem _ (List.mem_append_left _ (List.mem_append_right _ h))) (by decide +kernel))) (goodIn_sub (fun _ h => List.mem_cons_of_mem _ (List.mem_append_right _ h)) (by decide +kernel))
set_option maxRecDepth 20000 in
theorem gL_areFar_X8_apart : GoodIn wsL_areFar (wsV RL 37 RX8 yX8_apart wsX8_apart) := goodIn_app (goodIn_of _ (by decide +kernel)) ggL_areFar_X8_apart
set_option maxRecDepth 20000 in
theorem ggL_areFar_X8_words : GoodIn wsL_areFar wsX8_words := goodIn_ca (goodIn_r _ [65, 13, 15, 16, 4, 17, 18, 19, 66, 67, 68, 69, 70, 71, 139, 140, 141, 142, 143, 144, 145, 146, 147, 148, 149, 150] (by decide +kernel) (by decide +kernel)) (goodIn_sub (fun _ h => List.mem_cons_of_mem _ (List.mem_append_right _ h)) (by decide +kernel))
set_option maxRecDepth 20000 in
theorem gL_areFar_X8_words : GoodIn wsL_areFar (wsV RL 23 RX8 yX8_words wsX8_words) := goodIn_app (goodIn_of _ (by decide +kernel)) ggL_areFar_X8_words
set_option maxRecDepth 20000 in
theorem ggL_areFar_X8_together : GoodIn wsL_areFar wsX8_together := goodIn_ca (goodIn_ca (goodIn_r _ [75, 47, 7, 8, 9, 4, 10, 11, 12, 13, 14, 15, 16, 17, 18, 19, 76, 77, 78, 51, 79, 53, 54, 80, 81, 82, 83, 84, 85, 86, 87, 88, 60, 89, 90, 91, 92, 61, 139, 140, 141, 142, 143, 144, 145, 146, 147, 148, 149, 150, 154, 155, 156] (by decide +kernel) (by decide +kernel)) (goodIn_sub (fun _ h => List.mem_cons_of_mem _ (List.mem_append_left _ (List.mem_append_right _ h))) (by decide +kernel))) (goodIn_sub (fun _ h => List.mem_cons_of_mem _ (List.mem_append_right _ h)) (by decide +kernel))
set_option maxRecDepth 20000 in
theorem gL_areFar_X8_together : GoodIn wsL_areFar (wsV RL 40 RX8 yX8_together wsX8_together) := goodIn_app (goodIn_of _ (by decide +kernel)) ggL_areFar_X8_together
set_option maxRecDepth 20000 in
theorem ggL_areFar_X8_hits : GoodIn wsL_areFar wsX8_hits := goodIn_ca (goodIn_ca (goodIn_r _ [96, 6, 7, 8, 9, 4, 10, 11, 12, 13, 14, 15, 16, 17, 18, 19, 97, 98, 99, 23, 100, 25, 26, 101, 102, 103, 104, 105, 106, 67, 68, 69, 70, 71, 107, 108, 109, 110, 111, 112, 139, 140, 141, 142, 143, 144, 145, 146, 147, 148, 149, 150, 151, 152, 153] (by decide +kernel) (by decide +kernel)) (goodIn_sub (fun _ h => List.mem_cons_of_mem _ (List.mem_append_left _ (List.mem_append_right _ h))) (by decide +kernel))) (goodIn_sub (fun _ h => List.mem_cons_of_mem _ (List.mem_append_right _ h)) (by decide +kernel))
set_option maxRecDepth 20000 in
theorem gL_areFar_X8_hits : GoodIn wsL_areFar (wsV RL 44 RX8 yX8_hits wsX8_hits) := goodIn_app (goodIn_of _ (by decide +kernel)) ggL_areFar_X8_hits
set_option maxRecDepth 20000 in
theorem ggL_areFar_X8_law : GoodIn wsL_areFar wsX8_law := goodIn_ca (goodIn_ca (goodIn_r _ [116, 6, 7, 8, 9, 4, 10, 11, 12, 13, 14, 15, 16, 17, 18, 19, 117, 118, 119, 23, 120, 27, 121, 21, 22, 24, 25, 26, 28, 29, 30, 31, 32, 33, 34, 139, 140, 141, 142, 143, 144, 145, 146, 147, 148, 149, 150, 151, 152, 153] (by decide +kernel) (by decide +kernel)) (goodIn_sub (fun _ h => List.mem_cons_of_mem _ (List.mem_append_left _ (List.mem_append_right _ h))) (by decide +kernel))) (goodIn_sub (fun _ h => List.mem_cons_of_mem _ (List.mem_append_right _ h)) (by decide +kernel))
set_option maxRecDepth 20000 in
theorem gL_areFar_X8_law : GoodIn wsL_areFar (wsV RL 16 RX8 yX8_law wsX8_law) := goodIn_app (goodIn_of _ (by decide +kernel)) ggL_areFar_X8_law
set_option maxRecDepth 20000 in
theorem ggL_areFar_X8_reach : GoodIn wsL_areFar wsX8_reach := goodIn_ca (goodIn_r _ [125, 126, 7, 8, 9, 4, 10, 11, 12, 13, 14, 127, 128, 129, 130, 131, 132, 133, 134, 135, 136, 137, 138, 139, 140, 141, 142, 143, 144, 145, 146, 147, 148, 149, 150, 157] (by decide +kernel) (by decide +kernel)) (goodIn_sub (fun _ h => List.mem_cons_of_mem _ (List.mem_append_left _ (List.mem_append_right _ h))) (by decide +kernel))
set_option maxRecDepth 20000 in
theorem gL_areFar_X8_reach : GoodIn wsL_areFar (wsV RL 27 RX8 yX8_reach wsX8_reach) := goodIn_app (goodIn_of _ (by decide +kernel)) ggL_areFar_X8_reach
theorem dL_areFar_0 : decode cL_areFar 0 = .ok (.iload_n 1, 1) := by decide +kernel
theorem dL_areFar_1 : decode cL_areFar 1 = .ok (.aload_n 2, 1) := by decide +kernel
theorem dL_areFar_2 : decode cL_areFar 2 = .ok (.iconst 0, 1) := by decide +kernel
theorem dL_areFar_3 : decode cL_areFar 3 = .ok (.iaload, 1) := by decide +kernel
theorem dL_areFar_4 : decode cL_areFar 4 = .ok (.irem, 1) := by decide +kernel
theorem dL_areFar_5 : decode cL_areFar 5 = .ok (.istore_n 3, 1) := by decide +kernel
theorem dL_areFar_6 : decode cL_areFar 6 = .ok (.iload_n 1, 1) := by decide +kernel
theorem dL_areFar_7 : decode cL_areFar 7 = .ok (.bipush 6, 2) := by decide +kernel
theorem dL_areFar_9 : decode cL_areFar 9 = .ok (.idiv, 1) := by decide +kernel
theorem dL_areFar_10 : decode cL_areFar 10 = .ok (.aload_n 2, 1) := by decide +kernel
theorem dL_areFar_11 : decode cL_areFar 11 = .ok (.iconst 0, 1) := by decide +kernel
theorem dL_areFar_12 : decode cL_areFar 12 = .ok (.iaload, 1) := by decide +kernel
theorem dL_areFar_13 : decode cL_areFar 13 = .ok (.irem, 1) := by decide +kernel
theorem dL_areFar_14 : decode cL_areFar 14 = .ok (.istore 4, 2) := by decide +kernel
theorem dL_areFar_16 : decode cL_areFar 16 = .ok (.iload_n 1, 1) := by decide +kernel
theorem dL_areFar_17 : decode cL_areFar 17 = .ok (.bipush 36, 2) := by decide +kernel
theorem dL_areFar_19 : decode cL_areFar 19 = .ok (.idiv, 1) := by decide +kernel
theorem dL_areFar_20 : decode cL_areFar 20 = .ok (.bipush 12, 2) := by decide +kernel
theorem dL_areFar_22 : decode cL_areFar 22 = .ok (.irem, 1) := by decide +kernel
theorem dL_areFar_23 : decode cL_areFar 23 = .ok (.istore 5, 2) := by decide +kernel
theorem dL_areFar_25 : decode cL_areFar 25 = .ok (.iload_n 1, 1) := by decide +kernel
theorem dL_areFar_26 : decode cL_areFar 26 = .ok (.sipush 432, 3) := by decide +kernel
theorem dL_areFar_29 : decode cL_areFar 29 = .ok (.idiv, 1) := by decide +kernel
theorem dL_areFar_30 : decode cL_areFar 30 = .ok (.aload_n 2, 1) := by decide +kernel
theorem dL_areFar_31 : decode cL_areFar 31 = .ok (.iconst 0, 1) := by decide +kernel
theorem dL_areFar_32 : decode cL_areFar 32 = .ok (.iaload, 1) := by decide +kernel
theorem dL_areFar_33 : decode cL_areFar 33 = .ok (.irem, 1) := by decide +kernel
theorem dL_areFar_34 : decode cL_areFar 34 = .ok (.istore 6, 2) := by decide +kernel
theorem dL_areFar_36 : decode cL_areFar 36 = .ok (.aload_n 0, 1) := by decide +kernel
theorem dL_areFar_37 : decode cL_areFar 37 = .ok (.iload_n 3, 1) := by decide +kernel
theorem dL_areFar_38 : decode cL_areFar 38 = .ok (.iload 4, 2) := by decide +kernel
theorem dL_areFar_40 : decode cL_areFar 40 = .ok (.iload 5, 2) := by decide +kernel
theorem dL_areFar_42 : decode cL_areFar 42 = .ok (.invokevirtual 34, 3) := by decide +kernel
theorem dL_areFar_45 : decode cL_areFar 45 = .ok (.lstore 7, 2) := by decide +kernel
theorem dL_areFar_47 : decode cL_areFar 47 = .ok (.aload_n 0, 1) := by decide +kernel
theorem dL_areFar_48 : decode cL_areFar 48 = .ok (.iload_n 3, 1) := by decide +kernel
theorem dL_areFar_49 : decode cL_areFar 49 = .ok (.iload 4, 2) := by decide +kernel
theorem dL_areFar_51 : decode cL_areFar 51 = .ok (.iload 5, 2) := by decide +kernel
theorem dL_areFar_53 : decode cL_areFar 53 = .ok (.invokevirtual 37, 3) := by decide +kernel
theorem dL_areFar_56 : decode cL_areFar 56 = .ok (.lstore 9, 2) := by decide +kernel
theorem dL_areFar_58 : decode cL_areFar 58 = .ok (.lload 7, 2) := by decide +kernel
theorem dL_areFar_60 : decode cL_areFar 60 = .ok (.lconst 0, 1) := by decide +kernel
theorem dL_areFar_61 : decode cL_areFar 61 = .ok (.lcmp, 1) := by decide +kernel
theorem dL_areFar_62 : decode cL_areFar 62 = .ok (.ifCond .lt 140, 3) := by decide +kernel
theorem dL_areFar_65 : decode cL_areFar 65 = .ok (.lload 7, 2) := by decide +kernel
theorem dL_areFar_67 : decode cL_areFar 67 = .ok (.lload 9, 2) := by decide +kernel
theorem dL_areFar_69 : decode cL_areFar 69 = .ok (.lcmp, 1) := by decide +kernel
theorem dL_areFar_70 : decode cL_areFar 70 = .ok (.ifCond .gt 132, 3) := by decide +kernel
theorem dL_areFar_73 : decode cL_areFar 73 = .ok (.lload 9, 2) := by decide +kernel
theorem dL_areFar_75 : decode cL_areFar 75 = .ok (.aload_n 0, 1) := by decide +kernel
theorem dL_areFar_76 : decode cL_areFar 76 = .ok (.iload 5, 2) := by decide +kernel
theorem dL_areFar_78 : decode cL_areFar 78 = .ok (.invokevirtual 23, 3) := by decide +kernel
theorem dL_areFar_81 : decode cL_areFar 81 = .ok (.lcmp, 1) := by decide +kernel
theorem dL_areFar_82 : decode cL_areFar 82 = .ok (.ifCond .gt 120, 3) := by decide +kernel
theorem dL_areFar_85 : decode cL_areFar 85 = .ok (.lload 7, 2) := by decide +kernel
theorem dL_areFar_87 : decode cL_areFar 87 = .ok (.aload_n 0, 1) := by decide +kernel
theorem dL_areFar_88 : decode cL_areFar 88 = .ok (.iload 4, 2) := by decide +kernel
theorem dL_areFar_90 : decode cL_areFar 90 = .ok (.iload_n 3, 1) := by decide +kernel
theorem dL_areFar_91 : decode cL_areFar 91 = .ok (.iload 5, 2) := by decide +kernel
theorem dL_areFar_93 : decode cL_areFar 93 = .ok (.invokevirtual 34, 3) := by decide +kernel
theorem dL_areFar_96 : decode cL_areFar 96 = .ok (.lcmp, 1) := by decide +kernel
theorem dL_areFar_97 : decode cL_areFar 97 = .ok (.ifCond .ne 105, 3) := by decide +kernel
theorem dL_areFar_100 : decode cL_areFar 100 = .ok (.lload 9, 2) := by decide +kernel
theorem dL_areFar_102 : decode cL_areFar 102 = .ok (.aload_n 0, 1) := by decide +kernel
theorem dL_areFar_103 : decode cL_areFar 103 = .ok (.iload 4, 2) := by decide +kernel
theorem dL_areFar_105 : decode cL_areFar 105 = .ok (.iload_n 3, 1) := by decide +kernel
theorem dL_areFar_106 : decode cL_areFar 106 = .ok (.iload 5, 2) := by decide +kernel
theorem dL_areFar_108 : decode cL_areFar 108 = .ok (.invokevirtual 37, 3) := by decide +kernel
theorem dL_areFar_111 : decode cL_areFar 111 = .ok (.lcmp, 1) := by decide +kernel
theorem dL_areFar_112 : decode cL_areFar 112 = .ok (.ifCond .ne 90, 3) := by decide +kernel
theorem dL_areFar_115 : decode cL_areFar 115 = .ok (.lload 7, 2) := by decide +kernel
theorem dL_areFar_117 : decode cL_areFar 117 = .ok (.aload_n 0, 1) := by decide +kernel
theorem dL_areFar_118 : decode cL_areFar 118 = .ok (.iload_n 3, 1) := by decide +kernel
theorem dL_areFar_119 : decode cL_areFar 119 = .ok (.iload 6, 2) := by decide +kernel
theorem dL_areFar_121 : decode cL_areFar 121 = .ok (.iload 5, 2) := by decide +kernel
theorem dL_areFar_123 : decode cL_areFar 123 = .ok (.invokevirtual 34, 3) := by decide +kernel
theorem dL_areFar_126 : decode cL_areFar 126 = .ok (.aload_n 0, 1) := by decide +kernel
theorem dL_areFar_127 : decode cL_areFar 127 = .ok (.iload 6, 2) := by decide +kernel
theorem dL_areFar_129 : decode cL_areFar 129 = .ok (.iload 4, 2) := by decide +kernel
theorem dL_areFar_131 : decode cL_areFar 131 = .ok (.iload 5, 2) := by decide +kernel
theorem dL_areFar_133 : decode cL_areFar 133 = .ok (.invokevirtual 34, 3) := by decide +kernel
theorem dL_areFar_136 : decode cL_areFar 136 = .ok (.ladd, 1) := by decide +kernel
theorem dL_areFar_137 : decode cL_areFar 137 = .ok (.lcmp, 1) := by decide +kernel
theorem dL_areFar_138 : decode cL_areFar 138 = .ok (.ifCond .gt 64, 3) := by decide +kernel
theorem dL_areFar_141 : decode cL_areFar 141 = .ok (.iload_n 3, 1) := by decide +kernel
theorem dL_areFar_142 : decode cL_areFar 142 = .ok (.iload 4, 2) := by decide +kernel
theorem dL_areFar_144 : decode cL_areFar 144 = .ok (.if_icmp .ne 10, 3) := by decide +kernel
theorem dL_areFar_147 : decode cL_areFar 147 = .ok (.lload 9, 2) := by decide +kernel
theorem dL_areFar_149 : decode cL_areFar 149 = .ok (.lconst 0, 1) := by decide +kernel
theorem dL_areFar_150 : decode cL_areFar 150 = .ok (.lcmp, 1) := by decide +kernel
theorem dL_areFar_151 : decode cL_areFar 151 = .ok (.ifCond .ne 51, 3) := by decide +kernel
theorem dL_areFar_154 : decode cL_areFar 154 = .ok (.aload_n 0, 1) := by decide +kernel
theorem dL_areFar_155 : decode cL_areFar 155 = .ok (.iload_n 3, 1) := by decide +kernel
theorem dL_areFar_156 : decode cL_areFar 156 = .ok (.iload 4, 2) := by decide +kernel
theorem dL_areFar_158 : decode cL_areFar 158 = .ok (.iload 5, 2) := by decide +kernel
theorem dL_areFar_160 : decode cL_areFar 160 = .ok (.iconst 1, 1) := by decide +kernel
theorem dL_areFar_161 : decode cL_areFar 161 = .ok (.iadd, 1) := by decide +kernel
theorem dL_areFar_162 : decode cL_areFar 162 = .ok (.invokevirtual 34, 3) := by decide +kernel
theorem dL_areFar_165 : decode cL_areFar 165 = .ok (.aload_n 2, 1) := by decide +kernel
theorem dL_areFar_166 : decode cL_areFar 166 = .ok (.iconst 1, 1) := by decide +kernel
theorem dL_areFar_167 : decode cL_areFar 167 = .ok (.iaload, 1) := by decide +kernel
theorem dL_areFar_168 : decode cL_areFar 168 = .ok (.i2l, 1) := by decide +kernel
theorem dL_areFar_169 : decode cL_areFar 169 = .ok (.lload 7, 2) := by decide +kernel
theorem dL_areFar_171 : decode cL_areFar 171 = .ok (.lmul, 1) := by decide +kernel
theorem dL_areFar_172 : decode cL_areFar 172 = .ok (.lcmp, 1) := by decide +kernel
theorem dL_areFar_173 : decode cL_areFar 173 = .ok (.ifCond .gt 29, 3) := by decide +kernel
theorem dL_areFar_176 : decode cL_areFar 176 = .ok (.aload_n 0, 1) := by decide +kernel
theorem dL_areFar_177 : decode cL_areFar 177 = .ok (.iload_n 3, 1) := by decide +kernel
theorem dL_areFar_178 : decode cL_areFar 178 = .ok (.iload 4, 2) := by decide +kernel
theorem dL_areFar_180 : decode cL_areFar 180 = .ok (.iload 5, 2) := by decide +kernel
theorem dL_areFar_182 : decode cL_areFar 182 = .ok (.iconst 1, 1) := by decide +kernel
theorem dL_areFar_183 : decode cL_areFar 183 = .ok (.iadd, 1) := by decide +kernel
theorem dL_areFar_184 : decode cL_areFar 184 = .ok (.invokevirtual 37, 3) := by decide +kernel
theorem dL_areFar_187 : decode cL_areFar 187 = .ok (.aload_n 2, 1) := by decide +kernel
theorem dL_areFar_188 : decode cL_areFar 188 = .ok (.iconst 1, 1) := by decide +kernel
theorem dL_areFar_189 : decode cL_areFar 189 = .ok (.iaload, 1) := by decide +kernel
theorem dL_areFar_190 : decode cL_areFar 190 = .ok (.i2l, 1) := by decide +kernel
theorem dL_areFar_191 : decode cL_areFar 191 = .ok (.lload 9, 2) := by decide +kernel
theorem dL_areFar_193 : decode cL_areFar 193 = .ok (.lmul, 1) := by decide +kernel
theorem dL_areFar_194 : decode cL_areFar 194 = .ok (.lcmp, 1) := by decide +kernel
theorem dL_areFar_195 : decode cL_areFar 195 = .ok (.ifCond .gt 7, 3) := by decide +kernel
theorem dL_areFar_198 : decode cL_areFar 198 = .ok (.iconst 1, 1) := by decide +kernel
theorem dL_areFar_199 : decode cL_areFar 199 = .ok (.goto 4, 3) := by decide +kernel
theorem dL_areFar_202 : decode cL_areFar 202 = .ok (.iconst 0, 1) := by decide +kernel
theorem dL_areFar_203 : decode cL_areFar 203 = .ok (.istore 11, 2) := by decide +kernel
theorem dL_areFar_205 : decode cL_areFar 205 = .ok (.lconst 0, 1) := by decide +kernel
theorem dL_areFar_206 : decode cL_areFar 206 = .ok (.lstore 12, 2) := by decide +kernel
theorem dL_areFar_208 : decode cL_areFar 208 = .ok (.lconst 0, 1) := by decide +kernel
theorem dL_areFar_209 : decode cL_areFar 209 = .ok (.lstore 14, 2) := by decide +kernel
theorem dL_areFar_211 : decode cL_areFar 211 = .ok (.iconst 0, 1) := by decide +kernel
theorem dL_areFar_212 : decode cL_areFar 212 = .ok (.istore 16, 2) := by decide +kernel
theorem dL_areFar_214 : decode cL_areFar 214 = .ok (.iload 16, 2) := by decide +kernel
theorem dL_areFar_216 : decode cL_areFar 216 = .ok (.aload_n 2, 1) := by decide +kernel
theorem dL_areFar_217 : decode cL_areFar 217 = .ok (.iconst 0, 1) := by decide +kernel
theorem dL_areFar_218 : decode cL_areFar 218 = .ok (.iaload, 1) := by decide +kernel
theorem dL_areFar_219 : decode cL_areFar 219 = .ok (.if_icmp .ge 37, 3) := by decide +kernel
theorem dL_areFar_222 : decode cL_areFar 222 = .ok (.lload 12, 2) := by decide +kernel
theorem dL_areFar_224 : decode cL_areFar 224 = .ok (.aload_n 0, 1) := by decide +kernel
theorem dL_areFar_225 : decode cL_areFar 225 = .ok (.iload 5, 2) := by decide +kernel
theorem dL_areFar_227 : decode cL_areFar 227 = .ok (.iload 16, 2) := by decide +kernel
theorem dL_areFar_229 : decode cL_areFar 229 = .ok (.invokevirtual 40, 3) := by decide +kernel
theorem dL_areFar_232 : decode cL_areFar 232 = .ok (.ladd, 1) := by decide +kernel
theorem dL_areFar_233 : decode cL_areFar 233 = .ok (.lstore 12, 2) := by decide +kernel
theorem dL_areFar_235 : decode cL_areFar 235 = .ok (.lload 14, 2) := by decide +kernel
theorem dL_areFar_237 : decode cL_areFar 237 = .ok (.aload_n 0, 1) := by decide +kernel
theorem dL_areFar_238 : decode cL_areFar 238 = .ok (.iload 5, 2) := by decide +kernel
theorem dL_areFar_240 : decode cL_areFar 240 = .ok (.iconst 1, 1) := by decide +kernel
theorem dL_areFar_241 : decode cL_areFar 241 = .ok (.iadd, 1) := by decide +kernel
theorem dL_areFar_242 : decode cL_areFar 242 = .ok (.iload 16, 2) := by decide +kernel
theorem dL_areFar_244 : decode cL_areFar 244 = .ok (.invokevirtual 40, 3) := by decide +kernel
theorem dL_areFar_247 : decode cL_areFar 247 = .ok (.ladd, 1) := by decide +kernel
theorem dL_areFar_248 : decode cL_areFar 248 = .ok (.lstore 14, 2) := by decide +kernel
theorem dL_areFar_250 : decode cL_areFar 250 = .ok (.iinc 16 1, 3) := by decide +kernel
theorem dL_areFar_253 : decode cL_areFar 253 = .ok (.goto (-39), 3) := by decide +kernel
theorem dL_areFar_256 : decode cL_areFar 256 = .ok (.iload 11, 2) := by decide +kernel
theorem dL_areFar_258 : decode cL_areFar 258 = .ok (.ifCond .eq 138, 3) := by decide +kernel
theorem dL_areFar_261 : decode cL_areFar 261 = .ok (.lload 12, 2) := by decide +kernel
theorem dL_areFar_263 : decode cL_areFar 263 = .ok (.aload_n 0, 1) := by decide +kernel
theorem dL_areFar_264 : decode cL_areFar 264 = .ok (.iload 5, 2) := by decide +kernel
theorem dL_areFar_266 : decode cL_areFar 266 = .ok (.invokevirtual 23, 3) := by decide +kernel
theorem dL_areFar_269 : decode cL_areFar 269 = .ok (.lload 9, 2) := by decide +kernel
theorem dL_areFar_271 : decode cL_areFar 271 = .ok (.lsub, 1) := by decide +kernel
theorem dL_areFar_272 : decode cL_areFar 272 = .ok (.lcmp, 1) := by decide +kernel
theorem dL_areFar_273 : decode cL_areFar 273 = .ok (.ifCond .gt 123, 3) := by decide +kernel
theorem dL_areFar_276 : decode cL_areFar 276 = .ok (.lload 14, 2) := by decide +kernel
theorem dL_areFar_278 : decode cL_areFar 278 = .ok (.aload_n 2, 1) := by decide +kernel
theorem dL_areFar_279 : decode cL_areFar 279 = .ok (.iconst 1, 1) := by decide +kernel
theorem dL_areFar_280 : decode cL_areFar 280 = .ok (.iaload, 1) := by decide +kernel
theorem dL_areFar_281 : decode cL_areFar 281 = .ok (.i2l, 1) := by decide +kernel
theorem dL_areFar_282 : decode cL_areFar 282 = .ok (.lload 12, 2) := by decide +kernel
theorem dL_areFar_284 : decode cL_areFar 284 = .ok (.lmul, 1) := by decide +kernel
theorem dL_areFar_285 : decode cL_areFar 285 = .ok (.lcmp, 1) := by decide +kernel
theorem dL_areFar_286 : decode cL_areFar 286 = .ok (.ifCond .lt 110, 3) := by decide +kernel
theorem dL_areFar_289 : decode cL_areFar 289 = .ok (.aload_n 0, 1) := by decide +kernel
theorem dL_areFar_290 : decode cL_areFar 290 = .ok (.iload_n 3, 1) := by decide +kernel
theorem dL_areFar_291 : decode cL_areFar 291 = .ok (.iload 5, 2) := by decide +kernel
theorem dL_areFar_293 : decode cL_areFar 293 = .ok (.iload 4, 2) := by decide +kernel
theorem dL_areFar_295 : decode cL_areFar 295 = .ok (.invokevirtual 44, 3) := by decide +kernel
theorem dL_areFar_298 : decode cL_areFar 298 = .ok (.aload_n 0, 1) := by decide +kernel
theorem dL_areFar_299 : decode cL_areFar 299 = .ok (.iload_n 3, 1) := by decide +kernel
theorem dL_areFar_300 : decode cL_areFar 300 = .ok (.iload 5, 2) := by decide +kernel
theorem dL_areFar_302 : decode cL_areFar 302 = .ok (.iload 4, 2) := by decide +kernel
theorem dL_areFar_304 : decode cL_areFar 304 = .ok (.invokevirtual 16, 3) := by decide +kernel
theorem dL_areFar_307 : decode cL_areFar 307 = .ok (.lcmp, 1) := by decide +kernel
theorem dL_areFar_308 : decode cL_areFar 308 = .ok (.ifCond .lt 88, 3) := by decide +kernel
theorem dL_areFar_311 : decode cL_areFar 311 = .ok (.aload_n 0, 1) := by decide +kernel
theorem dL_areFar_312 : decode cL_areFar 312 = .ok (.iload_n 3, 1) := by decide +kernel
theorem dL_areFar_313 : decode cL_areFar 313 = .ok (.iload 5, 2) := by decide +kernel
theorem dL_areFar_315 : decode cL_areFar 315 = .ok (.iconst 1, 1) := by decide +kernel
theorem dL_areFar_316 : decode cL_areFar 316 = .ok (.iadd, 1) := by decide +kernel
theorem dL_areFar_317 : decode cL_areFar 317 = .ok (.iload 4, 2) := by decide +kernel
theorem dL_areFar_319 : decode cL_areFar 319 = .ok (.invokevirtual 44, 3) := by decide +kernel
theorem dL_areFar_322 : decode cL_areFar 322 = .ok (.aload_n 2, 1) := by decide +kernel
theorem dL_areFar_323 : decode cL_areFar 323 = .ok (.iconst 1, 1) := by decide +kernel
theorem dL_areFar_324 : decode cL_areFar 324 = .ok (.iaload, 1) := by decide +kernel
theorem dL_areFar_325 : decode cL_areFar 325 = .ok (.i2l, 1) := by decide +kernel
theorem dL_areFar_326 : decode cL_areFar 326 = .ok (.aload_n 0, 1) := by decide +kernel
theorem dL_areFar_327 : decode cL_areFar 327 = .ok (.iload_n 3, 1) := by decide +kernel
theorem dL_areFar_328 : decode cL_areFar 328 = .ok (.iload 5, 2) := by decide +kernel
theorem dL_areFar_330 : decode cL_areFar 330 = .ok (.iload 4, 2) := by decide +kernel
theorem dL_areFar_332 : decode cL_areFar 332 = .ok (.invokevirtual 44, 3) := by decide +kernel
theorem dL_areFar_335 : decode cL_areFar 335 = .ok (.lmul, 1) := by decide +kernel
theorem dL_areFar_336 : decode cL_areFar 336 = .ok (.lcmp, 1) := by decide +kernel
theorem dL_areFar_337 : decode cL_areFar 337 = .ok (.ifCond .lt 59, 3) := by decide +kernel
theorem dL_areFar_340 : decode cL_areFar 340 = .ok (.iload_n 3, 1) := by decide +kernel
theorem dL_areFar_341 : decode cL_areFar 341 = .ok (.iload 4, 2) := by decide +kernel
theorem dL_areFar_343 : decode cL_areFar 343 = .ok (.if_icmp .ne 21, 3) := by decide +kernel
theorem dL_areFar_346 : decode cL_areFar 346 = .ok (.aload_n 0, 1) := by decide +kernel
theorem dL_areFar_347 : decode cL_areFar 347 = .ok (.iload_n 3, 1) := by decide +kernel
theorem dL_areFar_348 : decode cL_areFar 348 = .ok (.iload 5, 2) := by decide +kernel
theorem dL_areFar_350 : decode cL_areFar 350 = .ok (.iload_n 3, 1) := by decide +kernel
theorem dL_areFar_351 : decode cL_areFar 351 = .ok (.invokevirtual 44, 3) := by decide +kernel
theorem dL_areFar_354 : decode cL_areFar 354 = .ok (.aload_n 0, 1) := by decide +kernel
theorem dL_areFar_355 : decode cL_areFar 355 = .ok (.iload 5, 2) := by decide +kernel
theorem dL_areFar_357 : decode cL_areFar 357 = .ok (.invokevirtual 23, 3) := by decide +kernel
theorem dL_areFar_360 : decode cL_areFar 360 = .ok (.lcmp, 1) := by decide +kernel
theorem dL_areFar_361 : decode cL_areFar 361 = .ok (.ifCond .ne 35, 3) := by decide +kernel
theorem dL_areFar_364 : decode cL_areFar 364 = .ok (.aload_n 0, 1) := by decide +kernel
theorem dL_areFar_365 : decode cL_areFar 365 = .ok (.iload_n 3, 1) := by decide +kernel
theorem dL_areFar_366 : decode cL_areFar 366 = .ok (.iload 5, 2) := by decide +kernel
theorem dL_areFar_368 : decode cL_areFar 368 = .ok (.iload 4, 2) := by decide +kernel
theorem dL_areFar_370 : decode cL_areFar 370 = .ok (.invokevirtual 44, 3) := by decide +kernel
theorem dL_areFar_373 : decode cL_areFar 373 = .ok (.lconst 0, 1) := by decide +kernel
theorem dL_areFar_374 : decode cL_areFar 374 = .ok (.lcmp, 1) := by decide +kernel
theorem dL_areFar_375 : decode cL_areFar 375 = .ok (.ifCond .eq 17, 3) := by decide +kernel
theorem dL_areFar_378 : decode cL_areFar 378 = .ok (.aload_n 0, 1) := by decide +kernel
theorem dL_areFar_379 : decode cL_areFar 379 = .ok (.iload_n 3, 1) := by decide +kernel
theorem dL_areFar_380 : decode cL_areFar 380 = .ok (.invokevirtual 27, 3) := by decide +kernel
theorem dL_areFar_383 : decode cL_areFar 383 = .ok (.iload 4, 2) := by decide +kernel
theorem dL_areFar_385 : decode cL_areFar 385 = .ok (.ishr, 1) := by decide +kernel
theorem dL_areFar_386 : decode cL_areFar 386 = .ok (.iconst 1, 1) := by decide +kernel
theorem dL_areFar_387 : decode cL_areFar 387 = .ok (.iand, 1) := by decide +kernel
theorem dL_areFar_388 : decode cL_areFar 388 = .ok (.iconst 1, 1) := by decide +kernel
theorem dL_areFar_389 : decode cL_areFar 389 = .ok (.if_icmp .ne 7, 3) := by decide +kernel
theorem dL_areFar_392 : decode cL_areFar 392 = .ok (.iconst 1, 1) := by decide +kernel
theorem dL_areFar_393 : decode cL_areFar 393 = .ok (.goto 4, 3) := by decide +kernel
theorem dL_areFar_396 : decode cL_areFar 396 = .ok (.iconst 0, 1) := by decide +kernel
theorem dL_areFar_397 : decode cL_areFar 397 = .ok (.ireturn, 1) := by decide +kernel
set_option maxRecDepth 20000 in
theorem ggL_isMixed_X8_mixing : GoodIn wsL_isMixed wsX8_mixing := goodIn_ca (goodIn_r _ [6, 7, 8, 9, 5, 10, 11, 12, 13, 14, 15, 16, 17, 18, 19, 20, 21, 22, 23, 24, 25, 26, 27, 28, 29, 30, 31, 32, 33, 34, 35, 36, 37, 38, 39, 40, 41, 42, 43, 44, 45, 46, 65, 66, 67, 68, 69, 70, 71, 72, 73, 74, 75, 76, 77, 78, 79] (by decide +kernel) (by decide +kernel)) (goodIn_sub (fun _ h => List.mem_cons_of_mem _ (List.mem_append_left _ (List.mem_append_right _ h))) (by decide +kernel))
set_option maxRecDepth 20000 in
theorem gL_isMixed_X8_mixing : GoodIn wsL_isMixed (wsV RL 47 RX8 yX8_mixing wsX8_mixing) := goodIn_app (goodIn_of _ (by decide +kernel)) ggL_isMixed_X8_mixing
set_option maxRecDepth 20000 in
theorem ggL_isMixed_X8_distance : GoodIn wsL_isMixed wsX8_distance := goodIn_ca (goodIn_ca (goodIn_r _ [50, 7, 51, 52, 53, 5, 54, 55, 56, 57, 58, 8, 9, 10, 11, 12, 13, 14, 15, 16, 17, 18, 19, 20, 21, 22, 23, 24, 25, 26, 27, 59, 40, 41, 42, 43, 44, 45, 46, 65, 66, 67, 68, 69, 70, 71, 72, 76, 77, 78, 79, 73, 74, 75] (by decide +kernel) (by decide +kernel)) (goodIn_sub (fun _ h => List.mem_cons_of_mem _ (List.mem_append_right _ h)) (by decide +kernel))) (goodIn_sub (fun _ h => List.mem_cons_of_mem _ (List.mem_append_left _ (List.mem_append_right _ h))) (by decide +kernel))
set_option maxRecDepth 20000 in
theorem gL_isMixed_X8_distance : GoodIn wsL_isMixed (wsV RL 34 RX8 yX8_distance wsX8_distance) := goodIn_app (goodIn_of _ (by decide +kernel)) ggL_isMixed_X8_distance
set_option maxRecDepth 20000 in
theorem ggL_isMixed_X8_words : GoodIn wsL_isMixed wsX8_words := goodIn_ca (goodIn_r _ [63, 57, 8, 9, 5, 10, 11, 12, 64, 34, 35, 36, 37, 38, 65, 66, 67, 68, 69, 70, 71, 72, 76, 77, 78, 79] (by decide +kernel) (by decide +kernel)) (goodIn_sub (fun _ h => List.mem_cons_of_mem _ (List.mem_append_left _ (List.mem_append_right _ h))) (by decide +kernel))
set_option maxRecDepth 20000 in
theorem gL_isMixed_X8_words : GoodIn wsL_isMixed (wsV RL 23 RX8 yX8_words wsX8_words) := goodIn_app (goodIn_of _ (by decide +kernel)) ggL_isMixed_X8_words
theorem dL_isMixed_0 : decode cL_isMixed 0 = .ok (.aload_n 0, 1) := by decide +kernel
theorem dL_isMixed_1 : decode cL_isMixed 1 = .ok (.iload_n 1, 1) := by decide +kernel
theorem dL_isMixed_2 : decode cL_isMixed 2 = .ok (.invokevirtual 47, 3) := by decide +kernel
theorem dL_isMixed_5 : decode cL_isMixed 5 = .ok (.istore_n 3, 1) := by decide +kernel
theorem dL_isMixed_6 : decode cL_isMixed 6 = .ok (.iload_n 3, 1) := by decide +kernel
theorem dL_isMixed_7 : decode cL_isMixed 7 = .ok (.iconst (-1), 1) := by decide +kernel
theorem dL_isMixed_8 : decode cL_isMixed 8 = .ok (.if_icmp .lt 42, 3) := by decide +kernel
theorem dL_isMixed_11 : decode cL_isMixed 11 = .ok (.iload_n 3, 1) := by decide +kernel
theorem dL_isMixed_12 : decode cL_isMixed 12 = .ok (.bipush 12, 2) := by decide +kernel
theorem dL_isMixed_14 : decode cL_isMixed 14 = .ok (.if_icmp .gt 36, 3) := by decide +kernel
theorem dL_isMixed_17 : decode cL_isMixed 17 = .ok (.iload_n 1, 1) := by decide +kernel
theorem dL_isMixed_18 : decode cL_isMixed 18 = .ok (.ifCond .eq 28, 3) := by decide +kernel
theorem dL_isMixed_21 : decode cL_isMixed 21 = .ok (.iload_n 3, 1) := by decide +kernel
theorem dL_isMixed_22 : decode cL_isMixed 22 = .ok (.ifCond .lt 24, 3) := by decide +kernel
theorem dL_isMixed_25 : decode cL_isMixed 25 = .ok (.aload_n 0, 1) := by decide +kernel
theorem dL_isMixed_26 : decode cL_isMixed 26 = .ok (.iload_n 1, 1) := by decide +kernel
theorem dL_isMixed_27 : decode cL_isMixed 27 = .ok (.iconst 1, 1) := by decide +kernel
theorem dL_isMixed_28 : decode cL_isMixed 28 = .ok (.isub, 1) := by decide +kernel
theorem dL_isMixed_29 : decode cL_isMixed 29 = .ok (.invokevirtual 47, 3) := by decide +kernel
theorem dL_isMixed_32 : decode cL_isMixed 32 = .ok (.ifCond .lt 14, 3) := by decide +kernel
theorem dL_isMixed_35 : decode cL_isMixed 35 = .ok (.aload_n 0, 1) := by decide +kernel
theorem dL_isMixed_36 : decode cL_isMixed 36 = .ok (.iload_n 1, 1) := by decide +kernel
theorem dL_isMixed_37 : decode cL_isMixed 37 = .ok (.iconst 1, 1) := by decide +kernel
theorem dL_isMixed_38 : decode cL_isMixed 38 = .ok (.isub, 1) := by decide +kernel
theorem dL_isMixed_39 : decode cL_isMixed 39 = .ok (.invokevirtual 47, 3) := by decide +kernel
theorem dL_isMixed_42 : decode cL_isMixed 42 = .ok (.iload_n 3, 1) := by decide +kernel
theorem dL_isMixed_43 : decode cL_isMixed 43 = .ok (.if_icmp .lt 7, 3) := by decide +kernel
theorem dL_isMixed_46 : decode cL_isMixed 46 = .ok (.iconst 1, 1) := by decide +kernel
theorem dL_isMixed_47 : decode cL_isMixed 47 = .ok (.goto 4, 3) := by decide +kernel
theorem dL_isMixed_50 : decode cL_isMixed 50 = .ok (.iconst 0, 1) := by decide +kernel
theorem dL_isMixed_51 : decode cL_isMixed 51 = .ok (.istore 4, 2) := by decide +kernel
theorem dL_isMixed_53 : decode cL_isMixed 53 = .ok (.lconst 0, 1) := by decide +kernel
theorem dL_isMixed_54 : decode cL_isMixed 54 = .ok (.lstore 5, 2) := by decide +kernel
theorem dL_isMixed_56 : decode cL_isMixed 56 = .ok (.iconst 0, 1) := by decide +kernel
theorem dL_isMixed_57 : decode cL_isMixed 57 = .ok (.istore 7, 2) := by decide +kernel
theorem dL_isMixed_59 : decode cL_isMixed 59 = .ok (.iload 7, 2) := by decide +kernel
theorem dL_isMixed_61 : decode cL_isMixed 61 = .ok (.aload_n 2, 1) := by decide +kernel
theorem dL_isMixed_62 : decode cL_isMixed 62 = .ok (.iconst 0, 1) := by decide +kernel
theorem dL_isMixed_63 : decode cL_isMixed 63 = .ok (.iaload, 1) := by decide +kernel
theorem dL_isMixed_64 : decode cL_isMixed 64 = .ok (.if_icmp .ge 62, 3) := by decide +kernel
theorem dL_isMixed_67 : decode cL_isMixed 67 = .ok (.iconst 0, 1) := by decide +kernel
theorem dL_isMixed_68 : decode cL_isMixed 68 = .ok (.istore 8, 2) := by decide +kernel
theorem dL_isMixed_70 : decode cL_isMixed 70 = .ok (.iload 8, 2) := by decide +kernel
theorem dL_isMixed_72 : decode cL_isMixed 72 = .ok (.iload 7, 2) := by decide +kernel
theorem dL_isMixed_74 : decode cL_isMixed 74 = .ok (.if_icmp .ge 46, 3) := by decide +kernel
theorem dL_isMixed_77 : decode cL_isMixed 77 = .ok (.aload_n 0, 1) := by decide +kernel
theorem dL_isMixed_78 : decode cL_isMixed 78 = .ok (.iload 7, 2) := by decide +kernel
theorem dL_isMixed_80 : decode cL_isMixed 80 = .ok (.iload 8, 2) := by decide +kernel
theorem dL_isMixed_82 : decode cL_isMixed 82 = .ok (.iload_n 3, 1) := by decide +kernel
theorem dL_isMixed_83 : decode cL_isMixed 83 = .ok (.ifCond .ge 8, 3) := by decide +kernel
theorem dL_isMixed_86 : decode cL_isMixed 86 = .ok (.bipush 12, 2) := by decide +kernel
theorem dL_isMixed_88 : decode cL_isMixed 88 = .ok (.goto 4, 3) := by decide +kernel
theorem dL_isMixed_91 : decode cL_isMixed 91 = .ok (.iload_n 3, 1) := by decide +kernel
theorem dL_isMixed_92 : decode cL_isMixed 92 = .ok (.invokevirtual 34, 3) := by decide +kernel
theorem dL_isMixed_95 : decode cL_isMixed 95 = .ok (.lstore 9, 2) := by decide +kernel
theorem dL_isMixed_97 : decode cL_isMixed 97 = .ok (.lload 9, 2) := by decide +kernel
theorem dL_isMixed_99 : decode cL_isMixed 99 = .ok (.lload 5, 2) := by decide +kernel
theorem dL_isMixed_101 : decode cL_isMixed 101 = .ok (.lcmp, 1) := by decide +kernel
theorem dL_isMixed_102 : decode cL_isMixed 102 = .ok (.ifCond .le 8, 3) := by decide +kernel
theorem dL_isMixed_105 : decode cL_isMixed 105 = .ok (.lload 9, 2) := by decide +kernel
theorem dL_isMixed_107 : decode cL_isMixed 107 = .ok (.goto 5, 3) := by decide +kernel
theorem dL_isMixed_110 : decode cL_isMixed 110 = .ok (.lload 5, 2) := by decide +kernel
theorem dL_isMixed_112 : decode cL_isMixed 112 = .ok (.lstore 5, 2) := by decide +kernel
theorem dL_isMixed_114 : decode cL_isMixed 114 = .ok (.iinc 8 1, 3) := by decide +kernel
theorem dL_isMixed_117 : decode cL_isMixed 117 = .ok (.goto (-47), 3) := by decide +kernel
theorem dL_isMixed_120 : decode cL_isMixed 120 = .ok (.iinc 7 1, 3) := by decide +kernel
theorem dL_isMixed_123 : decode cL_isMixed 123 = .ok (.goto (-64), 3) := by decide +kernel
theorem dL_isMixed_126 : decode cL_isMixed 126 = .ok (.iload 4, 2) := by decide +kernel
theorem dL_isMixed_128 : decode cL_isMixed 128 = .ok (.ifCond .eq 51, 3) := by decide +kernel
theorem dL_isMixed_131 : decode cL_isMixed 131 = .ok (.ldc2_w 50, 3) := by decide +kernel
theorem dL_isMixed_134 : decode cL_isMixed 134 = .ok (.lload 5, 2) := by decide +kernel
theorem dL_isMixed_136 : decode cL_isMixed 136 = .ok (.lmul, 1) := by decide +kernel
theorem dL_isMixed_137 : decode cL_isMixed 137 = .ok (.iload_n 1, 1) := by decide +kernel
theorem dL_isMixed_138 : decode cL_isMixed 138 = .ok (.i2l, 1) := by decide +kernel
theorem dL_isMixed_139 : decode cL_isMixed 139 = .ok (.aload_n 0, 1) := by decide +kernel
theorem dL_isMixed_140 : decode cL_isMixed 140 = .ok (.iload_n 3, 1) := by decide +kernel
theorem dL_isMixed_141 : decode cL_isMixed 141 = .ok (.ifCond .ge 8, 3) := by decide +kernel
theorem dL_isMixed_144 : decode cL_isMixed 144 = .ok (.bipush 12, 2) := by decide +kernel
theorem dL_isMixed_146 : decode cL_isMixed 146 = .ok (.goto 4, 3) := by decide +kernel
theorem dL_isMixed_149 : decode cL_isMixed 149 = .ok (.iload_n 3, 1) := by decide +kernel
theorem dL_isMixed_150 : decode cL_isMixed 150 = .ok (.invokevirtual 23, 3) := by decide +kernel
theorem dL_isMixed_153 : decode cL_isMixed 153 = .ok (.lmul, 1) := by decide +kernel
theorem dL_isMixed_154 : decode cL_isMixed 154 = .ok (.lcmp, 1) := by decide +kernel
theorem dL_isMixed_155 : decode cL_isMixed 155 = .ok (.ifCond .gt 7, 3) := by decide +kernel
theorem dL_isMixed_158 : decode cL_isMixed 158 = .ok (.iconst 1, 1) := by decide +kernel
theorem dL_isMixed_159 : decode cL_isMixed 159 = .ok (.goto 4, 3) := by decide +kernel
theorem dL_isMixed_162 : decode cL_isMixed 162 = .ok (.iconst 0, 1) := by decide +kernel
theorem dL_isMixed_163 : decode cL_isMixed 163 = .ok (.iload_n 3, 1) := by decide +kernel
theorem dL_isMixed_164 : decode cL_isMixed 164 = .ok (.ifCond .lt 7, 3) := by decide +kernel
theorem dL_isMixed_167 : decode cL_isMixed 167 = .ok (.iconst 1, 1) := by decide +kernel
theorem dL_isMixed_168 : decode cL_isMixed 168 = .ok (.goto 4, 3) := by decide +kernel
theorem dL_isMixed_171 : decode cL_isMixed 171 = .ok (.iconst 0, 1) := by decide +kernel
theorem dL_isMixed_172 : decode cL_isMixed 172 = .ok (.if_icmp .ne 7, 3) := by decide +kernel
theorem dL_isMixed_175 : decode cL_isMixed 175 = .ok (.iconst 1, 1) := by decide +kernel
theorem dL_isMixed_176 : decode cL_isMixed 176 = .ok (.goto 4, 3) := by decide +kernel
theorem dL_isMixed_179 : decode cL_isMixed 179 = .ok (.iconst 0, 1) := by decide +kernel
theorem dL_isMixed_180 : decode cL_isMixed 180 = .ok (.ireturn, 1) := by decide +kernel
set_option maxRecDepth 20000 in
theorem ggL_areRests_X8_reach : GoodIn wsL_areRests wsX8_reach := goodIn_ca (goodIn_r _ [5, 6, 7, 8, 9, 4, 10, 11, 12, 13, 14, 15, 16, 17, 18, 19, 20, 21, 22, 23, 24, 25, 26, 105, 106, 107, 108, 109, 110, 111, 112, 113, 114, 115, 116, 117] (by decide +kernel) (by decide +kernel)) (goodIn_sub (fun _ h => List.mem_cons_of_mem _ (List.mem_append_left _ (List.mem_append_right _ h))) (by decide +kernel))
set_option maxRecDepth 20000 in
theorem gL_areRests_X8_reach : GoodIn wsL_areRests (wsV RL 27 RX8 yX8_reach wsX8_reach) := goodIn_app (goodIn_of _ (by decide +kernel)) ggL_areRests_X8_reach
set_option maxRecDepth 20000 in
theorem ggL_areRests_X8_rest : GoodIn wsL_areRests wsX8_rest := goodIn_ca (goodIn_r _ [30, 31, 32, 33, 34, 35, 36, 37, 38, 39, 40, 41, 42, 43, 44, 45, 46, 47, 48, 49, 50, 51, 52, 53, 54, 55, 56, 57, 58, 59, 60, 61, 62, 63, 64, 65, 66, 67, 68, 69, 70, 7, 8, 9, 4, 10, 11, 12, 13, 14, 71, 105, 106, 107, 108, 109, 110, 111, 112, 118, 119, 120, 121, 113, 114, 115, 116] (by decide +kernel) (by decide +kernel)) (goodIn_sub (fun _ h => List.mem_cons_of_mem _ (List.mem_append_left _ (List.mem_append_right _ h))) (by decide +kernel))
set_option maxRecDepth 20000 in
theorem gL_areRests_X8_rest : GoodIn wsL_areRests (wsV RL 52 RX8 yX8_rest wsX8_rest) := goodIn_app (goodIn_of _ (by decide +kernel)) ggL_areRests_X8_rest
set_option maxRecDepth 20000 in
theorem ggL_areRests_X8_weight : GoodIn wsL_areRests wsX8_weight := goodIn_ca (goodIn_r _ [75, 13, 76, 7, 8, 9, 4, 10, 11, 12, 14, 105, 106, 107, 108, 109, 110, 111, 112, 113, 114, 115, 116] (by decide +kernel) (by decide +kernel)) (goodIn_sub (fun _ h => List.mem_cons_of_mem _ (List.mem_append_left _ (List.mem_append_right _ h))) (by decide +kernel))
set_option maxRecDepth 20000 in
theorem gL_areRests_X8_weight : GoodIn wsL_areRests (wsV RL 10 RX8 yX8_weight wsX8_weight) := goodIn_app (goodIn_of _ (by decide +kernel)) ggL_areRests_X8_weight
set_option maxRecDepth 20000 in
theorem ggL_areRests_X8_closed : GoodIn wsL_areRests wsX8_closed := goodIn_r _ [80, 6, 81, 82, 83, 18, 84, 20, 21, 85, 86, 87, 88, 89, 16, 17, 19, 22, 23, 24, 25, 26, 105, 106, 107, 108, 109, 110, 111, 112, 117, 113, 114, 115, 116] (by decide +kernel) (by decide +kernel)
set_option maxRecDepth 20000 in
theorem gL_areRests_X8_closed : GoodIn wsL_areRests (wsV RL 55 RX8 yX8_closed wsX8_closed) := goodIn_app (goodIn_of _ (by decide +kernel)) ggL_areRests_X8_closed
set_option maxRecDepth 20000 in
theorem ggL_areRests_X8_ranked : GoodIn wsL_areRests wsX8_ranked := goodIn_ca (goodIn_r _ [93, 11, 12, 31, 13, 14, 94, 41, 42, 35, 43, 37, 38, 39, 44, 45, 46, 47, 48, 49, 50, 51, 52, 53, 54, 55, 56, 57, 58, 59, 60, 61, 62, 63, 64, 65, 66, 67, 68, 69, 70, 95, 96, 97, 98, 105, 106, 107, 108, 109, 110, 111, 112, 113, 114, 115, 116, 118, 119, 120, 121] (by decide +kernel) (by decide +kernel)) (goodIn_sub (fun _ h => List.mem_cons_of_mem _ (List.mem_append_left _ (List.mem_append_right _ h))) (by decide +kernel))
set_option maxRecDepth 20000 in
theorem gL_areRests_X8_ranked : GoodIn wsL_areRests (wsV RL 59 RX8 yX8_ranked wsX8_ranked) := goodIn_app (goodIn_of _ (by decide +kernel)) ggL_areRests_X8_ranked
set_option maxRecDepth 20000 in
theorem ggL_areRests_X8_share : GoodIn wsL_areRests wsX8_share := goodIn_ca (goodIn_ca (goodIn_r _ [102, 103, 104, 31, 7, 8, 9, 4, 10, 11, 12, 13, 14, 32, 33, 34, 35, 36, 37, 38, 39, 40, 41, 42, 43, 44, 45, 46, 47, 48, 49, 50, 51, 52, 53, 54, 55, 56, 57, 58, 59, 60, 61, 62, 63, 64, 65, 66, 67, 68, 69, 70, 71, 105, 106, 107, 108, 109, 110, 111, 112, 113, 114, 115, 116, 118, 119, 120, 121] (by decide +kernel) (by decide +kernel)) (goodIn_sub (fun _ h => List.mem_cons_of_mem _ (List.mem_append_right _ h)) (by decide +kernel))) (goodIn_sub (fun _ h => List.mem_cons_of_mem _ (List.mem_append_left _ (List.mem_append_right _ h))) (by decide +kernel))
set_option maxRecDepth 20000 in
theorem gL_areRests_X8_share : GoodIn wsL_areRests (wsV RL 62 RX8 yX8_share wsX8_share) := goodIn_app (goodIn_of _ (by decide +kernel)) ggL_areRests_X8_share
theorem dL_areRests_0 : decode cL_areRests 0 = .ok (.lconst 0, 1) := by decide +kernel
theorem dL_areRests_1 : decode cL_areRests 1 = .ok (.lstore_n 2, 1) := by decide +kernel
theorem dL_areRests_2 : decode cL_areRests 2 = .ok (.iconst 0, 1) := by decide +kernel
theorem dL_areRests_3 : decode cL_areRests 3 = .ok (.istore 4, 2) := by decide +kernel
theorem dL_areRests_5 : decode cL_areRests 5 = .ok (.iconst 1, 1) := by decide +kernel
theorem dL_areRests_6 : decode cL_areRests 6 = .ok (.istore 5, 2) := by decide +kernel
theorem dL_areRests_8 : decode cL_areRests 8 = .ok (.iconst 0, 1) := by decide +kernel
theorem dL_areRests_9 : decode cL_areRests 9 = .ok (.istore 6, 2) := by decide +kernel
theorem dL_areRests_11 : decode cL_areRests 11 = .ok (.iload 6, 2) := by decide +kernel
theorem dL_areRests_13 : decode cL_areRests 13 = .ok (.aload_n 1, 1) := by decide +kernel
theorem dL_areRests_14 : decode cL_areRests 14 = .ok (.iconst 0, 1) := by decide +kernel
theorem dL_areRests_15 : decode cL_areRests 15 = .ok (.iaload, 1) := by decide +kernel
theorem dL_areRests_16 : decode cL_areRests 16 = .ok (.if_icmp .ge 215, 3) := by decide +kernel
theorem dL_areRests_19 : decode cL_areRests 19 = .ok (.iload 5, 2) := by decide +kernel
theorem dL_areRests_21 : decode cL_areRests 21 = .ok (.ifCond .eq 210, 3) := by decide +kernel
theorem dL_areRests_24 : decode cL_areRests 24 = .ok (.lconst 0, 1) := by decide +kernel
theorem dL_areRests_25 : decode cL_areRests 25 = .ok (.lstore 7, 2) := by decide +kernel
theorem dL_areRests_27 : decode cL_areRests 27 = .ok (.aload_n 0, 1) := by decide +kernel
theorem dL_areRests_28 : decode cL_areRests 28 = .ok (.iload 6, 2) := by decide +kernel
theorem dL_areRests_30 : decode cL_areRests 30 = .ok (.invokevirtual 27, 3) := by decide +kernel
theorem dL_areRests_33 : decode cL_areRests 33 = .ok (.istore 9, 2) := by decide +kernel
theorem dL_areRests_35 : decode cL_areRests 35 = .ok (.iconst 1, 1) := by decide +kernel
theorem dL_areRests_36 : decode cL_areRests 36 = .ok (.istore 10, 2) := by decide +kernel
theorem dL_areRests_38 : decode cL_areRests 38 = .ok (.aload_n 1, 1) := by decide +kernel
theorem dL_areRests_39 : decode cL_areRests 39 = .ok (.iconst 0, 1) := by decide +kernel
theorem dL_areRests_40 : decode cL_areRests 40 = .ok (.iaload, 1) := by decide +kernel
theorem dL_areRests_41 : decode cL_areRests 41 = .ok (.istore 11, 2) := by decide +kernel
theorem dL_areRests_43 : decode cL_areRests 43 = .ok (.iconst 0, 1) := by decide +kernel
theorem dL_areRests_44 : decode cL_areRests 44 = .ok (.istore 12, 2) := by decide +kernel
theorem dL_areRests_46 : decode cL_areRests 46 = .ok (.iload 12, 2) := by decide +kernel
theorem dL_areRests_48 : decode cL_areRests 48 = .ok (.aload_n 1, 1) := by decide +kernel
theorem dL_areRests_49 : decode cL_areRests 49 = .ok (.iconst 0, 1) := by decide +kernel
theorem dL_areRests_50 : decode cL_areRests 50 = .ok (.iaload, 1) := by decide +kernel
theorem dL_areRests_51 : decode cL_areRests 51 = .ok (.if_icmp .ge 97, 3) := by decide +kernel
theorem dL_areRests_54 : decode cL_areRests 54 = .ok (.iload 9, 2) := by decide +kernel
theorem dL_areRests_56 : decode cL_areRests 56 = .ok (.iload 12, 2) := by decide +kernel
theorem dL_areRests_58 : decode cL_areRests 58 = .ok (.ishr, 1) := by decide +kernel
theorem dL_areRests_59 : decode cL_areRests 59 = .ok (.iconst 1, 1) := by decide +kernel
theorem dL_areRests_60 : decode cL_areRests 60 = .ok (.iand, 1) := by decide +kernel
theorem dL_areRests_61 : decode cL_areRests 61 = .ok (.iconst 1, 1) := by decide +kernel
theorem dL_areRests_62 : decode cL_areRests 62 = .ok (.if_icmp .ne 7, 3) := by decide +kernel
theorem dL_areRests_65 : decode cL_areRests 65 = .ok (.iconst 1, 1) := by decide +kernel
theorem dL_areRests_66 : decode cL_areRests 66 = .ok (.goto 4, 3) := by decide +kernel
theorem dL_areRests_69 : decode cL_areRests 69 = .ok (.iconst 0, 1) := by decide +kernel
theorem dL_areRests_70 : decode cL_areRests 70 = .ok (.istore 13, 2) := by decide +kernel
theorem dL_areRests_72 : decode cL_areRests 72 = .ok (.lload 7, 2) := by decide +kernel
theorem dL_areRests_74 : decode cL_areRests 74 = .ok (.aload_n 0, 1) := by decide +kernel
theorem dL_areRests_75 : decode cL_areRests 75 = .ok (.iload 12, 2) := by decide +kernel
theorem dL_areRests_77 : decode cL_areRests 77 = .ok (.invokevirtual 52, 3) := by decide +kernel
theorem dL_areRests_80 : decode cL_areRests 80 = .ok (.aload_n 0, 1) := by decide +kernel
theorem dL_areRests_81 : decode cL_areRests 81 = .ok (.iload 12, 2) := by decide +kernel
theorem dL_areRests_83 : decode cL_areRests 83 = .ok (.iload 6, 2) := by decide +kernel
theorem dL_areRests_85 : decode cL_areRests 85 = .ok (.invokevirtual 10, 3) := by decide +kernel
theorem dL_areRests_88 : decode cL_areRests 88 = .ok (.i2l, 1) := by decide +kernel
theorem dL_areRests_89 : decode cL_areRests 89 = .ok (.lmul, 1) := by decide +kernel
theorem dL_areRests_90 : decode cL_areRests 90 = .ok (.ladd, 1) := by decide +kernel
theorem dL_areRests_91 : decode cL_areRests 91 = .ok (.lstore 7, 2) := by decide +kernel
theorem dL_areRests_93 : decode cL_areRests 93 = .ok (.iload 10, 2) := by decide +kernel
theorem dL_areRests_95 : decode cL_areRests 95 = .ok (.ifCond .eq 23, 3) := by decide +kernel
theorem dL_areRests_98 : decode cL_areRests 98 = .ok (.iload 13, 2) := by decide +kernel
theorem dL_areRests_100 : decode cL_areRests 100 = .ok (.ifCond .eq 14, 3) := by decide +kernel
theorem dL_areRests_103 : decode cL_areRests 103 = .ok (.aload_n 0, 1) := by decide +kernel
theorem dL_areRests_104 : decode cL_areRests 104 = .ok (.iload 12, 2) := by decide +kernel
theorem dL_areRests_106 : decode cL_areRests 106 = .ok (.invokevirtual 27, 3) := by decide +kernel
theorem dL_areRests_109 : decode cL_areRests 109 = .ok (.iload 9, 2) := by decide +kernel
theorem dL_areRests_111 : decode cL_areRests 111 = .ok (.if_icmp .ne 7, 3) := by decide +kernel
theorem dL_areRests_114 : decode cL_areRests 114 = .ok (.iconst 1, 1) := by decide +kernel
theorem dL_areRests_115 : decode cL_areRests 115 = .ok (.goto 4, 3) := by decide +kernel
theorem dL_areRests_118 : decode cL_areRests 118 = .ok (.iconst 0, 1) := by decide +kernel
theorem dL_areRests_119 : decode cL_areRests 119 = .ok (.istore 10, 2) := by decide +kernel
theorem dL_areRests_121 : decode cL_areRests 121 = .ok (.iload 13, 2) := by decide +kernel
theorem dL_areRests_123 : decode cL_areRests 123 = .ok (.ifCond .eq 15, 3) := by decide +kernel
theorem dL_areRests_126 : decode cL_areRests 126 = .ok (.iload 12, 2) := by decide +kernel
theorem dL_areRests_128 : decode cL_areRests 128 = .ok (.iload 11, 2) := by decide +kernel
theorem dL_areRests_130 : decode cL_areRests 130 = .ok (.if_icmp .ge 8, 3) := by decide +kernel
theorem dL_areRests_133 : decode cL_areRests 133 = .ok (.iload 12, 2) := by decide +kernel
theorem dL_areRests_135 : decode cL_areRests 135 = .ok (.goto 5, 3) := by decide +kernel
theorem dL_areRests_138 : decode cL_areRests 138 = .ok (.iload 11, 2) := by decide +kernel
theorem dL_areRests_140 : decode cL_areRests 140 = .ok (.istore 11, 2) := by decide +kernel
theorem dL_areRests_142 : decode cL_areRests 142 = .ok (.iinc 12 1, 3) := by decide +kernel
theorem dL_areRests_145 : decode cL_areRests 145 = .ok (.goto (-99), 3) := by decide +kernel
theorem dL_areRests_148 : decode cL_areRests 148 = .ok (.lload_n 2, 1) := by decide +kernel
theorem dL_areRests_149 : decode cL_areRests 149 = .ok (.aload_n 0, 1) := by decide +kernel
theorem dL_areRests_150 : decode cL_areRests 150 = .ok (.iload 6, 2) := by decide +kernel
theorem dL_areRests_152 : decode cL_areRests 152 = .ok (.invokevirtual 52, 3) := by decide +kernel
theorem dL_areRests_155 : decode cL_areRests 155 = .ok (.ladd, 1) := by decide +kernel
theorem dL_areRests_156 : decode cL_areRests 156 = .ok (.lstore_n 2, 1) := by decide +kernel
theorem dL_areRests_157 : decode cL_areRests 157 = .ok (.iload 4, 2) := by decide +kernel
theorem dL_areRests_159 : decode cL_areRests 159 = .ok (.iload 10, 2) := by decide +kernel
theorem dL_areRests_161 : decode cL_areRests 161 = .ok (.ifCond .eq 14, 3) := by decide +kernel
theorem dL_areRests_164 : decode cL_areRests 164 = .ok (.iload 11, 2) := by decide +kernel
theorem dL_areRests_166 : decode cL_areRests 166 = .ok (.iload 6, 2) := by decide +kernel
theorem dL_areRests_168 : decode cL_areRests 168 = .ok (.if_icmp .ne 7, 3) := by decide +kernel
theorem dL_areRests_171 : decode cL_areRests 171 = .ok (.iconst 1, 1) := by decide +kernel
theorem dL_areRests_172 : decode cL_areRests 172 = .ok (.goto 4, 3) := by decide +kernel
theorem dL_areRests_175 : decode cL_areRests 175 = .ok (.iconst 0, 1) := by decide +kernel
theorem dL_areRests_176 : decode cL_areRests 176 = .ok (.iadd, 1) := by decide +kernel
theorem dL_areRests_177 : decode cL_areRests 177 = .ok (.istore 4, 2) := by decide +kernel
theorem dL_areRests_179 : decode cL_areRests 179 = .ok (.aload_n 0, 1) := by decide +kernel
theorem dL_areRests_180 : decode cL_areRests 180 = .ok (.iload 6, 2) := by decide +kernel
theorem dL_areRests_182 : decode cL_areRests 182 = .ok (.invokevirtual 52, 3) := by decide +kernel
theorem dL_areRests_185 : decode cL_areRests 185 = .ok (.lconst 0, 1) := by decide +kernel
theorem dL_areRests_186 : decode cL_areRests 186 = .ok (.lcmp, 1) := by decide +kernel
theorem dL_areRests_187 : decode cL_areRests 187 = .ok (.ifCond .lt 35, 3) := by decide +kernel
theorem dL_areRests_190 : decode cL_areRests 190 = .ok (.lload 7, 2) := by decide +kernel
theorem dL_areRests_192 : decode cL_areRests 192 = .ok (.aload_n 1, 1) := by decide +kernel
theorem dL_areRests_193 : decode cL_areRests 193 = .ok (.iconst 1, 1) := by decide +kernel
theorem dL_areRests_194 : decode cL_areRests 194 = .ok (.iaload, 1) := by decide +kernel
theorem dL_areRests_195 : decode cL_areRests 195 = .ok (.i2l, 1) := by decide +kernel
theorem dL_areRests_196 : decode cL_areRests 196 = .ok (.aload_n 0, 1) := by decide +kernel
theorem dL_areRests_197 : decode cL_areRests 197 = .ok (.iload 6, 2) := by decide +kernel
theorem dL_areRests_199 : decode cL_areRests 199 = .ok (.invokevirtual 52, 3) := by decide +kernel
theorem dL_areRests_202 : decode cL_areRests 202 = .ok (.lmul, 1) := by decide +kernel
theorem dL_areRests_203 : decode cL_areRests 203 = .ok (.lcmp, 1) := by decide +kernel
theorem dL_areRests_204 : decode cL_areRests 204 = .ok (.ifCond .ne 18, 3) := by decide +kernel
theorem dL_areRests_207 : decode cL_areRests 207 = .ok (.iload 9, 2) := by decide +kernel
theorem dL_areRests_209 : decode cL_areRests 209 = .ok (.iload 6, 2) := by decide +kernel
theorem dL_areRests_211 : decode cL_areRests 211 = .ok (.ishr, 1) := by decide +kernel
theorem dL_areRests_212 : decode cL_areRests 212 = .ok (.iconst 1, 1) := by decide +kernel
theorem dL_areRests_213 : decode cL_areRests 213 = .ok (.iand, 1) := by decide +kernel
theorem dL_areRests_214 : decode cL_areRests 214 = .ok (.iconst 1, 1) := by decide +kernel
theorem dL_areRests_215 : decode cL_areRests 215 = .ok (.if_icmp .ne 7, 3) := by decide +kernel
theorem dL_areRests_218 : decode cL_areRests 218 = .ok (.iconst 1, 1) := by decide +kernel
theorem dL_areRests_219 : decode cL_areRests 219 = .ok (.goto 4, 3) := by decide +kernel
theorem dL_areRests_222 : decode cL_areRests 222 = .ok (.iconst 0, 1) := by decide +kernel
theorem dL_areRests_223 : decode cL_areRests 223 = .ok (.istore 5, 2) := by decide +kernel
theorem dL_areRests_225 : decode cL_areRests 225 = .ok (.iinc 6 1, 3) := by decide +kernel
theorem dL_areRests_228 : decode cL_areRests 228 = .ok (.goto (-217), 3) := by decide +kernel
theorem dL_areRests_231 : decode cL_areRests 231 = .ok (.iload 5, 2) := by decide +kernel
theorem dL_areRests_233 : decode cL_areRests 233 = .ok (.ifCond .eq 56, 3) := by decide +kernel
theorem dL_areRests_236 : decode cL_areRests 236 = .ok (.lload_n 2, 1) := by decide +kernel
theorem dL_areRests_237 : decode cL_areRests 237 = .ok (.aload_n 0, 1) := by decide +kernel
theorem dL_areRests_238 : decode cL_areRests 238 = .ok (.iconst (-1), 1) := by decide +kernel
theorem dL_areRests_239 : decode cL_areRests 239 = .ok (.invokevirtual 52, 3) := by decide +kernel
theorem dL_areRests_242 : decode cL_areRests 242 = .ok (.lcmp, 1) := by decide +kernel
theorem dL_areRests_243 : decode cL_areRests 243 = .ok (.ifCond .ne 46, 3) := by decide +kernel
theorem dL_areRests_246 : decode cL_areRests 246 = .ok (.aload_n 0, 1) := by decide +kernel
theorem dL_areRests_247 : decode cL_areRests 247 = .ok (.invokevirtual 55, 3) := by decide +kernel
theorem dL_areRests_250 : decode cL_areRests 250 = .ok (.iload 4, 2) := by decide +kernel
theorem dL_areRests_252 : decode cL_areRests 252 = .ok (.if_icmp .ne 37, 3) := by decide +kernel
theorem dL_areRests_255 : decode cL_areRests 255 = .ok (.iload 4, 2) := by decide +kernel
theorem dL_areRests_257 : decode cL_areRests 257 = .ok (.ifCond .le 32, 3) := by decide +kernel
theorem dL_areRests_260 : decode cL_areRests 260 = .ok (.lload_n 2, 1) := by decide +kernel
theorem dL_areRests_261 : decode cL_areRests 261 = .ok (.lconst 0, 1) := by decide +kernel
theorem dL_areRests_262 : decode cL_areRests 262 = .ok (.lcmp, 1) := by decide +kernel
theorem dL_areRests_263 : decode cL_areRests 263 = .ok (.ifCond .ne 7, 3) := by decide +kernel
theorem dL_areRests_266 : decode cL_areRests 266 = .ok (.iconst 1, 1) := by decide +kernel
theorem dL_areRests_267 : decode cL_areRests 267 = .ok (.goto 4, 3) := by decide +kernel
theorem dL_areRests_270 : decode cL_areRests 270 = .ok (.iconst 0, 1) := by decide +kernel
theorem dL_areRests_271 : decode cL_areRests 271 = .ok (.iload 4, 2) := by decide +kernel
theorem dL_areRests_273 : decode cL_areRests 273 = .ok (.iconst 1, 1) := by decide +kernel
theorem dL_areRests_274 : decode cL_areRests 274 = .ok (.if_icmp .le 7, 3) := by decide +kernel
theorem dL_areRests_277 : decode cL_areRests 277 = .ok (.iconst 1, 1) := by decide +kernel
theorem dL_areRests_278 : decode cL_areRests 278 = .ok (.goto 4, 3) := by decide +kernel
theorem dL_areRests_281 : decode cL_areRests 281 = .ok (.iconst 0, 1) := by decide +kernel
theorem dL_areRests_282 : decode cL_areRests 282 = .ok (.if_icmp .ne 7, 3) := by decide +kernel
theorem dL_areRests_285 : decode cL_areRests 285 = .ok (.iconst 1, 1) := by decide +kernel
theorem dL_areRests_286 : decode cL_areRests 286 = .ok (.goto 4, 3) := by decide +kernel
theorem dL_areRests_289 : decode cL_areRests 289 = .ok (.iconst 0, 1) := by decide +kernel
theorem dL_areRests_290 : decode cL_areRests 290 = .ok (.istore 5, 2) := by decide +kernel
theorem dL_areRests_292 : decode cL_areRests 292 = .ok (.iconst 0, 1) := by decide +kernel
theorem dL_areRests_293 : decode cL_areRests 293 = .ok (.istore 6, 2) := by decide +kernel
theorem dL_areRests_295 : decode cL_areRests 295 = .ok (.iconst 0, 1) := by decide +kernel
theorem dL_areRests_296 : decode cL_areRests 296 = .ok (.istore 7, 2) := by decide +kernel
theorem dL_areRests_298 : decode cL_areRests 298 = .ok (.iload 7, 2) := by decide +kernel
theorem dL_areRests_300 : decode cL_areRests 300 = .ok (.aload_n 1, 1) := by decide +kernel
theorem dL_areRests_301 : decode cL_areRests 301 = .ok (.iconst 0, 1) := by decide +kernel
theorem dL_areRests_302 : decode cL_areRests 302 = .ok (.iaload, 1) := by decide +kernel
theorem dL_areRests_303 : decode cL_areRests 303 = .ok (.if_icmp .ge 168, 3) := by decide +kernel
theorem dL_areRests_306 : decode cL_areRests 306 = .ok (.iload 5, 2) := by decide +kernel
theorem dL_areRests_308 : decode cL_areRests 308 = .ok (.ifCond .eq 163, 3) := by decide +kernel
theorem dL_areRests_311 : decode cL_areRests 311 = .ok (.aload_n 0, 1) := by decide +kernel
theorem dL_areRests_312 : decode cL_areRests 312 = .ok (.iload 7, 2) := by decide +kernel
theorem dL_areRests_314 : decode cL_areRests 314 = .ok (.invokevirtual 59, 3) := by decide +kernel
theorem dL_areRests_317 : decode cL_areRests 317 = .ok (.istore 8, 2) := by decide +kernel
theorem dL_areRests_319 : decode cL_areRests 319 = .ok (.iload 6, 2) := by decide +kernel
theorem dL_areRests_321 : decode cL_areRests 321 = .ok (.iconst 1, 1) := by decide +kernel
theorem dL_areRests_322 : decode cL_areRests 322 = .ok (.iload 8, 2) := by decide +kernel
theorem dL_areRests_324 : decode cL_areRests 324 = .ok (.ishl, 1) := by decide +kernel
theorem dL_areRests_325 : decode cL_areRests 325 = .ok (.ior, 1) := by decide +kernel
theorem dL_areRests_326 : decode cL_areRests 326 = .ok (.istore 6, 2) := by decide +kernel
theorem dL_areRests_328 : decode cL_areRests 328 = .ok (.iload 8, 2) := by decide +kernel
theorem dL_areRests_330 : decode cL_areRests 330 = .ok (.ifCond .lt 132, 3) := by decide +kernel
theorem dL_areRests_333 : decode cL_areRests 333 = .ok (.iload 7, 2) := by decide +kernel
theorem dL_areRests_335 : decode cL_areRests 335 = .ok (.ifCond .eq 60, 3) := by decide +kernel
theorem dL_areRests_338 : decode cL_areRests 338 = .ok (.aload_n 0, 1) := by decide +kernel
theorem dL_areRests_339 : decode cL_areRests 339 = .ok (.iload 8, 2) := by decide +kernel
theorem dL_areRests_341 : decode cL_areRests 341 = .ok (.invokevirtual 52, 3) := by decide +kernel
theorem dL_areRests_344 : decode cL_areRests 344 = .ok (.aload_n 0, 1) := by decide +kernel
theorem dL_areRests_345 : decode cL_areRests 345 = .ok (.aload_n 0, 1) := by decide +kernel
theorem dL_areRests_346 : decode cL_areRests 346 = .ok (.iload 7, 2) := by decide +kernel
theorem dL_areRests_348 : decode cL_areRests 348 = .ok (.iconst 1, 1) := by decide +kernel
theorem dL_areRests_349 : decode cL_areRests 349 = .ok (.isub, 1) := by decide +kernel
theorem dL_areRests_350 : decode cL_areRests 350 = .ok (.invokevirtual 59, 3) := by decide +kernel
theorem dL_areRests_353 : decode cL_areRests 353 = .ok (.invokevirtual 52, 3) := by decide +kernel
theorem dL_areRests_356 : decode cL_areRests 356 = .ok (.lcmp, 1) := by decide +kernel
theorem dL_areRests_357 : decode cL_areRests 357 = .ok (.ifCond .lt 38, 3) := by decide +kernel
theorem dL_areRests_360 : decode cL_areRests 360 = .ok (.aload_n 0, 1) := by decide +kernel
theorem dL_areRests_361 : decode cL_areRests 361 = .ok (.iload 8, 2) := by decide +kernel
theorem dL_areRests_363 : decode cL_areRests 363 = .ok (.invokevirtual 52, 3) := by decide +kernel
theorem dL_areRests_366 : decode cL_areRests 366 = .ok (.aload_n 0, 1) := by decide +kernel
theorem dL_areRests_367 : decode cL_areRests 367 = .ok (.aload_n 0, 1) := by decide +kernel
theorem dL_areRests_368 : decode cL_areRests 368 = .ok (.iload 7, 2) := by decide +kernel
theorem dL_areRests_370 : decode cL_areRests 370 = .ok (.iconst 1, 1) := by decide +kernel
theorem dL_areRests_371 : decode cL_areRests 371 = .ok (.isub, 1) := by decide +kernel
theorem dL_areRests_372 : decode cL_areRests 372 = .ok (.invokevirtual 59, 3) := by decide +kernel
theorem dL_areRests_375 : decode cL_areRests 375 = .ok (.invokevirtual 52, 3) := by decide +kernel
theorem dL_areRests_378 : decode cL_areRests 378 = .ok (.lcmp, 1) := by decide +kernel
theorem dL_areRests_379 : decode cL_areRests 379 = .ok (.ifCond .ne 83, 3) := by decide +kernel
theorem dL_areRests_382 : decode cL_areRests 382 = .ok (.iload 8, 2) := by decide +kernel
theorem dL_areRests_384 : decode cL_areRests 384 = .ok (.aload_n 0, 1) := by decide +kernel
theorem dL_areRests_385 : decode cL_areRests 385 = .ok (.iload 7, 2) := by decide +kernel
theorem dL_areRests_387 : decode cL_areRests 387 = .ok (.iconst 1, 1) := by decide +kernel
theorem dL_areRests_388 : decode cL_areRests 388 = .ok (.isub, 1) := by decide +kernel
theorem dL_areRests_389 : decode cL_areRests 389 = .ok (.invokevirtual 59, 3) := by decide +kernel
theorem dL_areRests_392 : decode cL_areRests 392 = .ok (.if_icmp .le 70, 3) := by decide +kernel
theorem dL_areRests_395 : decode cL_areRests 395 = .ok (.lload_n 2, 1) := by decide +kernel
theorem dL_areRests_396 : decode cL_areRests 396 = .ok (.lconst 0, 1) := by decide +kernel
theorem dL_areRests_397 : decode cL_areRests 397 = .ok (.lcmp, 1) := by decide +kernel
theorem dL_areRests_398 : decode cL_areRests 398 = .ok (.ifCond .eq 60, 3) := by decide +kernel
theorem dL_areRests_401 : decode cL_areRests 401 = .ok (.aload_n 0, 1) := by decide +kernel
theorem dL_areRests_402 : decode cL_areRests 402 = .ok (.iload 8, 2) := by decide +kernel
theorem dL_areRests_404 : decode cL_areRests 404 = .ok (.invokevirtual 62, 3) := by decide +kernel
theorem dL_areRests_407 : decode cL_areRests 407 = .ok (.fconst 0, 1) := by decide +kernel
theorem dL_areRests_408 : decode cL_areRests 408 = .ok (.fcmp .l, 1) := by decide +kernel
theorem dL_areRests_409 : decode cL_areRests 409 = .ok (.ifCond .lt 53, 3) := by decide +kernel
theorem dL_areRests_412 : decode cL_areRests 412 = .ok (.aload_n 0, 1) := by decide +kernel
theorem dL_areRests_413 : decode cL_areRests 413 = .ok (.iload 8, 2) := by decide +kernel
theorem dL_areRests_415 : decode cL_areRests 415 = .ok (.invokevirtual 62, 3) := by decide +kernel
theorem dL_areRests_418 : decode cL_areRests 418 = .ok (.fconst 1, 1) := by decide +kernel
theorem dL_areRests_419 : decode cL_areRests 419 = .ok (.fcmp .g, 1) := by decide +kernel
