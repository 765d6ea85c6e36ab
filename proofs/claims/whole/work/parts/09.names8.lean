theorem dL_colour_13 : decode cL_colour 13 = .ok (.astore 4, 2) := by decide +kernel
theorem dL_colour_15 : decode cL_colour 15 = .ok (.iconst 1, 1) := by decide +kernel
theorem dL_colour_16 : decode cL_colour 16 = .ok (.ireturn, 1) := by decide +kernel
theorem dL_colour_17 : decode cL_colour 17 = .ok (.astore 4, 2) := by decide +kernel
theorem dL_colour_19 : decode cL_colour 19 = .ok (.iconst 2, 1) := by decide +kernel
theorem dL_colour_20 : decode cL_colour 20 = .ok (.ireturn, 1) := by decide +kernel
theorem dL_colour_21 : decode cL_colour 21 = .ok (.iconst 0, 1) := by decide +kernel
theorem dL_colour_22 : decode cL_colour 22 = .ok (.ireturn, 1) := by decide +kernel
set_option maxRecDepth 20000 in
theorem ggL_weight_X8_weight : GoodIn wsL_weight wsX8_weight := goodIn_ca (goodIn_r _ [6, 7, 8, 9, 10, 11, 5, 12, 13, 14, 15, 16, 17, 18, 19, 20, 21, 22, 23, 24, 25, 26, 27] (by decide +kernel) (by decide +kernel)) (goodIn_sub (fun _ h => List.mem_cons_of_mem _ (List.mem_append_right _ h)) (by decide +kernel))
set_option maxRecDepth 20000 in
theorem gL_weight_X8_weight : GoodIn wsL_weight (wsV RL 32 RX8 yX8_weight wsX8_weight) := goodIn_app (goodIn_of _ (by decide +kernel)) ggL_weight_X8_weight
theorem dL_weight_0 : decode cL_weight 0 = .ok (.aload_n 3, 1) := by decide +kernel
theorem dL_weight_1 : decode cL_weight 1 = .ok (.iconst 0, 1) := by decide +kernel
theorem dL_weight_2 : decode cL_weight 2 = .ok (.aload_n 0, 1) := by decide +kernel
theorem dL_weight_3 : decode cL_weight 3 = .ok (.iload_n 1, 1) := by decide +kernel
theorem dL_weight_4 : decode cL_weight 4 = .ok (.iload_n 2, 1) := by decide +kernel
theorem dL_weight_5 : decode cL_weight 5 = .ok (.invokevirtual 32, 3) := by decide +kernel
theorem dL_weight_8 : decode cL_weight 8 = .ok (.i2l, 1) := by decide +kernel
theorem dL_weight_9 : decode cL_weight 9 = .ok (.lastore, 1) := by decide +kernel
theorem dL_weight_10 : decode cL_weight 10 = .ok (.goto 7, 3) := by decide +kernel
theorem dL_weight_13 : decode cL_weight 13 = .ok (.astore 4, 2) := by decide +kernel
theorem dL_weight_15 : decode cL_weight 15 = .ok (.iconst 1, 1) := by decide +kernel
theorem dL_weight_16 : decode cL_weight 16 = .ok (.ireturn, 1) := by decide +kernel
theorem dL_weight_17 : decode cL_weight 17 = .ok (.iconst 0, 1) := by decide +kernel
theorem dL_weight_18 : decode cL_weight 18 = .ok (.ireturn, 1) := by decide +kernel
set_option maxRecDepth 20000 in
theorem ggL_words_X8_words : GoodIn wsL_words wsX8_words := goodIn_ca (goodIn_r _ [6, 7, 8, 9, 5, 10, 11, 12, 13, 14, 15, 16, 17, 18, 19, 20, 21, 22, 23, 24, 25, 26, 27, 28, 29, 30] (by decide +kernel) (by decide +kernel)) (goodIn_sub (fun _ h => List.mem_cons_of_mem _ (List.mem_append_right _ h)) (by decide +kernel))
set_option maxRecDepth 20000 in
theorem gL_words_X8_words : GoodIn wsL_words (wsV RL 35 RX8 yX8_words wsX8_words) := goodIn_app (goodIn_of _ (by decide +kernel)) ggL_words_X8_words
theorem dL_words_0 : decode cL_words 0 = .ok (.aload_n 2, 1) := by decide +kernel
theorem dL_words_1 : decode cL_words 1 = .ok (.iconst 0, 1) := by decide +kernel
theorem dL_words_2 : decode cL_words 2 = .ok (.aload_n 0, 1) := by decide +kernel
theorem dL_words_3 : decode cL_words 3 = .ok (.iload_n 1, 1) := by decide +kernel
theorem dL_words_4 : decode cL_words 4 = .ok (.invokevirtual 35, 3) := by decide +kernel
theorem dL_words_7 : decode cL_words 7 = .ok (.lastore, 1) := by decide +kernel
theorem dL_words_8 : decode cL_words 8 = .ok (.goto 6, 3) := by decide +kernel
theorem dL_words_11 : decode cL_words 11 = .ok (.astore_n 3, 1) := by decide +kernel
theorem dL_words_12 : decode cL_words 12 = .ok (.iconst 1, 1) := by decide +kernel
theorem dL_words_13 : decode cL_words 13 = .ok (.ireturn, 1) := by decide +kernel
theorem dL_words_14 : decode cL_words 14 = .ok (.iconst 0, 1) := by decide +kernel
theorem dL_words_15 : decode cL_words 15 = .ok (.ireturn, 1) := by decide +kernel
set_option maxRecDepth 20000 in
theorem ggL_law_X8_law : GoodIn wsL_law wsX8_law := goodIn_ca (goodIn_ca (goodIn_r _ [7, 8, 9, 10, 11, 6, 12, 13, 14, 15, 16, 17, 18, 19, 20, 21, 22, 23, 24, 25, 26, 27, 28, 29, 30, 31, 32, 33, 34, 35, 36, 37, 38, 39, 40, 41, 42, 43, 44, 45, 46, 47, 48, 49, 50, 51, 52, 53, 54, 55] (by decide +kernel) (by decide +kernel)) (goodIn_sub (fun _ h => List.mem_cons_of_mem _ (List.mem_append_left _ (List.mem_append_right _ h))) (by decide +kernel))) (goodIn_sub (fun _ h => List.mem_cons_of_mem _ (List.mem_append_right _ h)) (by decide +kernel))
set_option maxRecDepth 20000 in
theorem gL_law_X8_law : GoodIn wsL_law (wsV RL 39 RX8 yX8_law wsX8_law) := goodIn_app (goodIn_of _ (by decide +kernel)) ggL_law_X8_law
theorem dL_law_0 : decode cL_law 0 = .ok (.aload 4, 2) := by decide +kernel
theorem dL_law_2 : decode cL_law 2 = .ok (.iconst 0, 1) := by decide +kernel
theorem dL_law_3 : decode cL_law 3 = .ok (.aload_n 0, 1) := by decide +kernel
theorem dL_law_4 : decode cL_law 4 = .ok (.iload_n 1, 1) := by decide +kernel
theorem dL_law_5 : decode cL_law 5 = .ok (.iload_n 2, 1) := by decide +kernel
theorem dL_law_6 : decode cL_law 6 = .ok (.iload_n 3, 1) := by decide +kernel
theorem dL_law_7 : decode cL_law 7 = .ok (.invokevirtual 39, 3) := by decide +kernel
theorem dL_law_10 : decode cL_law 10 = .ok (.lastore, 1) := by decide +kernel
theorem dL_law_11 : decode cL_law 11 = .ok (.goto 11, 3) := by decide +kernel
theorem dL_law_14 : decode cL_law 14 = .ok (.astore 5, 2) := by decide +kernel
theorem dL_law_16 : decode cL_law 16 = .ok (.iconst 1, 1) := by decide +kernel
theorem dL_law_17 : decode cL_law 17 = .ok (.ireturn, 1) := by decide +kernel
theorem dL_law_18 : decode cL_law 18 = .ok (.astore 5, 2) := by decide +kernel
theorem dL_law_20 : decode cL_law 20 = .ok (.iconst 2, 1) := by decide +kernel
theorem dL_law_21 : decode cL_law 21 = .ok (.ireturn, 1) := by decide +kernel
theorem dL_law_22 : decode cL_law 22 = .ok (.iconst 0, 1) := by decide +kernel
theorem dL_law_23 : decode cL_law 23 = .ok (.ireturn, 1) := by decide +kernel
set_option maxRecDepth 20000 in
theorem ggL_lawAnew_X8_lawAnew : GoodIn wsL_lawAnew wsX8_lawAnew := goodIn_ca (goodIn_ca (goodIn_r _ [7, 8, 9, 10, 11, 6, 12, 13, 14, 15, 16, 17, 18, 19, 20, 21, 22, 23, 24, 25, 26, 27, 28, 29, 30, 31, 32, 33, 34, 35, 36, 37] (by decide +kernel) (by decide +kernel)) (goodIn_sub (fun _ h => List.mem_cons_of_mem _ (List.mem_append_left _ (List.mem_append_right _ h))) (by decide +kernel))) (goodIn_sub (fun _ h => List.mem_cons_of_mem _ (List.mem_append_right _ h)) (by decide +kernel))
set_option maxRecDepth 20000 in
theorem gL_lawAnew_X8_lawAnew : GoodIn wsL_lawAnew (wsV RL 43 RX8 yX8_lawAnew wsX8_lawAnew) := goodIn_app (goodIn_of _ (by decide +kernel)) ggL_lawAnew_X8_lawAnew
theorem dL_lawAnew_0 : decode cL_lawAnew 0 = .ok (.aload 4, 2) := by decide +kernel
theorem dL_lawAnew_2 : decode cL_lawAnew 2 = .ok (.iconst 0, 1) := by decide +kernel
theorem dL_lawAnew_3 : decode cL_lawAnew 3 = .ok (.aload_n 0, 1) := by decide +kernel
theorem dL_lawAnew_4 : decode cL_lawAnew 4 = .ok (.iload_n 1, 1) := by decide +kernel
theorem dL_lawAnew_5 : decode cL_lawAnew 5 = .ok (.iload_n 2, 1) := by decide +kernel
theorem dL_lawAnew_6 : decode cL_lawAnew 6 = .ok (.iload_n 3, 1) := by decide +kernel
theorem dL_lawAnew_7 : decode cL_lawAnew 7 = .ok (.invokevirtual 43, 3) := by decide +kernel
theorem dL_lawAnew_10 : decode cL_lawAnew 10 = .ok (.lastore, 1) := by decide +kernel
theorem dL_lawAnew_11 : decode cL_lawAnew 11 = .ok (.goto 11, 3) := by decide +kernel
theorem dL_lawAnew_14 : decode cL_lawAnew 14 = .ok (.astore 5, 2) := by decide +kernel
theorem dL_lawAnew_16 : decode cL_lawAnew 16 = .ok (.iconst 1, 1) := by decide +kernel
theorem dL_lawAnew_17 : decode cL_lawAnew 17 = .ok (.ireturn, 1) := by decide +kernel
theorem dL_lawAnew_18 : decode cL_lawAnew 18 = .ok (.astore 5, 2) := by decide +kernel
theorem dL_lawAnew_20 : decode cL_lawAnew 20 = .ok (.iconst 2, 1) := by decide +kernel
theorem dL_lawAnew_21 : decode cL_lawAnew 21 = .ok (.ireturn, 1) := by decide +kernel
theorem dL_lawAnew_22 : decode cL_lawAnew 22 = .ok (.iconst 0, 1) := by decide +kernel
theorem dL_lawAnew_23 : decode cL_lawAnew 23 = .ok (.ireturn, 1) := by decide +kernel
set_option maxRecDepth 20000 in
theorem ggL_distance_X8_distance : GoodIn wsL_distance wsX8_distance := goodIn_ca (goodIn_ca (goodIn_r _ [7, 8, 9, 10, 11, 6, 12, 13, 14, 15, 16, 17, 18, 19, 20, 21, 22, 23, 24, 25, 26, 27, 28, 29, 30, 31, 32, 33, 34, 35, 36, 37, 38, 39, 40, 41, 42, 43, 44, 45, 46, 47, 48, 49, 50, 51, 52, 53, 54, 55, 56, 57, 58, 59] (by decide +kernel) (by decide +kernel)) (goodIn_sub (fun _ h => List.mem_cons_of_mem _ (List.mem_append_left _ (List.mem_append_right _ h))) (by decide +kernel))) (goodIn_sub (fun _ h => List.mem_cons_of_mem _ (List.mem_append_right _ h)) (by decide +kernel))
set_option maxRecDepth 20000 in
theorem gL_distance_X8_distance : GoodIn wsL_distance (wsV RL 46 RX8 yX8_distance wsX8_distance) := goodIn_app (goodIn_of _ (by decide +kernel)) ggL_distance_X8_distance
theorem dL_distance_0 : decode cL_distance 0 = .ok (.aload 4, 2) := by decide +kernel
theorem dL_distance_2 : decode cL_distance 2 = .ok (.iconst 0, 1) := by decide +kernel
theorem dL_distance_3 : decode cL_distance 3 = .ok (.aload_n 0, 1) := by decide +kernel
theorem dL_distance_4 : decode cL_distance 4 = .ok (.iload_n 1, 1) := by decide +kernel
theorem dL_distance_5 : decode cL_distance 5 = .ok (.iload_n 2, 1) := by decide +kernel
theorem dL_distance_6 : decode cL_distance 6 = .ok (.iload_n 3, 1) := by decide +kernel
theorem dL_distance_7 : decode cL_distance 7 = .ok (.invokevirtual 46, 3) := by decide +kernel
theorem dL_distance_10 : decode cL_distance 10 = .ok (.lastore, 1) := by decide +kernel
theorem dL_distance_11 : decode cL_distance 11 = .ok (.goto 11, 3) := by decide +kernel
theorem dL_distance_14 : decode cL_distance 14 = .ok (.astore 5, 2) := by decide +kernel
theorem dL_distance_16 : decode cL_distance 16 = .ok (.iconst 1, 1) := by decide +kernel
theorem dL_distance_17 : decode cL_distance 17 = .ok (.ireturn, 1) := by decide +kernel
theorem dL_distance_18 : decode cL_distance 18 = .ok (.astore 5, 2) := by decide +kernel
theorem dL_distance_20 : decode cL_distance 20 = .ok (.iconst 2, 1) := by decide +kernel
theorem dL_distance_21 : decode cL_distance 21 = .ok (.ireturn, 1) := by decide +kernel
theorem dL_distance_22 : decode cL_distance 22 = .ok (.iconst 0, 1) := by decide +kernel
theorem dL_distance_23 : decode cL_distance 23 = .ok (.ireturn, 1) := by decide +kernel
set_option maxRecDepth 20000 in
theorem ggL_mixing_X8_mixing : GoodIn wsL_mixing wsX8_mixing := goodIn_ca (goodIn_r _ [6, 7, 8, 9, 5, 10, 11, 12, 13, 14, 15, 16, 17, 18, 19, 20, 21, 22, 23, 24, 25, 26, 27, 28, 29, 30, 31, 32, 33, 34, 35, 36, 37, 38, 39, 40, 41, 42, 43, 44, 45, 46, 47, 48, 49, 50, 51, 52, 53, 54, 55, 56, 57, 58, 59, 60, 61] (by decide +kernel) (by decide +kernel)) (goodIn_sub (fun _ h => List.mem_cons_of_mem _ (List.mem_append_right _ h)) (by decide +kernel))
set_option maxRecDepth 20000 in
theorem gL_mixing_X8_mixing : GoodIn wsL_mixing (wsV RL 49 RX8 yX8_mixing wsX8_mixing) := goodIn_app (goodIn_of _ (by decide +kernel)) ggL_mixing_X8_mixing
theorem dL_mixing_0 : decode cL_mixing 0 = .ok (.aload_n 2, 1) := by decide +kernel
theorem dL_mixing_1 : decode cL_mixing 1 = .ok (.iconst 0, 1) := by decide +kernel
theorem dL_mixing_2 : decode cL_mixing 2 = .ok (.aload_n 0, 1) := by decide +kernel
theorem dL_mixing_3 : decode cL_mixing 3 = .ok (.iload_n 1, 1) := by decide +kernel
theorem dL_mixing_4 : decode cL_mixing 4 = .ok (.invokevirtual 49, 3) := by decide +kernel
theorem dL_mixing_7 : decode cL_mixing 7 = .ok (.i2l, 1) := by decide +kernel
theorem dL_mixing_8 : decode cL_mixing 8 = .ok (.lastore, 1) := by decide +kernel
theorem dL_mixing_9 : decode cL_mixing 9 = .ok (.goto 6, 3) := by decide +kernel
theorem dL_mixing_12 : decode cL_mixing 12 = .ok (.astore_n 3, 1) := by decide +kernel
theorem dL_mixing_13 : decode cL_mixing 13 = .ok (.iconst 1, 1) := by decide +kernel
theorem dL_mixing_14 : decode cL_mixing 14 = .ok (.ireturn, 1) := by decide +kernel
theorem dL_mixing_15 : decode cL_mixing 15 = .ok (.iconst 0, 1) := by decide +kernel
theorem dL_mixing_16 : decode cL_mixing 16 = .ok (.ireturn, 1) := by decide +kernel
set_option maxRecDepth 20000 in
theorem ggL_apart_X8_apart : GoodIn wsL_apart wsX8_apart := goodIn_ca (goodIn_ca (goodIn_r _ [7, 8, 9, 10, 11, 6, 12, 13, 14, 15, 16, 17, 18, 19, 20, 21, 22, 23, 24, 25, 26, 27, 28, 29, 30, 31, 32, 33, 34, 35, 36, 37, 38, 39, 40, 41, 42, 43, 44, 45, 46, 47, 48, 49, 50, 51, 52] (by decide +kernel) (by decide +kernel)) (goodIn_sub (fun _ h => List.mem_cons_of_mem _ (List.mem_append_left _ (List.mem_append_right _ h))) (by decide +kernel))) (goodIn_sub (fun _ h => List.mem_cons_of_mem _ (List.mem_append_right _ h)) (by decide +kernel))
set_option maxRecDepth 20000 in
theorem gL_apart_X8_apart : GoodIn wsL_apart (wsV RL 53 RX8 yX8_apart wsX8_apart) := goodIn_app (goodIn_of _ (by decide +kernel)) ggL_apart_X8_apart
theorem dL_apart_0 : decode cL_apart 0 = .ok (.aload 4, 2) := by decide +kernel
theorem dL_apart_2 : decode cL_apart 2 = .ok (.iconst 0, 1) := by decide +kernel
theorem dL_apart_3 : decode cL_apart 3 = .ok (.aload_n 0, 1) := by decide +kernel
theorem dL_apart_4 : decode cL_apart 4 = .ok (.iload_n 1, 1) := by decide +kernel
theorem dL_apart_5 : decode cL_apart 5 = .ok (.iload_n 2, 1) := by decide +kernel
theorem dL_apart_6 : decode cL_apart 6 = .ok (.iload_n 3, 1) := by decide +kernel
theorem dL_apart_7 : decode cL_apart 7 = .ok (.invokevirtual 53, 3) := by decide +kernel
theorem dL_apart_10 : decode cL_apart 10 = .ok (.lastore, 1) := by decide +kernel
theorem dL_apart_11 : decode cL_apart 11 = .ok (.goto 11, 3) := by decide +kernel
theorem dL_apart_14 : decode cL_apart 14 = .ok (.astore 5, 2) := by decide +kernel
theorem dL_apart_16 : decode cL_apart 16 = .ok (.iconst 1, 1) := by decide +kernel
theorem dL_apart_17 : decode cL_apart 17 = .ok (.ireturn, 1) := by decide +kernel
theorem dL_apart_18 : decode cL_apart 18 = .ok (.astore 5, 2) := by decide +kernel
theorem dL_apart_20 : decode cL_apart 20 = .ok (.iconst 2, 1) := by decide +kernel
theorem dL_apart_21 : decode cL_apart 21 = .ok (.ireturn, 1) := by decide +kernel
theorem dL_apart_22 : decode cL_apart 22 = .ok (.iconst 0, 1) := by decide +kernel
theorem dL_apart_23 : decode cL_apart 23 = .ok (.ireturn, 1) := by decide +kernel
set_option maxRecDepth 20000 in
theorem ggL_together_X8_together : GoodIn wsL_together wsX8_together := goodIn_ca (goodIn_ca (goodIn_r _ [7, 8, 9, 10, 11, 6, 12, 13, 14, 15, 16, 17, 18, 19, 20, 21, 22, 23, 24, 25, 26, 27, 28, 29, 30, 31, 32, 33, 34, 35, 36, 37, 38, 39, 40, 41, 42, 43, 44, 45, 46, 47, 48, 49, 50, 51, 52, 53, 54, 55, 56, 57, 58] (by decide +kernel) (by decide +kernel)) (goodIn_sub (fun _ h => List.mem_cons_of_mem _ (List.mem_append_left _ (List.mem_append_right _ h))) (by decide +kernel))) (goodIn_sub (fun _ h => List.mem_cons_of_mem _ (List.mem_append_right _ h)) (by decide +kernel))
set_option maxRecDepth 20000 in
theorem gL_together_X8_together : GoodIn wsL_together (wsV RL 56 RX8 yX8_together wsX8_together) := goodIn_app (goodIn_of _ (by decide +kernel)) ggL_together_X8_together
theorem dL_together_0 : decode cL_together 0 = .ok (.aload_n 3, 1) := by decide +kernel
theorem dL_together_1 : decode cL_together 1 = .ok (.iconst 0, 1) := by decide +kernel
theorem dL_together_2 : decode cL_together 2 = .ok (.aload_n 0, 1) := by decide +kernel
theorem dL_together_3 : decode cL_together 3 = .ok (.iload_n 1, 1) := by decide +kernel
theorem dL_together_4 : decode cL_together 4 = .ok (.iload_n 2, 1) := by decide +kernel
theorem dL_together_5 : decode cL_together 5 = .ok (.invokevirtual 56, 3) := by decide +kernel
theorem dL_together_8 : decode cL_together 8 = .ok (.lastore, 1) := by decide +kernel
theorem dL_together_9 : decode cL_together 9 = .ok (.goto 11, 3) := by decide +kernel
theorem dL_together_12 : decode cL_together 12 = .ok (.astore 4, 2) := by decide +kernel
theorem dL_together_14 : decode cL_together 14 = .ok (.iconst 1, 1) := by decide +kernel
theorem dL_together_15 : decode cL_together 15 = .ok (.ireturn, 1) := by decide +kernel
theorem dL_together_16 : decode cL_together 16 = .ok (.astore 4, 2) := by decide +kernel
theorem dL_together_18 : decode cL_together 18 = .ok (.iconst 2, 1) := by decide +kernel
theorem dL_together_19 : decode cL_together 19 = .ok (.ireturn, 1) := by decide +kernel
theorem dL_together_20 : decode cL_together 20 = .ok (.iconst 0, 1) := by decide +kernel
theorem dL_together_21 : decode cL_together 21 = .ok (.ireturn, 1) := by decide +kernel
set_option maxRecDepth 20000 in
theorem ggL_hits_X8_hits : GoodIn wsL_hits wsX8_hits := goodIn_ca (goodIn_ca (goodIn_r _ [7, 8, 9, 10, 11, 6, 12, 13, 14, 15, 16, 17, 18, 19, 20, 21, 22, 23, 24, 25, 26, 27, 28, 29, 30, 31, 32, 33, 34, 35, 36, 37, 38, 39, 40, 41, 42, 43, 44, 45, 46, 47, 48, 49, 50, 51, 52, 53, 54, 55, 56, 57, 58, 59, 60] (by decide +kernel) (by decide +kernel)) (goodIn_sub (fun _ h => List.mem_cons_of_mem _ (List.mem_append_left _ (List.mem_append_right _ h))) (by decide +kernel))) (goodIn_sub (fun _ h => List.mem_cons_of_mem _ (List.mem_append_right _ h)) (by decide +kernel))
set_option maxRecDepth 20000 in
theorem gL_hits_X8_hits : GoodIn wsL_hits (wsV RL 60 RX8 yX8_hits wsX8_hits) := goodIn_app (goodIn_of _ (by decide +kernel)) ggL_hits_X8_hits
theorem dL_hits_0 : decode cL_hits 0 = .ok (.aload 4, 2) := by decide +kernel
theorem dL_hits_2 : decode cL_hits 2 = .ok (.iconst 0, 1) := by decide +kernel
theorem dL_hits_3 : decode cL_hits 3 = .ok (.aload_n 0, 1) := by decide +kernel
theorem dL_hits_4 : decode cL_hits 4 = .ok (.iload_n 1, 1) := by decide +kernel
theorem dL_hits_5 : decode cL_hits 5 = .ok (.iload_n 2, 1) := by decide +kernel
theorem dL_hits_6 : decode cL_hits 6 = .ok (.iload_n 3, 1) := by decide +kernel
theorem dL_hits_7 : decode cL_hits 7 = .ok (.invokevirtual 60, 3) := by decide +kernel
theorem dL_hits_10 : decode cL_hits 10 = .ok (.lastore, 1) := by decide +kernel
theorem dL_hits_11 : decode cL_hits 11 = .ok (.goto 11, 3) := by decide +kernel
theorem dL_hits_14 : decode cL_hits 14 = .ok (.astore 5, 2) := by decide +kernel
theorem dL_hits_16 : decode cL_hits 16 = .ok (.iconst 1, 1) := by decide +kernel
theorem dL_hits_17 : decode cL_hits 17 = .ok (.ireturn, 1) := by decide +kernel
theorem dL_hits_18 : decode cL_hits 18 = .ok (.astore 5, 2) := by decide +kernel
theorem dL_hits_20 : decode cL_hits 20 = .ok (.iconst 2, 1) := by decide +kernel
theorem dL_hits_21 : decode cL_hits 21 = .ok (.ireturn, 1) := by decide +kernel
theorem dL_hits_22 : decode cL_hits 22 = .ok (.iconst 0, 1) := by decide +kernel
theorem dL_hits_23 : decode cL_hits 23 = .ok (.ireturn, 1) := by decide +kernel
set_option maxRecDepth 20000 in
theorem ggL_reach_X8_reach : GoodIn wsL_reach wsX8_reach := goodIn_ca (goodIn_r _ [6, 7, 8, 9, 10, 5, 11, 12, 13, 14, 15, 16, 17, 18, 19, 20, 21, 22, 23, 24, 25, 26, 27, 28, 29, 30, 31, 32, 33, 34, 35, 36, 37, 38, 39, 40] (by decide +kernel) (by decide +kernel)) (goodIn_sub (fun _ h => List.mem_cons_of_mem _ (List.mem_append_right _ h)) (by decide +kernel))
set_option maxRecDepth 20000 in
theorem gL_reach_X8_reach : GoodIn wsL_reach (wsV RL 63 RX8 yX8_reach wsX8_reach) := goodIn_app (goodIn_of _ (by decide +kernel)) ggL_reach_X8_reach
theorem dL_reach_0 : decode cL_reach 0 = .ok (.aload_n 2, 1) := by decide +kernel
theorem dL_reach_1 : decode cL_reach 1 = .ok (.iconst 0, 1) := by decide +kernel
theorem dL_reach_2 : decode cL_reach 2 = .ok (.aload_n 0, 1) := by decide +kernel
theorem dL_reach_3 : decode cL_reach 3 = .ok (.iload_n 1, 1) := by decide +kernel
theorem dL_reach_4 : decode cL_reach 4 = .ok (.invokevirtual 63, 3) := by decide +kernel
theorem dL_reach_7 : decode cL_reach 7 = .ok (.i2l, 1) := by decide +kernel
theorem dL_reach_8 : decode cL_reach 8 = .ok (.lastore, 1) := by decide +kernel
theorem dL_reach_9 : decode cL_reach 9 = .ok (.goto 6, 3) := by decide +kernel
theorem dL_reach_12 : decode cL_reach 12 = .ok (.astore_n 3, 1) := by decide +kernel
theorem dL_reach_13 : decode cL_reach 13 = .ok (.iconst 1, 1) := by decide +kernel
theorem dL_reach_14 : decode cL_reach 14 = .ok (.ireturn, 1) := by decide +kernel
theorem dL_reach_15 : decode cL_reach 15 = .ok (.iconst 0, 1) := by decide +kernel
theorem dL_reach_16 : decode cL_reach 16 = .ok (.ireturn, 1) := by decide +kernel
set_option maxRecDepth 20000 in
theorem ggL_period_X8_period : GoodIn wsL_period wsX8_period := goodIn_ca (goodIn_r _ [6, 7, 8, 9, 10, 5, 11, 12, 13, 14, 15, 16, 17, 18, 19, 20, 21, 22, 23, 24, 25, 26, 27, 28, 29, 30, 31, 32, 33, 34, 35, 36, 37, 38, 39, 40, 41, 42, 43, 44, 45, 46] (by decide +kernel) (by decide +kernel)) (goodIn_sub (fun _ h => List.mem_cons_of_mem _ (List.mem_append_right _ h)) (by decide +kernel))
set_option maxRecDepth 20000 in
theorem gL_period_X8_period : GoodIn wsL_period (wsV RL 66 RX8 yX8_period wsX8_period) := goodIn_app (goodIn_of _ (by decide +kernel)) ggL_period_X8_period
theorem dL_period_0 : decode cL_period 0 = .ok (.aload_n 2, 1) := by decide +kernel
theorem dL_period_1 : decode cL_period 1 = .ok (.iconst 0, 1) := by decide +kernel
theorem dL_period_2 : decode cL_period 2 = .ok (.aload_n 0, 1) := by decide +kernel
theorem dL_period_3 : decode cL_period 3 = .ok (.iload_n 1, 1) := by decide +kernel
theorem dL_period_4 : decode cL_period 4 = .ok (.invokevirtual 66, 3) := by decide +kernel
theorem dL_period_7 : decode cL_period 7 = .ok (.i2l, 1) := by decide +kernel
theorem dL_period_8 : decode cL_period 8 = .ok (.lastore, 1) := by decide +kernel
theorem dL_period_9 : decode cL_period 9 = .ok (.goto 6, 3) := by decide +kernel
theorem dL_period_12 : decode cL_period 12 = .ok (.astore_n 3, 1) := by decide +kernel
theorem dL_period_13 : decode cL_period 13 = .ok (.iconst 1, 1) := by decide +kernel
theorem dL_period_14 : decode cL_period 14 = .ok (.ireturn, 1) := by decide +kernel
theorem dL_period_15 : decode cL_period 15 = .ok (.iconst 0, 1) := by decide +kernel
theorem dL_period_16 : decode cL_period 16 = .ok (.ireturn, 1) := by decide +kernel
set_option maxRecDepth 20000 in
theorem ggL_rest_X8_rest : GoodIn wsL_rest wsX8_rest := goodIn_ca (goodIn_r _ [6, 7, 8, 9, 10, 11, 12, 13, 14, 15, 16, 17, 18, 19, 20, 21, 22, 23, 24, 25, 26, 27, 28, 29, 30, 31, 32, 33, 34, 35, 36, 37, 38, 39, 40, 41, 42, 43, 44, 45, 46, 47, 48, 49, 5, 50, 51, 52, 53, 54, 55, 56, 57, 58, 59, 60, 61, 62, 63, 64, 65, 66, 67, 68, 69, 70, 71] (by decide +kernel) (by decide +kernel)) (goodIn_sub (fun _ h => List.mem_cons_of_mem _ (List.mem_append_right _ h)) (by decide +kernel))
set_option maxRecDepth 20000 in
theorem gL_rest_X8_rest : GoodIn wsL_rest (wsV RL 69 RX8 yX8_rest wsX8_rest) := goodIn_app (goodIn_of _ (by decide +kernel)) ggL_rest_X8_rest
theorem dL_rest_0 : decode cL_rest 0 = .ok (.aload_n 2, 1) := by decide +kernel
theorem dL_rest_1 : decode cL_rest 1 = .ok (.iconst 0, 1) := by decide +kernel
theorem dL_rest_2 : decode cL_rest 2 = .ok (.aload_n 0, 1) := by decide +kernel
theorem dL_rest_3 : decode cL_rest 3 = .ok (.iload_n 1, 1) := by decide +kernel
theorem dL_rest_4 : decode cL_rest 4 = .ok (.invokevirtual 69, 3) := by decide +kernel
theorem dL_rest_7 : decode cL_rest 7 = .ok (.lastore, 1) := by decide +kernel
theorem dL_rest_8 : decode cL_rest 8 = .ok (.goto 6, 3) := by decide +kernel
theorem dL_rest_11 : decode cL_rest 11 = .ok (.astore_n 3, 1) := by decide +kernel
theorem dL_rest_12 : decode cL_rest 12 = .ok (.iconst 1, 1) := by decide +kernel
theorem dL_rest_13 : decode cL_rest 13 = .ok (.ireturn, 1) := by decide +kernel
theorem dL_rest_14 : decode cL_rest 14 = .ok (.iconst 0, 1) := by decide +kernel
theorem dL_rest_15 : decode cL_rest 15 = .ok (.ireturn, 1) := by decide +kernel
set_option maxRecDepth 20000 in
theorem ggL_share_X8_share : GoodIn wsL_share wsX8_share := goodIn_ca (goodIn_ca (goodIn_r _ [7, 8, 9, 10, 11, 12, 13, 6, 14, 15, 16, 17, 18, 19, 20, 21, 22, 23, 24, 25, 26, 27, 28, 29, 30, 31, 32, 33, 34, 35, 36, 37, 38, 39, 40, 41, 42, 43, 44, 45, 46, 47, 48, 49, 50, 51, 52, 53, 54, 55, 56, 57, 58, 59, 60, 61, 62, 63, 64, 65, 66, 67, 68, 69, 70, 71, 72, 73, 74] (by decide +kernel) (by decide +kernel)) (goodIn_sub (fun _ h => List.mem_cons_of_mem _ (List.mem_append_left _ (List.mem_append_right _ h))) (by decide +kernel))) (goodIn_sub (fun _ h => List.mem_cons_of_mem _ (List.mem_append_right _ h)) (by decide +kernel))
set_option maxRecDepth 20000 in
theorem gL_share_X8_share : GoodIn wsL_share (wsV RL 72 RX8 yX8_share wsX8_share) := goodIn_app (goodIn_of _ (by decide +kernel)) ggL_share_X8_share
theorem dL_share_0 : decode cL_share 0 = .ok (.aload_n 2, 1) := by decide +kernel
theorem dL_share_1 : decode cL_share 1 = .ok (.iconst 0, 1) := by decide +kernel
theorem dL_share_2 : decode cL_share 2 = .ok (.aload_n 0, 1) := by decide +kernel
theorem dL_share_3 : decode cL_share 3 = .ok (.iload_n 1, 1) := by decide +kernel
theorem dL_share_4 : decode cL_share 4 = .ok (.invokevirtual 72, 3) := by decide +kernel
theorem dL_share_7 : decode cL_share 7 = .ok (.f2d, 1) := by decide +kernel
theorem dL_share_8 : decode cL_share 8 = .ok (.dastore, 1) := by decide +kernel
theorem dL_share_9 : decode cL_share 9 = .ok (.goto 9, 3) := by decide +kernel
theorem dL_share_12 : decode cL_share 12 = .ok (.astore_n 3, 1) := by decide +kernel
theorem dL_share_13 : decode cL_share 13 = .ok (.iconst 1, 1) := by decide +kernel
theorem dL_share_14 : decode cL_share 14 = .ok (.ireturn, 1) := by decide +kernel
theorem dL_share_15 : decode cL_share 15 = .ok (.astore_n 3, 1) := by decide +kernel
theorem dL_share_16 : decode cL_share 16 = .ok (.iconst 2, 1) := by decide +kernel
theorem dL_share_17 : decode cL_share 17 = .ok (.ireturn, 1) := by decide +kernel
theorem dL_share_18 : decode cL_share 18 = .ok (.iconst 0, 1) := by decide +kernel
theorem dL_share_19 : decode cL_share 19 = .ok (.ireturn, 1) := by decide +kernel
set_option maxRecDepth 20000 in
theorem ggL_ranked_X8_ranked : GoodIn wsL_ranked wsX8_ranked := goodIn_ca (goodIn_r _ [6, 7, 8, 9, 10, 11, 12, 13, 14, 15, 16, 17, 18, 19, 20, 21, 22, 23, 24, 25, 26, 27, 28, 29, 30, 31, 32, 33, 34, 35, 36, 37, 38, 39, 40, 41, 42, 43, 44, 45, 46, 47, 48, 49, 50, 51, 52, 53, 54, 55, 56, 57, 58, 59, 60, 61, 62, 63, 64, 65, 66] (by decide +kernel) (by decide +kernel)) (goodIn_sub (fun _ h => List.mem_cons_of_mem _ (List.mem_append_right _ h)) (by decide +kernel))
set_option maxRecDepth 20000 in
theorem gL_ranked_X8_ranked : GoodIn wsL_ranked (wsV RL 78 RX8 yX8_ranked wsX8_ranked) := goodIn_app (goodIn_of _ (by decide +kernel)) ggL_ranked_X8_ranked
theorem dL_ranked_0 : decode cL_ranked 0 = .ok (.aload_n 2, 1) := by decide +kernel
theorem dL_ranked_1 : decode cL_ranked 1 = .ok (.iconst 0, 1) := by decide +kernel
theorem dL_ranked_2 : decode cL_ranked 2 = .ok (.aload_n 0, 1) := by decide +kernel
theorem dL_ranked_3 : decode cL_ranked 3 = .ok (.iload_n 1, 1) := by decide +kernel
theorem dL_ranked_4 : decode cL_ranked 4 = .ok (.invokevirtual 78, 3) := by decide +kernel
theorem dL_ranked_7 : decode cL_ranked 7 = .ok (.i2l, 1) := by decide +kernel
theorem dL_ranked_8 : decode cL_ranked 8 = .ok (.lastore, 1) := by decide +kernel
theorem dL_ranked_9 : decode cL_ranked 9 = .ok (.goto 6, 3) := by decide +kernel
theorem dL_ranked_12 : decode cL_ranked 12 = .ok (.astore_n 3, 1) := by decide +kernel
theorem dL_ranked_13 : decode cL_ranked 13 = .ok (.iconst 1, 1) := by decide +kernel
theorem dL_ranked_14 : decode cL_ranked 14 = .ok (.ireturn, 1) := by decide +kernel
theorem dL_ranked_15 : decode cL_ranked 15 = .ok (.iconst 0, 1) := by decide +kernel
theorem dL_ranked_16 : decode cL_ranked 16 = .ok (.ireturn, 1) := by decide +kernel
set_option maxRecDepth 20000 in
theorem ggL_walk_X8_walk : GoodIn wsL_walk wsX8_walk := goodIn_ca (goodIn_ca (goodIn_r _ [7, 8, 9, 10, 11, 12, 6, 13, 14, 15, 16, 17, 18, 19, 20, 21, 22, 23, 24, 25, 26, 27, 28, 29, 30, 31, 32, 33, 34, 35, 36, 37, 38, 39, 40, 41, 42, 43, 44, 45, 46, 47, 48, 49, 50, 51, 52, 53] (by decide +kernel) (by decide +kernel)) (goodIn_sub (fun _ h => List.mem_cons_of_mem _ (List.mem_append_left _ (List.mem_append_right _ h))) (by decide +kernel))) (goodIn_sub (fun _ h => List.mem_cons_of_mem _ (List.mem_append_right _ h)) (by decide +kernel))
set_option maxRecDepth 20000 in
theorem gL_walk_X8_walk : GoodIn wsL_walk (wsV RL 81 RX8 yX8_walk wsX8_walk) := goodIn_app (goodIn_of _ (by decide +kernel)) ggL_walk_X8_walk
theorem dL_walk_0 : decode cL_walk 0 = .ok (.aload 4, 2) := by decide +kernel
theorem dL_walk_2 : decode cL_walk 2 = .ok (.iconst 0, 1) := by decide +kernel
theorem dL_walk_3 : decode cL_walk 3 = .ok (.aload_n 0, 1) := by decide +kernel
theorem dL_walk_4 : decode cL_walk 4 = .ok (.iload_n 1, 1) := by decide +kernel
theorem dL_walk_5 : decode cL_walk 5 = .ok (.iload_n 2, 1) := by decide +kernel
theorem dL_walk_6 : decode cL_walk 6 = .ok (.iload_n 3, 1) := by decide +kernel
theorem dL_walk_7 : decode cL_walk 7 = .ok (.invokevirtual 81, 3) := by decide +kernel
theorem dL_walk_10 : decode cL_walk 10 = .ok (.i2l, 1) := by decide +kernel
theorem dL_walk_11 : decode cL_walk 11 = .ok (.lastore, 1) := by decide +kernel
theorem dL_walk_12 : decode cL_walk 12 = .ok (.goto 11, 3) := by decide +kernel
theorem dL_walk_15 : decode cL_walk 15 = .ok (.astore 5, 2) := by decide +kernel
theorem dL_walk_17 : decode cL_walk 17 = .ok (.iconst 1, 1) := by decide +kernel
theorem dL_walk_18 : decode cL_walk 18 = .ok (.ireturn, 1) := by decide +kernel
theorem dL_walk_19 : decode cL_walk 19 = .ok (.astore 5, 2) := by decide +kernel
theorem dL_walk_21 : decode cL_walk 21 = .ok (.iconst 2, 1) := by decide +kernel
theorem dL_walk_22 : decode cL_walk 22 = .ok (.ireturn, 1) := by decide +kernel
theorem dL_walk_23 : decode cL_walk 23 = .ok (.iconst 0, 1) := by decide +kernel
theorem dL_walk_24 : decode cL_walk 24 = .ok (.ireturn, 1) := by decide +kernel
set_option maxRecDepth 20000 in
theorem ggL_draw_X8_draw : GoodIn wsL_draw wsX8_draw := goodIn_ca (goodIn_r _ [6, 7, 8, 9, 10, 5, 11, 12, 13, 14, 15, 16, 17, 18, 19, 20, 21, 22, 23, 24, 25, 26, 27, 28, 29, 30, 31, 32, 33, 34, 35, 36, 37, 38, 39, 40, 41, 42, 43, 44, 45, 46, 47, 48, 49, 50, 51, 52, 53, 54, 55, 56, 57, 58, 59] (by decide +kernel) (by decide +kernel)) (goodIn_sub (fun _ h => List.mem_cons_of_mem _ (List.mem_append_right _ h)) (by decide +kernel))
set_option maxRecDepth 20000 in
theorem gL_draw_X8_draw : GoodIn wsL_draw (wsV RL 84 RX8 yX8_draw wsX8_draw) := goodIn_app (goodIn_of _ (by decide +kernel)) ggL_draw_X8_draw
theorem dL_draw_0 : decode cL_draw 0 = .ok (.aload_n 2, 1) := by decide +kernel
theorem dL_draw_1 : decode cL_draw 1 = .ok (.iconst 0, 1) := by decide +kernel
theorem dL_draw_2 : decode cL_draw 2 = .ok (.aload_n 0, 1) := by decide +kernel
theorem dL_draw_3 : decode cL_draw 3 = .ok (.iload_n 1, 1) := by decide +kernel
theorem dL_draw_4 : decode cL_draw 4 = .ok (.invokevirtual 84, 3) := by decide +kernel
theorem dL_draw_7 : decode cL_draw 7 = .ok (.i2l, 1) := by decide +kernel
theorem dL_draw_8 : decode cL_draw 8 = .ok (.lastore, 1) := by decide +kernel
theorem dL_draw_9 : decode cL_draw 9 = .ok (.goto 6, 3) := by decide +kernel
theorem dL_draw_12 : decode cL_draw 12 = .ok (.astore_n 3, 1) := by decide +kernel
theorem dL_draw_13 : decode cL_draw 13 = .ok (.iconst 1, 1) := by decide +kernel
theorem dL_draw_14 : decode cL_draw 14 = .ok (.ireturn, 1) := by decide +kernel
theorem dL_draw_15 : decode cL_draw 15 = .ok (.iconst 0, 1) := by decide +kernel
theorem dL_draw_16 : decode cL_draw 16 = .ok (.ireturn, 1) := by decide +kernel
set_option maxRecDepth 20000 in
theorem ggL_drift_X8_drift : GoodIn wsL_drift wsX8_drift := goodIn_ca (goodIn_r _ [6, 7, 8, 9, 10, 5, 11, 12, 13, 14, 15, 16, 17, 18, 19, 20, 21, 22, 23, 24, 25, 26, 27, 28, 29, 30, 31, 32, 33, 34, 35, 36, 37, 38, 39, 40] (by decide +kernel) (by decide +kernel)) (goodIn_sub (fun _ h => List.mem_cons_of_mem _ (List.mem_append_right _ h)) (by decide +kernel))
set_option maxRecDepth 20000 in
theorem gL_drift_X8_drift : GoodIn wsL_drift (wsV RL 87 RX8 yX8_drift wsX8_drift) := goodIn_app (goodIn_of _ (by decide +kernel)) ggL_drift_X8_drift
theorem dL_drift_0 : decode cL_drift 0 = .ok (.aload_n 2, 1) := by decide +kernel
theorem dL_drift_1 : decode cL_drift 1 = .ok (.iconst 0, 1) := by decide +kernel
theorem dL_drift_2 : decode cL_drift 2 = .ok (.aload_n 0, 1) := by decide +kernel
theorem dL_drift_3 : decode cL_drift 3 = .ok (.iload_n 1, 1) := by decide +kernel
theorem dL_drift_4 : decode cL_drift 4 = .ok (.invokevirtual 87, 3) := by decide +kernel
theorem dL_drift_7 : decode cL_drift 7 = .ok (.lastore, 1) := by decide +kernel
theorem dL_drift_8 : decode cL_drift 8 = .ok (.goto 6, 3) := by decide +kernel
theorem dL_drift_11 : decode cL_drift 11 = .ok (.astore_n 3, 1) := by decide +kernel
theorem dL_drift_12 : decode cL_drift 12 = .ok (.iconst 1, 1) := by decide +kernel
theorem dL_drift_13 : decode cL_drift 13 = .ok (.ireturn, 1) := by decide +kernel
theorem dL_drift_14 : decode cL_drift 14 = .ok (.iconst 0, 1) := by decide +kernel
theorem dL_drift_15 : decode cL_drift 15 = .ok (.ireturn, 1) := by decide +kernel
set_option maxRecDepth 20000 in
theorem ggL_best_X8_best : GoodIn wsL_best wsX8_best := goodIn_ca (goodIn_ca (goodIn_r _ [7, 8, 9, 10, 11, 6, 12, 13, 14, 15, 16, 17, 18, 19, 20, 21, 22, 23, 24, 25, 26, 27, 28, 29, 30, 31, 32, 33, 34, 35, 36, 37, 38, 39, 40, 41, 42, 43, 44, 45, 46, 47, 48, 49, 50, 51, 52, 53, 54, 55, 56, 57, 58, 59, 60, 61, 62, 63, 64, 65, 66, 67, 68, 69, 70, 71, 72, 73] (by decide +kernel) (by decide +kernel)) (goodIn_sub (fun _ h => List.mem_cons_of_mem _ (List.mem_append_left _ (List.mem_append_right _ h))) (by decide +kernel))) (goodIn_sub (fun _ h => List.mem_cons_of_mem _ (List.mem_append_right _ h)) (by decide +kernel))
set_option maxRecDepth 20000 in
theorem gL_best_X8_best : GoodIn wsL_best (wsV RL 90 RX8 yX8_best wsX8_best) := goodIn_app (goodIn_of _ (by decide +kernel)) ggL_best_X8_best
theorem dL_best_0 : decode cL_best 0 = .ok (.aload_n 3, 1) := by decide +kernel
theorem dL_best_1 : decode cL_best 1 = .ok (.iconst 0, 1) := by decide +kernel
theorem dL_best_2 : decode cL_best 2 = .ok (.aload_n 0, 1) := by decide +kernel
theorem dL_best_3 : decode cL_best 3 = .ok (.iload_n 1, 1) := by decide +kernel
theorem dL_best_4 : decode cL_best 4 = .ok (.iload_n 2, 1) := by decide +kernel
theorem dL_best_5 : decode cL_best 5 = .ok (.invokevirtual 90, 3) := by decide +kernel
theorem dL_best_8 : decode cL_best 8 = .ok (.lastore, 1) := by decide +kernel
theorem dL_best_9 : decode cL_best 9 = .ok (.goto 11, 3) := by decide +kernel
theorem dL_best_12 : decode cL_best 12 = .ok (.astore 4, 2) := by decide +kernel
theorem dL_best_14 : decode cL_best 14 = .ok (.iconst 1, 1) := by decide +kernel
theorem dL_best_15 : decode cL_best 15 = .ok (.ireturn, 1) := by decide +kernel
theorem dL_best_16 : decode cL_best 16 = .ok (.astore 4, 2) := by decide +kernel
theorem dL_best_18 : decode cL_best 18 = .ok (.iconst 2, 1) := by decide +kernel
theorem dL_best_19 : decode cL_best 19 = .ok (.ireturn, 1) := by decide +kernel
theorem dL_best_20 : decode cL_best 20 = .ok (.iconst 0, 1) := by decide +kernel
theorem dL_best_21 : decode cL_best 21 = .ok (.ireturn, 1) := by decide +kernel
set_option maxRecDepth 20000 in
theorem ggL_stops_X8_stops : GoodIn wsL_stops wsX8_stops := goodIn_ca (goodIn_ca (goodIn_r _ [7, 8, 9, 10, 11, 6, 12, 13, 14, 15, 16, 17, 18, 19, 20, 21, 22, 23, 24, 25, 26, 27, 28, 29, 30, 31, 32, 33, 34, 35, 36, 37, 38, 39, 40, 41, 42, 43, 44, 45, 46, 47, 48, 49, 50, 51, 52, 53, 54, 55, 56, 57, 58, 59, 60, 61, 62, 63, 64, 65, 66, 67, 68, 69, 70, 71, 72, 73] (by decide +kernel) (by decide +kernel)) (goodIn_sub (fun _ h => List.mem_cons_of_mem _ (List.mem_append_left _ (List.mem_append_right _ h))) (by decide +kernel))) (goodIn_sub (fun _ h => List.mem_cons_of_mem _ (List.mem_append_right _ h)) (by decide +kernel))
set_option maxRecDepth 20000 in
theorem gL_stops_X8_stops : GoodIn wsL_stops (wsV RL 93 RX8 yX8_stops wsX8_stops) := goodIn_app (goodIn_of _ (by decide +kernel)) ggL_stops_X8_stops
theorem dL_stops_0 : decode cL_stops 0 = .ok (.aload_n 3, 1) := by decide +kernel
theorem dL_stops_1 : decode cL_stops 1 = .ok (.iconst 0, 1) := by decide +kernel
theorem dL_stops_2 : decode cL_stops 2 = .ok (.aload_n 0, 1) := by decide +kernel
theorem dL_stops_3 : decode cL_stops 3 = .ok (.iload_n 1, 1) := by decide +kernel
theorem dL_stops_4 : decode cL_stops 4 = .ok (.iload_n 2, 1) := by decide +kernel
theorem dL_stops_5 : decode cL_stops 5 = .ok (.invokevirtual 93, 3) := by decide +kernel
theorem dL_stops_8 : decode cL_stops 8 = .ok (.ifCond .eq 7, 3) := by decide +kernel
theorem dL_stops_11 : decode cL_stops 11 = .ok (.lconst 1, 1) := by decide +kernel
theorem dL_stops_12 : decode cL_stops 12 = .ok (.goto 4, 3) := by decide +kernel
theorem dL_stops_15 : decode cL_stops 15 = .ok (.lconst 0, 1) := by decide +kernel
theorem dL_stops_16 : decode cL_stops 16 = .ok (.lastore, 1) := by decide +kernel
theorem dL_stops_17 : decode cL_stops 17 = .ok (.goto 11, 3) := by decide +kernel
theorem dL_stops_20 : decode cL_stops 20 = .ok (.astore 4, 2) := by decide +kernel
theorem dL_stops_22 : decode cL_stops 22 = .ok (.iconst 1, 1) := by decide +kernel
theorem dL_stops_23 : decode cL_stops 23 = .ok (.ireturn, 1) := by decide +kernel
theorem dL_stops_24 : decode cL_stops 24 = .ok (.astore 4, 2) := by decide +kernel
theorem dL_stops_26 : decode cL_stops 26 = .ok (.iconst 2, 1) := by decide +kernel
theorem dL_stops_27 : decode cL_stops 27 = .ok (.ireturn, 1) := by decide +kernel
theorem dL_stops_28 : decode cL_stops 28 = .ok (.iconst 0, 1) := by decide +kernel
theorem dL_stops_29 : decode cL_stops 29 = .ok (.ireturn, 1) := by decide +kernel
set_option maxRecDepth 20000 in
theorem ggL_law__X8_init : GoodIn wsL_law_ wsX8_init := goodIn_r _ [10, 11, 12, 13, 14, 15, 16, 17, 18, 19, 20, 21, 22, 23, 24, 25, 26, 27, 28, 29, 30, 31, 32, 33, 34, 35, 36, 37, 38, 39, 40, 41, 42, 43, 44, 45, 46, 47, 48, 49, 50, 51, 52, 53, 54, 55, 56, 57, 58, 59, 6, 60, 61, 62, 63, 64, 65, 66, 67, 68, 69, 70, 71, 72, 73, 74, 75, 76, 77, 78, 79, 80, 81, 82, 83, 84, 85, 86, 87, 88, 89, 90, 91, 92, 93, 94, 95, 96, 97, 98, 99, 100, 101, 102, 103, 104, 105, 106, 107, 108, 109, 110, 111, 112, 113, 867, 868, 869, 870, 846, 847, 848, 849, 850, 851, 852, 853, 871, 872, 873, 874, 875, 876, 877, 878, 879, 880, 881, 882, 883, 884, 885, 886, 887, 888, 889] (by decide +kernel) (by decide +kernel)
set_option maxRecDepth 20000 in
theorem gL_law__X8_init : GoodIn wsL_law_ (wsX8_init) := ggL_law__X8_init
set_option maxRecDepth 20000 in
theorem ggL_law__X9_init : GoodIn wsL_law_ wsX9_init := goodIn_r _ [116, 117, 12, 13, 118, 119, 51, 120, 121, 122, 6, 123, 124, 125, 126, 127, 128, 129, 854, 855, 856, 857, 858, 859, 860, 861, 862, 863, 864, 865, 866] (by decide +kernel) (by decide +kernel)
set_option maxRecDepth 20000 in
theorem gL_law__X9_init : GoodIn wsL_law_ (wsX9_init) := ggL_law__X9_init
set_option maxRecDepth 20000 in
theorem ggL_law__L_begin : GoodIn wsL_law_ wsL_begin := goodIn_ca (goodIn_r _ [133, 134, 135, 136, 137, 2, 138, 17, 41, 45, 139, 140, 141, 142, 143, 104, 105, 106, 16, 107, 108, 109, 52, 53, 110, 111, 112, 113, 144, 145, 146, 40, 147, 95, 148, 149, 150, 151, 44, 152, 103, 153, 846, 847, 848, 849, 850, 851, 852, 853, 867, 868, 869, 870, 885, 886, 887, 888, 889] (by decide +kernel) (by decide +kernel)) (goodIn_sub (fun _ h => List.mem_append_left _ (List.mem_append_left _ (List.mem_append_right _ h))) (by decide +kernel))
set_option maxRecDepth 20000 in
theorem gL_law__L_begin : GoodIn wsL_law_ (va_wsS RL 101 yL_begin wsL_begin) := goodIn_app (goodIn_of _ (by decide +kernel)) ggL_law__L_begin
set_option maxRecDepth 20000 in
theorem ggL_law__X9_begin : GoodIn wsL_law_ wsX9_begin := goodIn_r _ [157, 118, 119, 121, 122, 120, 158, 159, 5, 160, 161, 162, 163, 164, 165, 854, 855, 856, 857, 858, 859, 860, 861, 862, 863, 864, 865, 866] (by decide +kernel) (by decide +kernel)
set_option maxRecDepth 20000 in
theorem gL_law__X9_begin : GoodIn wsL_law_ (wsV RL 106 RX9 yX9_begin wsX9_begin) := goodIn_app (goodIn_of _ (by decide +kernel)) ggL_law__X9_begin
set_option maxRecDepth 20000 in
theorem ggL_law__X9_thrown : GoodIn wsL_law_ wsX9_thrown := goodIn_r _ [169, 165, 854, 855, 856, 857, 858, 859, 860, 861, 862, 863, 864, 865, 866] (by decide +kernel) (by decide +kernel)
set_option maxRecDepth 20000 in
theorem gL_law__X9_thrown : GoodIn wsL_law_ (wsV RL 107 RX9 yX9_thrown wsX9_thrown) := goodIn_app (goodIn_of _ (by decide +kernel)) ggL_law__X9_thrown
set_option maxRecDepth 20000 in
theorem ggL_law__L_lead : GoodIn wsL_law_ wsL_lead := goodIn_ca (goodIn_r _ [172, 173, 174, 175, 176, 2, 177, 17, 178, 179, 180, 181, 182, 183, 184, 185, 186, 187, 188, 189, 190, 191, 192, 16, 193, 52, 53, 846, 847, 848, 849, 850, 851, 852, 853, 867, 868, 869, 870] (by decide +kernel) (by decide +kernel)) (goodIn_sub (fun _ h => List.mem_append_left _ (List.mem_append_right _ h)) (by decide +kernel))
set_option maxRecDepth 20000 in
theorem gL_law__L_lead : GoodIn wsL_law_ (va_wsS RL 111 yL_lead wsL_lead) := goodIn_app (goodIn_of _ (by decide +kernel)) ggL_law__L_lead
set_option maxRecDepth 20000 in
theorem ggL_law__X9_lead : GoodIn wsL_law_ wsX9_lead := goodIn_r _ [197, 120, 198, 199, 200, 5, 201, 118, 158, 159, 160, 202, 203, 204, 205, 119, 161, 162, 163, 164, 165, 206, 207, 208, 209, 854, 855, 856, 857, 858, 859, 860, 861, 862, 863, 864, 865, 866] (by decide +kernel) (by decide +kernel)
set_option maxRecDepth 20000 in
theorem gL_law__X9_lead : GoodIn wsL_law_ (wsV RL 114 RX9 yX9_lead wsX9_lead) := goodIn_app (goodIn_of _ (by decide +kernel)) ggL_law__X9_lead
set_option maxRecDepth 20000 in
theorem ggL_law__L_swap : GoodIn wsL_law_ wsL_swap := goodIn_ca (goodIn_r _ [212, 173, 213, 214, 215, 2, 216, 17, 178, 179, 180, 181, 182, 183, 184, 185, 186, 187, 188, 189, 217, 218, 219, 16, 220, 52, 846, 847, 848, 849, 850, 851, 852, 853, 867, 868, 869, 870] (by decide +kernel) (by decide +kernel)) (goodIn_sub (fun _ h => List.mem_append_left _ (List.mem_append_right _ h)) (by decide +kernel))
set_option maxRecDepth 20000 in
theorem gL_law__L_swap : GoodIn wsL_law_ (va_wsS RL 115 yL_swap wsL_swap) := goodIn_app (goodIn_of _ (by decide +kernel)) ggL_law__L_swap
set_option maxRecDepth 20000 in
theorem ggL_law__X9_swap : GoodIn wsL_law_ wsX9_swap := goodIn_r _ [224, 120, 198, 199, 200, 5, 201, 118, 158, 159, 160, 202, 203, 204, 205, 119, 161, 162, 163, 164, 165, 206, 207, 208, 209, 854, 855, 856, 857, 858, 859, 860, 861, 862, 863, 864, 865, 866] (by decide +kernel) (by decide +kernel)
set_option maxRecDepth 20000 in
theorem gL_law__X9_swap : GoodIn wsL_law_ (wsV RL 118 RX9 yX9_swap wsX9_swap) := goodIn_app (goodIn_of _ (by decide +kernel)) ggL_law__X9_swap
set_option maxRecDepth 20000 in
theorem ggL_law__L_pay : GoodIn wsL_law_ wsL_pay := goodIn_ca (goodIn_ca (goodIn_r _ [227, 173, 134, 228, 229, 230, 2, 231, 232, 233, 41, 178, 179, 180, 181, 182, 183, 17, 184, 139, 140, 141, 142, 143, 234, 235, 236, 40, 237, 95, 846, 847, 848, 849, 850, 851, 852, 853, 867, 868, 869, 870, 885, 886, 887] (by decide +kernel) (by decide +kernel)) (goodIn_sub (fun _ h => List.mem_append_left _ (List.mem_append_right _ h)) (by decide +kernel))) (goodIn_sub (fun _ h => List.mem_append_left _ (List.mem_append_left _ (List.mem_append_right _ h))) (by decide +kernel))
set_option maxRecDepth 20000 in
theorem gL_law__L_pay : GoodIn wsL_law_ (va_wsS RL 119 yL_pay wsL_pay) := goodIn_app (goodIn_of _ (by decide +kernel)) ggL_law__L_pay
set_option maxRecDepth 20000 in
theorem ggL_law__X9_pay : GoodIn wsL_law_ wsX9_pay := goodIn_r _ [241, 242, 243, 121, 198, 199, 200, 5, 201, 118, 158, 159, 160, 161, 162, 163, 164, 165, 854, 855, 856, 857, 858, 859, 860, 861, 862, 863, 864, 865, 866] (by decide +kernel) (by decide +kernel)
set_option maxRecDepth 20000 in
theorem gL_law__X9_pay : GoodIn wsL_law_ (wsV RL 122 RX9 yX9_pay wsX9_pay) := goodIn_app (goodIn_of _ (by decide +kernel)) ggL_law__X9_pay
set_option maxRecDepth 20000 in
theorem ggL_law__L_colour : GoodIn wsL_law_ wsL_colour := goodIn_ca (goodIn_ca (goodIn_r _ [246, 173, 134, 247, 248, 249, 2, 250, 45, 178, 179, 180, 181, 182, 183, 17, 184, 139, 140, 141, 142, 143, 251, 252, 253, 44, 254, 103, 846, 847, 848, 849, 850, 851, 852, 853, 867, 868, 869, 870, 888, 889] (by decide +kernel) (by decide +kernel)) (goodIn_sub (fun _ h => List.mem_append_left _ (List.mem_append_right _ h)) (by decide +kernel))) (goodIn_sub (fun _ h => List.mem_append_left _ (List.mem_append_left _ (List.mem_append_right _ h))) (by decide +kernel))
set_option maxRecDepth 20000 in
theorem gL_law__L_colour : GoodIn wsL_law_ (va_wsS RL 123 yL_colour wsL_colour) := goodIn_app (goodIn_of _ (by decide +kernel)) ggL_law__L_colour
set_option maxRecDepth 20000 in
theorem ggL_law__X9_colour : GoodIn wsL_law_ wsX9_colour := goodIn_r _ [258, 122, 198, 199, 200, 5, 201, 118, 158, 159, 160, 161, 162, 163, 164, 165, 854, 855, 856, 857, 858, 859, 860, 861, 862, 863, 864, 865, 866] (by decide +kernel) (by decide +kernel)
set_option maxRecDepth 20000 in
theorem gL_law__X9_colour : GoodIn wsL_law_ (wsV RL 125 RX9 yX9_colour wsX9_colour) := goodIn_app (goodIn_of _ (by decide +kernel)) ggL_law__X9_colour
set_option maxRecDepth 20000 in
theorem ggL_law__L_weight : GoodIn wsL_law_ wsL_weight := goodIn_ca (goodIn_r _ [261, 173, 262, 263, 264, 2, 265, 17, 266, 178, 179, 180, 181, 182, 183, 184, 846, 847, 848, 849, 850, 851, 852, 853, 867, 868, 869, 870] (by decide +kernel) (by decide +kernel)) (goodIn_sub (fun _ h => List.mem_append_left _ (List.mem_append_right _ h)) (by decide +kernel))
set_option maxRecDepth 20000 in
theorem gL_law__L_weight : GoodIn wsL_law_ (va_wsS RL 126 yL_weight wsL_weight) := goodIn_app (goodIn_of _ (by decide +kernel)) ggL_law__L_weight
set_option maxRecDepth 20000 in
theorem ggL_law__X9_weight : GoodIn wsL_law_ wsX9_weight := goodIn_r _ [270, 198, 199, 200, 5, 201, 118, 158, 159, 160, 161, 162, 163, 164, 165, 271, 272, 273, 274, 119, 206, 207, 208, 209, 120, 854, 855, 856, 857, 858, 859, 860, 861, 862, 863, 864, 865, 866] (by decide +kernel) (by decide +kernel)
set_option maxRecDepth 20000 in
theorem gL_law__X9_weight : GoodIn wsL_law_ (wsV RL 128 RX9 yX9_weight wsX9_weight) := goodIn_app (goodIn_of _ (by decide +kernel)) ggL_law__X9_weight
set_option maxRecDepth 20000 in
theorem ggL_law__L_words : GoodIn wsL_law_ wsL_words := goodIn_ca (goodIn_r _ [277, 134, 278, 279, 280, 2, 281, 17, 139, 140, 141, 142, 143, 282, 283, 284, 16, 285, 109, 846, 847, 848, 849, 850, 851, 852, 853, 867, 868, 869, 870] (by decide +kernel) (by decide +kernel)) (goodIn_sub (fun _ h => List.mem_append_left _ (List.mem_append_left _ (List.mem_append_right _ h))) (by decide +kernel))
set_option maxRecDepth 20000 in
theorem gL_law__L_words : GoodIn wsL_law_ (va_wsS RL 129 yL_words wsL_words) := goodIn_app (goodIn_of _ (by decide +kernel)) ggL_law__L_words
set_option maxRecDepth 20000 in
theorem ggL_law__X9_words : GoodIn wsL_law_ wsX9_words := goodIn_r _ [289, 290, 291, 5, 292, 158, 159, 160, 161, 162, 163, 164, 165, 293, 294, 295, 296, 119, 854, 855, 856, 857, 858, 859, 860, 861, 862, 863, 864, 865, 866] (by decide +kernel) (by decide +kernel)
set_option maxRecDepth 20000 in
theorem gL_law__X9_words : GoodIn wsL_law_ (wsV RL 132 RX9 yX9_words wsX9_words) := goodIn_app (goodIn_of _ (by decide +kernel)) ggL_law__X9_words
set_option maxRecDepth 20000 in
theorem ggL_law__L_law : GoodIn wsL_law_ wsL_law := goodIn_ca (goodIn_ca (goodIn_r _ [299, 173, 134, 300, 301, 302, 2, 303, 21, 178, 179, 180, 181, 182, 183, 17, 184, 139, 140, 141, 142, 143, 304, 305, 306, 20, 307, 60, 308, 309, 310, 311, 58, 312, 313, 314, 315, 316, 317, 318, 319, 846, 847, 848, 849, 850, 851, 852, 853, 867, 868, 869, 870, 871, 872, 873] (by decide +kernel) (by decide +kernel)) (goodIn_sub (fun _ h => List.mem_append_left _ (List.mem_append_right _ h)) (by decide +kernel))) (goodIn_sub (fun _ h => List.mem_append_left _ (List.mem_append_left _ (List.mem_append_right _ h))) (by decide +kernel))
set_option maxRecDepth 20000 in
theorem gL_law__L_law : GoodIn wsL_law_ (va_wsS RL 133 yL_law wsL_law) := goodIn_app (goodIn_of _ (by decide +kernel)) ggL_law__L_law
set_option maxRecDepth 20000 in
theorem ggL_law__X9_law : GoodIn wsL_law_ wsX9_law := goodIn_r _ [323, 324, 325, 326, 5, 327, 198, 199, 200, 201, 118, 158, 159, 160, 161, 162, 163, 164, 165, 328, 329, 330, 331, 123, 332, 333, 334, 335, 119, 124, 336, 337, 338, 339, 340, 341, 342, 343, 206, 207, 208, 209, 120, 854, 855, 856, 857, 858, 859, 860, 861, 862, 863, 864, 865, 866] (by decide +kernel) (by decide +kernel)
set_option maxRecDepth 20000 in
theorem gL_law__X9_law : GoodIn wsL_law_ (wsV RL 135 RX9 yX9_law wsX9_law) := goodIn_app (goodIn_of _ (by decide +kernel)) ggL_law__X9_law
set_option maxRecDepth 20000 in
theorem ggL_law__L_lawAnew : GoodIn wsL_law_ wsL_lawAnew := goodIn_ca (goodIn_ca (goodIn_r _ [346, 173, 134, 347, 348, 349, 2, 350, 17, 178, 179, 180, 181, 182, 183, 184, 139, 140, 141, 142, 143, 351, 352, 353, 189, 354, 846, 847, 848, 849, 850, 851, 852, 853, 867, 868, 869, 870] (by decide +kernel) (by decide +kernel)) (goodIn_sub (fun _ h => List.mem_append_left _ (List.mem_append_right _ h)) (by decide +kernel))) (goodIn_sub (fun _ h => List.mem_append_left _ (List.mem_append_left _ (List.mem_append_right _ h))) (by decide +kernel))
set_option maxRecDepth 20000 in
theorem gL_law__L_lawAnew : GoodIn wsL_law_ (va_wsS RL 136 yL_lawAnew wsL_lawAnew) := goodIn_app (goodIn_of _ (by decide +kernel)) ggL_law__L_lawAnew
set_option maxRecDepth 20000 in
theorem ggL_law__X9_lawAnew : GoodIn wsL_law_ wsX9_lawAnew := goodIn_r _ [358, 324, 325, 326, 5, 327, 198, 199, 200, 201, 118, 158, 159, 160, 161, 162, 163, 164, 165, 328, 329, 330, 331, 123, 332, 333, 334, 335, 119, 124, 336, 337, 338, 339, 340, 341, 342, 343, 206, 207, 208, 209, 120, 854, 855, 856, 857, 858, 859, 860, 861, 862, 863, 864, 865, 866] (by decide +kernel) (by decide +kernel)
set_option maxRecDepth 20000 in
theorem gL_law__X9_lawAnew : GoodIn wsL_law_ (wsV RL 138 RX9 yX9_lawAnew wsX9_lawAnew) := goodIn_app (goodIn_of _ (by decide +kernel)) ggL_law__X9_lawAnew
set_option maxRecDepth 20000 in
theorem ggL_law__L_distance : GoodIn wsL_law_ wsL_distance := goodIn_ca (goodIn_ca (goodIn_r _ [361, 173, 134, 362, 363, 364, 2, 365, 21, 178, 179, 180, 181, 182, 183, 17, 184, 139, 140, 141, 142, 143, 366, 309, 310, 20, 311, 58, 312, 60, 313, 314, 315, 316, 317, 318, 319, 367, 368, 369, 370, 371, 372, 373, 374, 846, 847, 848, 849, 850, 851, 852, 853, 867, 868, 869, 870, 871, 872, 873] (by decide +kernel) (by decide +kernel)) (goodIn_sub (fun _ h => List.mem_append_left _ (List.mem_append_right _ h)) (by decide +kernel))) (goodIn_sub (fun _ h => List.mem_append_left _ (List.mem_append_left _ (List.mem_append_right _ h))) (by decide +kernel))
set_option maxRecDepth 20000 in
theorem gL_law__L_distance : GoodIn wsL_law_ (va_wsS RL 139 yL_distance wsL_distance) := goodIn_app (goodIn_of _ (by decide +kernel)) ggL_law__L_distance
set_option maxRecDepth 20000 in
theorem ggL_law__X9_distance : GoodIn wsL_law_ wsX9_distance := goodIn_r _ [378, 324, 325, 326, 5, 327, 198, 199, 200, 201, 118, 158, 159, 160, 161, 162, 163, 164, 165, 379, 380, 381, 382, 125, 123, 332, 333, 334, 335, 119, 124, 336, 337, 338, 339, 340, 341, 342, 343, 206, 207, 208, 209, 120, 854, 855, 856, 857, 858, 859, 860, 861, 862, 863, 864, 865, 866] (by decide +kernel) (by decide +kernel)
set_option maxRecDepth 20000 in
theorem gL_law__X9_distance : GoodIn wsL_law_ (wsV RL 141 RX9 yX9_distance wsX9_distance) := goodIn_app (goodIn_of _ (by decide +kernel)) ggL_law__X9_distance
set_option maxRecDepth 20000 in
theorem ggL_law__L_mixing : GoodIn wsL_law_ wsL_mixing := goodIn_ca (goodIn_r _ [385, 134, 386, 387, 388, 2, 389, 21, 139, 140, 141, 142, 143, 366, 309, 310, 20, 311, 58, 312, 60, 313, 314, 315, 316, 317, 318, 319, 390, 391, 392, 393, 394, 395, 283, 284, 16, 285, 109, 396, 368, 369, 370, 371, 372, 373, 374, 846, 847, 848, 849, 850, 851, 852, 853, 871, 872, 873, 867, 868, 869, 870] (by decide +kernel) (by decide +kernel)) (goodIn_sub (fun _ h => List.mem_append_left _ (List.mem_append_left _ (List.mem_append_right _ h))) (by decide +kernel))
set_option maxRecDepth 20000 in
theorem gL_law__L_mixing : GoodIn wsL_law_ (va_wsS RL 142 yL_mixing wsL_mixing) := goodIn_app (goodIn_of _ (by decide +kernel)) ggL_law__L_mixing
set_option maxRecDepth 20000 in
theorem ggL_law__X9_mixing : GoodIn wsL_law_ wsX9_mixing := goodIn_r _ [400, 158, 159, 5, 160, 161, 162, 163, 164, 165, 401, 402, 403, 404, 118, 405, 379, 380, 381, 382, 125, 123, 332, 333, 334, 335, 119, 124, 336, 337, 338, 339, 340, 341, 342, 343, 206, 207, 208, 209, 120, 293, 294, 295, 296, 854, 855, 856, 857, 858, 859, 860, 861, 862, 863, 864, 865, 866] (by decide +kernel) (by decide +kernel)
set_option maxRecDepth 20000 in
theorem gL_law__X9_mixing : GoodIn wsL_law_ (wsV RL 144 RX9 yX9_mixing wsX9_mixing) := goodIn_app (goodIn_of _ (by decide +kernel)) ggL_law__X9_mixing
set_option maxRecDepth 20000 in
theorem ggL_law__L_apart : GoodIn wsL_law_ wsL_apart := goodIn_ca (goodIn_ca (goodIn_r _ [408, 173, 134, 409, 410, 411, 2, 412, 25, 178, 179, 180, 181, 182, 183, 17, 184, 139, 140, 141, 142, 143, 413, 414, 415, 24, 416, 66, 417, 68, 313, 314, 418, 419, 420, 421, 422, 423, 846, 847, 848, 849, 850, 851, 852, 853, 867, 868, 869, 870, 874, 875, 876] (by decide +kernel) (by decide +kernel)) (goodIn_sub (fun _ h => List.mem_append_left _ (List.mem_append_right _ h)) (by decide +kernel))) (goodIn_sub (fun _ h => List.mem_append_left _ (List.mem_append_left _ (List.mem_append_right _ h))) (by decide +kernel))
set_option maxRecDepth 20000 in
theorem gL_law__L_apart : GoodIn wsL_law_ (va_wsS RL 145 yL_apart wsL_apart) := goodIn_app (goodIn_of _ (by decide +kernel)) ggL_law__L_apart
set_option maxRecDepth 20000 in
theorem ggL_law__X9_apart : GoodIn wsL_law_ wsX9_apart := goodIn_r _ [427, 324, 325, 326, 5, 327, 198, 199, 200, 201, 118, 158, 159, 160, 161, 162, 163, 164, 165, 428, 429, 430, 431, 119, 124, 123, 336, 337, 338, 339, 340, 341, 342, 343, 206, 207, 208, 209, 120, 854, 855, 856, 857, 858, 859, 860, 861, 862, 863, 864, 865, 866] (by decide +kernel) (by decide +kernel)
set_option maxRecDepth 20000 in
theorem gL_law__X9_apart : GoodIn wsL_law_ (wsV RL 147 RX9 yX9_apart wsX9_apart) := goodIn_app (goodIn_of _ (by decide +kernel)) ggL_law__X9_apart
set_option maxRecDepth 20000 in
theorem ggL_law__L_together : GoodIn wsL_law_ wsL_together := goodIn_ca (goodIn_ca (goodIn_r _ [434, 173, 134, 435, 436, 437, 2, 438, 25, 178, 179, 180, 181, 182, 183, 17, 184, 139, 140, 141, 142, 143, 439, 440, 441, 24, 442, 66, 417, 69, 443, 444, 112, 445, 446, 447, 448, 449, 422, 450, 451, 452, 453, 423, 846, 847, 848, 849, 850, 851, 852, 853, 867, 868, 869, 870, 874, 875, 876] (by decide +kernel) (by decide +kernel)) (goodIn_sub (fun _ h => List.mem_append_left _ (List.mem_append_right _ h)) (by decide +kernel))) (goodIn_sub (fun _ h => List.mem_append_left _ (List.mem_append_left _ (List.mem_append_right _ h))) (by decide +kernel))
set_option maxRecDepth 20000 in
theorem gL_law__L_together : GoodIn wsL_law_ (va_wsS RL 148 yL_together wsL_together) := goodIn_app (goodIn_of _ (by decide +kernel)) ggL_law__L_together
set_option maxRecDepth 20000 in
theorem ggL_law__X9_together : GoodIn wsL_law_ wsX9_together := goodIn_r _ [457, 198, 199, 200, 5, 201, 118, 158, 159, 160, 290, 291, 292, 161, 162, 163, 164, 165, 458, 459, 460, 461, 119, 124, 123, 336, 337, 338, 339, 340, 341, 342, 343, 462, 463, 464, 465, 206, 207, 208, 209, 120, 854, 855, 856, 857, 858, 859, 860, 861, 862, 863, 864, 865, 866] (by decide +kernel) (by decide +kernel)
set_option maxRecDepth 20000 in
theorem gL_law__X9_together : GoodIn wsL_law_ (wsV RL 150 RX9 yX9_together wsX9_together) := goodIn_app (goodIn_of _ (by decide +kernel)) ggL_law__X9_together
set_option maxRecDepth 20000 in
theorem ggL_law__L_hits : GoodIn wsL_law_ wsL_hits := goodIn_ca (goodIn_ca (goodIn_r _ [468, 173, 134, 469, 470, 471, 2, 472, 21, 178, 179, 180, 181, 182, 183, 17, 184, 139, 140, 141, 142, 143, 473, 474, 475, 20, 476, 58, 312, 61, 477, 478, 479, 480, 395, 283, 284, 16, 285, 109, 481, 482, 483, 484, 108, 53, 846, 847, 848, 849, 850, 851, 852, 853, 867, 868, 869, 870, 871, 872, 873] (by decide +kernel) (by decide +kernel)) (goodIn_sub (fun _ h => List.mem_append_left _ (List.mem_append_right _ h)) (by decide +kernel))) (goodIn_sub (fun _ h => List.mem_append_left _ (List.mem_append_left _ (List.mem_append_right _ h))) (by decide +kernel))
set_option maxRecDepth 20000 in
theorem gL_law__L_hits : GoodIn wsL_law_ (va_wsS RL 151 yL_hits wsL_hits) := goodIn_app (goodIn_of _ (by decide +kernel)) ggL_law__L_hits
set_option maxRecDepth 20000 in
theorem ggL_law__X9_hits : GoodIn wsL_law_ wsX9_hits := goodIn_r _ [488, 324, 325, 326, 5, 327, 198, 199, 200, 201, 118, 158, 159, 160, 161, 162, 163, 164, 165, 489, 490, 491, 492, 123, 119, 124, 336, 337, 338, 339, 293, 294, 295, 296, 340, 341, 342, 343, 206, 207, 208, 209, 120, 854, 855, 856, 857, 858, 859, 860, 861, 862, 863, 864, 865, 866] (by decide +kernel) (by decide +kernel)
set_option maxRecDepth 20000 in
theorem gL_law__X9_hits : GoodIn wsL_law_ (wsV RL 153 RX9 yX9_hits wsX9_hits) := goodIn_app (goodIn_of _ (by decide +kernel)) ggL_law__X9_hits
set_option maxRecDepth 20000 in
theorem ggL_law__L_reach : GoodIn wsL_law_ wsL_reach := goodIn_ca (goodIn_r _ [495, 173, 496, 497, 498, 2, 499, 29, 178, 179, 180, 181, 182, 183, 17, 184, 500, 501, 502, 28, 503, 74, 504, 505, 506, 507, 508, 509, 846, 847, 848, 849, 850, 851, 852, 853, 867, 868, 869, 870, 877] (by decide +kernel) (by decide +kernel)) (goodIn_sub (fun _ h => List.mem_append_left _ (List.mem_append_right _ h)) (by decide +kernel))
set_option maxRecDepth 20000 in
theorem gL_law__L_reach : GoodIn wsL_law_ (va_wsS RL 154 yL_reach wsL_reach) := goodIn_app (goodIn_of _ (by decide +kernel)) ggL_law__L_reach
set_option maxRecDepth 20000 in
theorem ggL_law__X9_reach : GoodIn wsL_law_ wsX9_reach := goodIn_r _ [513, 198, 199, 200, 5, 201, 118, 158, 159, 160, 161, 162, 163, 164, 165, 514, 515, 516, 517, 518, 519, 520, 521, 119, 462, 463, 464, 465, 206, 207, 208, 209, 120, 854, 855, 856, 857, 858, 859, 860, 861, 862, 863, 864, 865, 866] (by decide +kernel) (by decide +kernel)
set_option maxRecDepth 20000 in
theorem gL_law__X9_reach : GoodIn wsL_law_ (wsV RL 156 RX9 yX9_reach wsX9_reach) := goodIn_app (goodIn_of _ (by decide +kernel)) ggL_law__X9_reach
set_option maxRecDepth 20000 in
theorem ggL_law__X8_closed : GoodIn wsL_law_ wsX8_closed := goodIn_r _ [525, 29, 526, 527, 528, 28, 529, 74, 504, 530, 531, 532, 533, 534, 501, 502, 503, 505, 506, 507, 508, 509, 846, 847, 848, 849, 850, 851, 852, 853, 877, 867, 868, 869, 870] (by decide +kernel) (by decide +kernel)
set_option maxRecDepth 20000 in
theorem gL_law__X8_closed : GoodIn wsL_law_ (wsV RL 157 RX8 yX8_closed wsX8_closed) := goodIn_app (goodIn_of _ (by decide +kernel)) ggL_law__X8_closed
set_option maxRecDepth 20000 in
theorem ggL_law__X9_closed : GoodIn wsL_law_ wsX9_closed := goodIn_r _ [538, 165, 118, 539, 540, 541, 5, 542, 514, 515, 516, 517, 518, 519, 520, 521, 119, 462, 463, 464, 465, 206, 207, 208, 209, 120, 854, 855, 856, 857, 858, 859, 860, 861, 862, 863, 864, 865, 866] (by decide +kernel) (by decide +kernel)
set_option maxRecDepth 20000 in
theorem gL_law__X9_closed : GoodIn wsL_law_ (wsV RL 160 RX9 yX9_closed wsX9_closed) := goodIn_app (goodIn_of _ (by decide +kernel)) ggL_law__X9_closed
set_option maxRecDepth 20000 in
theorem ggL_law__L_period : GoodIn wsL_law_ wsL_period := goodIn_ca (goodIn_r _ [545, 173, 546, 547, 548, 2, 549, 29, 178, 179, 180, 181, 182, 183, 17, 184, 550, 551, 552, 28, 553, 505, 506, 507, 508, 74, 504, 509, 554, 555, 556, 557, 558, 559, 846, 847, 848, 849, 850, 851, 852, 853, 867, 868, 869, 870, 877] (by decide +kernel) (by decide +kernel)) (goodIn_sub (fun _ h => List.mem_append_left _ (List.mem_append_right _ h)) (by decide +kernel))
set_option maxRecDepth 20000 in
theorem gL_law__L_period : GoodIn wsL_law_ (va_wsS RL 161 yL_period wsL_period) := goodIn_app (goodIn_of _ (by decide +kernel)) ggL_law__L_period
set_option maxRecDepth 20000 in
theorem ggL_law__X9_period : GoodIn wsL_law_ wsX9_period := goodIn_r _ [563, 198, 199, 200, 5, 201, 118, 158, 159, 160, 161, 162, 163, 164, 165, 518, 519, 520, 521, 119, 462, 463, 464, 465, 206, 207, 208, 209, 120, 564, 565, 566, 854, 855, 856, 857, 858, 859, 860, 861, 862, 863, 864, 865, 866] (by decide +kernel) (by decide +kernel)
set_option maxRecDepth 20000 in
theorem gL_law__X9_period : GoodIn wsL_law_ (wsV RL 163 RX9 yX9_period wsX9_period) := goodIn_app (goodIn_of _ (by decide +kernel)) ggL_law__X9_period
set_option maxRecDepth 20000 in
theorem ggL_law__L_rest : GoodIn wsL_law_ wsL_rest := goodIn_ca (goodIn_r _ [569, 173, 570, 571, 572, 2, 573, 33, 574, 575, 576, 32, 577, 79, 578, 80, 579, 580, 581, 582, 583, 584, 585, 586, 82, 587, 588, 589, 590, 81, 591, 592, 593, 594, 595, 596, 597, 598, 599, 600, 601, 602, 603, 604, 605, 606, 607, 178, 179, 180, 181, 182, 183, 17, 184, 608, 846, 847, 848, 849, 850, 851, 852, 853, 878, 879, 880, 881, 867, 868, 869, 870] (by decide +kernel) (by decide +kernel)) (goodIn_sub (fun _ h => List.mem_append_left _ (List.mem_append_right _ h)) (by decide +kernel))
set_option maxRecDepth 20000 in
theorem gL_law__L_rest : GoodIn wsL_law_ (va_wsS RL 164 yL_rest wsL_rest) := goodIn_app (goodIn_of _ (by decide +kernel)) ggL_law__L_rest
set_option maxRecDepth 20000 in
theorem ggL_law__X9_rest : GoodIn wsL_law_ wsX9_rest := goodIn_r _ [612, 198, 199, 200, 5, 201, 118, 158, 159, 160, 161, 162, 163, 164, 165, 613, 614, 615, 616, 617, 618, 619, 620, 126, 127, 621, 622, 623, 624, 119, 271, 272, 273, 274, 206, 207, 208, 209, 120, 625, 626, 627, 854, 855, 856, 857, 858, 859, 860, 861, 862, 863, 864, 865, 866] (by decide +kernel) (by decide +kernel)
set_option maxRecDepth 20000 in
theorem gL_law__X9_rest : GoodIn wsL_law_ (wsV RL 166 RX9 yX9_rest wsX9_rest) := goodIn_app (goodIn_of _ (by decide +kernel)) ggL_law__X9_rest
set_option maxRecDepth 20000 in
theorem ggL_law__L_share : GoodIn wsL_law_ wsL_share := goodIn_ca (goodIn_ca (goodIn_r _ [630, 173, 631, 632, 633, 634, 2, 635, 636, 637, 33, 178, 179, 180, 181, 182, 183, 17, 184, 574, 575, 576, 32, 577, 79, 578, 80, 579, 580, 581, 582, 583, 584, 585, 586, 82, 587, 588, 589, 590, 81, 591, 592, 593, 594, 595, 596, 597, 598, 599, 600, 601, 602, 603, 604, 605, 606, 607, 608, 846, 847, 848, 849, 850, 851, 852, 853, 867, 868, 869, 870, 878, 879, 880, 881] (by decide +kernel) (by decide +kernel)) (goodIn_sub (fun _ h => List.mem_append_right _ h) (by decide +kernel))) (goodIn_sub (fun _ h => List.mem_append_left _ (List.mem_append_right _ h)) (by decide +kernel))
set_option maxRecDepth 20000 in
theorem gL_law__L_share : GoodIn wsL_law_ (va_wsS RL 167 yL_share wsL_share) := goodIn_app (goodIn_of _ (by decide +kernel)) ggL_law__L_share
set_option maxRecDepth 20000 in
theorem ggL_law__X9_share : GoodIn wsL_law_ wsX9_share := goodIn_r _ [641, 198, 199, 200, 5, 201, 118, 158, 159, 160, 613, 614, 615, 616, 617, 618, 619, 620, 126, 127, 621, 622, 623, 624, 119, 271, 272, 273, 274, 206, 207, 208, 209, 120, 625, 626, 627, 161, 162, 163, 164, 165, 854, 855, 856, 857, 858, 859, 860, 861, 862, 863, 864, 865, 866] (by decide +kernel) (by decide +kernel)
set_option maxRecDepth 20000 in
theorem gL_law__X9_share : GoodIn wsL_law_ (wsV RL 170 RX9 yX9_share wsX9_share) := goodIn_app (goodIn_of _ (by decide +kernel)) ggL_law__X9_share
set_option maxRecDepth 20000 in
theorem ggL_law__L_ranked : GoodIn wsL_law_ wsL_ranked := goodIn_ca (goodIn_r _ [644, 173, 645, 646, 647, 2, 648, 182, 183, 33, 17, 184, 649, 580, 581, 32, 582, 79, 578, 80, 583, 584, 585, 586, 82, 587, 588, 589, 590, 81, 591, 592, 593, 594, 595, 596, 597, 598, 599, 600, 601, 602, 603, 604, 605, 606, 607, 650, 651, 652, 653, 846, 847, 848, 849, 850, 851, 852, 853, 867, 868, 869, 870, 878, 879, 880, 881] (by decide +kernel) (by decide +kernel)) (goodIn_sub (fun _ h => List.mem_append_left _ (List.mem_append_right _ h)) (by decide +kernel))
set_option maxRecDepth 20000 in
theorem gL_law__L_ranked : GoodIn wsL_law_ (va_wsS RL 171 yL_ranked wsL_ranked) := goodIn_app (goodIn_of _ (by decide +kernel)) ggL_law__L_ranked
set_option maxRecDepth 20000 in
theorem ggL_law__X9_ranked : GoodIn wsL_law_ wsX9_ranked := goodIn_r _ [657, 118, 161, 162, 163, 5, 164, 165, 658, 659, 660, 661, 617, 618, 619, 620, 126, 127, 621, 622, 623, 624, 119, 271, 272, 273, 274, 206, 207, 208, 209, 120, 625, 626, 627, 854, 855, 856, 857, 858, 859, 860, 861, 862, 863, 864, 865, 866] (by decide +kernel) (by decide +kernel)
set_option maxRecDepth 20000 in
theorem gL_law__X9_ranked : GoodIn wsL_law_ (wsV RL 173 RX9 yX9_ranked wsX9_ranked) := goodIn_app (goodIn_of _ (by decide +kernel)) ggL_law__X9_ranked
set_option maxRecDepth 20000 in
theorem ggL_law__L_walk : GoodIn wsL_law_ wsL_walk := goodIn_ca (goodIn_ca (goodIn_r _ [664, 173, 134, 665, 666, 667, 2, 668, 669, 37, 178, 179, 180, 181, 182, 183, 17, 184, 139, 140, 141, 142, 143, 670, 671, 672, 36, 673, 87, 674, 675, 676, 677, 678, 679, 680, 681, 682, 683, 846, 847, 848, 849, 850, 851, 852, 853, 867, 868, 869, 870, 882, 883, 884] (by decide +kernel) (by decide +kernel)) (goodIn_sub (fun _ h => List.mem_append_left _ (List.mem_append_right _ h)) (by decide +kernel))) (goodIn_sub (fun _ h => List.mem_append_left _ (List.mem_append_left _ (List.mem_append_right _ h))) (by decide +kernel))
set_option maxRecDepth 20000 in
theorem gL_law__L_walk : GoodIn wsL_law_ (va_wsS RL 174 yL_walk wsL_walk) := goodIn_app (goodIn_of _ (by decide +kernel)) ggL_law__L_walk
set_option maxRecDepth 20000 in
theorem ggL_law__X9_walk : GoodIn wsL_law_ wsX9_walk := goodIn_r _ [687, 119, 198, 199, 200, 5, 201, 118, 158, 159, 160, 688, 689, 690, 691, 161, 162, 163, 164, 165, 692, 693, 694, 695, 206, 207, 208, 209, 120, 854, 855, 856, 857, 858, 859, 860, 861, 862, 863, 864, 865, 866] (by decide +kernel) (by decide +kernel)
set_option maxRecDepth 20000 in
theorem gL_law__X9_walk : GoodIn wsL_law_ (wsV RL 176 RX9 yX9_walk wsX9_walk) := goodIn_app (goodIn_of _ (by decide +kernel)) ggL_law__X9_walk
set_option maxRecDepth 20000 in
theorem ggL_law__L_draw : GoodIn wsL_law_ wsL_draw := goodIn_ca (goodIn_r _ [698, 134, 699, 700, 701, 2, 702, 669, 37, 139, 140, 141, 142, 143, 703, 704, 705, 36, 706, 87, 707, 88, 708, 709, 710, 711, 675, 676, 677, 678, 679, 680, 681, 682, 683, 712, 713, 714, 715, 89, 716, 717, 718, 719, 674, 846, 847, 848, 849, 850, 851, 852, 853, 882, 883, 884, 867, 868, 869, 870] (by decide +kernel) (by decide +kernel)) (goodIn_sub (fun _ h => List.mem_append_left _ (List.mem_append_left _ (List.mem_append_right _ h))) (by decide +kernel))
set_option maxRecDepth 20000 in
theorem gL_law__L_draw : GoodIn wsL_law_ (va_wsS RL 177 yL_draw wsL_draw) := goodIn_app (goodIn_of _ (by decide +kernel)) ggL_law__L_draw
set_option maxRecDepth 20000 in
theorem ggL_law__X9_draw : GoodIn wsL_law_ wsX9_draw := goodIn_r _ [723, 118, 128, 129, 119, 688, 689, 5, 690, 691, 158, 159, 160, 161, 162, 163, 164, 165, 724, 725, 726, 727, 692, 693, 694, 695, 206, 207, 208, 209, 120, 854, 855, 856, 857, 858, 859, 860, 861, 862, 863, 864, 865, 866] (by decide +kernel) (by decide +kernel)
set_option maxRecDepth 20000 in
theorem gL_law__X9_draw : GoodIn wsL_law_ (wsV RL 179 RX9 yX9_draw wsX9_draw) := goodIn_app (goodIn_of _ (by decide +kernel)) ggL_law__X9_draw
set_option maxRecDepth 20000 in
theorem ggL_law__L_drift : GoodIn wsL_law_ wsL_drift := goodIn_ca (goodIn_r _ [730, 173, 731, 732, 733, 2, 734, 41, 178, 179, 180, 181, 182, 183, 17, 184, 735, 736, 737, 40, 738, 94, 739, 740, 95, 741, 846, 847, 848, 849, 850, 851, 852, 853, 867, 868, 869, 870, 885, 886, 887] (by decide +kernel) (by decide +kernel)) (goodIn_sub (fun _ h => List.mem_append_left _ (List.mem_append_right _ h)) (by decide +kernel))
set_option maxRecDepth 20000 in
theorem gL_law__L_drift : GoodIn wsL_law_ (va_wsS RL 180 yL_drift wsL_drift) := goodIn_app (goodIn_of _ (by decide +kernel)) ggL_law__L_drift
set_option maxRecDepth 20000 in
theorem ggL_law__X9_drift : GoodIn wsL_law_ wsX9_drift := goodIn_r _ [745, 198, 199, 200, 5, 201, 118, 158, 159, 160, 161, 162, 163, 164, 165, 746, 747, 748, 749, 119, 121, 206, 207, 208, 209, 120, 854, 855, 856, 857, 858, 859, 860, 861, 862, 863, 864, 865, 866] (by decide +kernel) (by decide +kernel)
set_option maxRecDepth 20000 in
theorem gL_law__X9_drift : GoodIn wsL_law_ (wsV RL 182 RX9 yX9_drift wsX9_drift) := goodIn_app (goodIn_of _ (by decide +kernel)) ggL_law__X9_drift
set_option maxRecDepth 20000 in
theorem ggL_law__X8_isFair : GoodIn wsL_law_ wsX8_isFair := goodIn_r _ [753, 17, 184, 41, 735, 736, 737, 40, 738, 94, 739, 740, 95, 741, 846, 847, 848, 849, 850, 851, 852, 853, 867, 868, 869, 870, 885, 886, 887] (by decide +kernel) (by decide +kernel)
set_option maxRecDepth 20000 in
theorem gL_law__X8_isFair : GoodIn wsL_law_ (wsV RL 183 RX8 yX8_isFair wsX8_isFair) := goodIn_app (goodIn_of _ (by decide +kernel)) ggL_law__X8_isFair
set_option maxRecDepth 20000 in
theorem ggL_law__X9_isFair : GoodIn wsL_law_ wsX9_isFair := goodIn_r _ [757, 165, 118, 746, 747, 748, 5, 749, 119, 121, 206, 207, 208, 209, 120, 854, 855, 856, 857, 858, 859, 860, 861, 862, 863, 864, 865, 866] (by decide +kernel) (by decide +kernel)
set_option maxRecDepth 20000 in
theorem gL_law__X9_isFair : GoodIn wsL_law_ (wsV RL 187 RX9 yX9_isFair wsX9_isFair) := goodIn_app (goodIn_of _ (by decide +kernel)) ggL_law__X9_isFair
set_option maxRecDepth 20000 in
theorem ggL_law__L_best : GoodIn wsL_law_ wsL_best := goodIn_ca (goodIn_ca (goodIn_r _ [760, 173, 134, 761, 762, 763, 2, 764, 41, 178, 179, 180, 181, 182, 183, 17, 184, 139, 140, 141, 142, 143, 765, 766, 767, 40, 768, 97, 769, 770, 771, 772, 94, 739, 773, 372, 373, 374, 774, 775, 776, 777, 95, 778, 283, 284, 16, 285, 109, 779, 780, 781, 782, 783, 482, 483, 484, 108, 53, 846, 847, 848, 849, 850, 851, 852, 853, 867, 868, 869, 870, 885, 886, 887] (by decide +kernel) (by decide +kernel)) (goodIn_sub (fun _ h => List.mem_append_left _ (List.mem_append_right _ h)) (by decide +kernel))) (goodIn_sub (fun _ h => List.mem_append_left _ (List.mem_append_left _ (List.mem_append_right _ h))) (by decide +kernel))
set_option maxRecDepth 20000 in
theorem gL_law__L_best : GoodIn wsL_law_ (va_wsS RL 188 yL_best wsL_best) := goodIn_app (goodIn_of _ (by decide +kernel)) ggL_law__L_best
set_option maxRecDepth 20000 in
theorem ggL_law__X9_best : GoodIn wsL_law_ wsX9_best := goodIn_r _ [787, 123, 198, 199, 200, 5, 201, 118, 158, 159, 160, 290, 291, 292, 161, 162, 163, 164, 165, 788, 789, 790, 791, 121, 125, 124, 119, 206, 207, 208, 209, 120, 293, 294, 295, 296, 854, 855, 856, 857, 858, 859, 860, 861, 862, 863, 864, 865, 866] (by decide +kernel) (by decide +kernel)
set_option maxRecDepth 20000 in
theorem gL_law__X9_best : GoodIn wsL_law_ (wsV RL 190 RX9 yX9_best wsX9_best) := goodIn_app (goodIn_of _ (by decide +kernel)) ggL_law__X9_best
set_option maxRecDepth 20000 in
theorem ggL_law__L_stops : GoodIn wsL_law_ wsL_stops := goodIn_ca (goodIn_ca (goodIn_r _ [794, 173, 134, 795, 796, 797, 2, 798, 41, 178, 179, 180, 181, 182, 183, 17, 184, 139, 140, 141, 142, 143, 799, 800, 801, 40, 802, 769, 770, 771, 772, 94, 739, 97, 773, 372, 373, 374, 774, 775, 776, 777, 95, 778, 283, 284, 16, 285, 109, 779, 780, 781, 782, 783, 482, 483, 484, 108, 53, 846, 847, 848, 849, 850, 851, 852, 853, 867, 868, 869, 870, 885, 886, 887] (by decide +kernel) (by decide +kernel)) (goodIn_sub (fun _ h => List.mem_append_left _ (List.mem_append_right _ h)) (by decide +kernel))) (goodIn_sub (fun _ h => List.mem_append_left _ (List.mem_append_left _ (List.mem_append_right _ h))) (by decide +kernel))
set_option maxRecDepth 20000 in
theorem gL_law__L_stops : GoodIn wsL_law_ (va_wsS RL 191 yL_stops wsL_stops) := goodIn_app (goodIn_of _ (by decide +kernel)) ggL_law__L_stops
set_option maxRecDepth 20000 in
theorem ggL_law__X9_stops : GoodIn wsL_law_ wsX9_stops := goodIn_r _ [806, 121, 125, 198, 199, 200, 5, 201, 118, 158, 159, 160, 290, 291, 292, 161, 162, 163, 164, 165, 788, 789, 790, 791, 123, 124, 119, 206, 207, 208, 209, 120, 293, 294, 295, 296, 854, 855, 856, 857, 858, 859, 860, 861, 862, 863, 864, 865, 866] (by decide +kernel) (by decide +kernel)
set_option maxRecDepth 20000 in
theorem gL_law__X9_stops : GoodIn wsL_law_ (wsV RL 193 RX9 yX9_stops wsX9_stops) := goodIn_app (goodIn_of _ (by decide +kernel)) ggL_law__X9_stops
set_option maxRecDepth 20000 in
theorem ggL_law__X8_reverses : GoodIn wsL_law_ wsX8_reverses := goodIn_r _ [810, 33, 811, 812, 813, 32, 814, 79, 578, 80, 607, 815, 575, 576, 577, 579, 580, 581, 582, 583, 584, 585, 586, 82, 587, 588, 589, 590, 81, 591, 592, 593, 594, 595, 596, 597, 598, 599, 600, 601, 602, 603, 604, 605, 606, 846, 847, 848, 849, 850, 851, 852, 853, 878, 879, 880, 881, 867, 868, 869, 870] (by decide +kernel) (by decide +kernel)
set_option maxRecDepth 20000 in
theorem gL_law__X8_reverses : GoodIn wsL_law_ (wsV RL 194 RX8 yX8_reverses wsX8_reverses) := goodIn_app (goodIn_of _ (by decide +kernel)) ggL_law__X8_reverses
set_option maxRecDepth 20000 in
theorem ggL_law__X9_reverses : GoodIn wsL_law_ wsX9_reverses := goodIn_r _ [819, 165, 118, 613, 614, 615, 5, 616, 617, 618, 619, 620, 126, 127, 621, 622, 623, 624, 119, 271, 272, 273, 274, 206, 207, 208, 209, 120, 625, 626, 627, 854, 855, 856, 857, 858, 859, 860, 861, 862, 863, 864, 865, 866] (by decide +kernel) (by decide +kernel)
set_option maxRecDepth 20000 in
theorem gL_law__X9_reverses : GoodIn wsL_law_ (wsV RL 197 RX9 yX9_reverses wsX9_reverses) := goodIn_app (goodIn_of _ (by decide +kernel)) ggL_law__X9_reverses
set_option maxRecDepth 20000 in
theorem ggL_law__X8_isLumped : GoodIn wsL_law_ wsX8_isLumped := goodIn_r _ [823, 45, 824, 825, 826, 44, 827, 102, 828, 103, 829, 830, 831, 832, 833, 834, 835, 836, 837, 846, 847, 848, 849, 850, 851, 852, 853, 888, 889, 867, 868, 869, 870] (by decide +kernel) (by decide +kernel)
set_option maxRecDepth 20000 in
theorem gL_law__X8_isLumped : GoodIn wsL_law_ (wsV RL 198 RX8 yX8_isLumped wsX8_isLumped) := goodIn_app (goodIn_of _ (by decide +kernel)) ggL_law__X8_isLumped
set_option maxRecDepth 20000 in
theorem ggL_law__X9_isLumped : GoodIn wsL_law_ wsX9_isLumped := goodIn_r _ [841, 165, 118, 122, 842, 843, 844, 5, 845, 271, 272, 273, 274, 119, 206, 207, 208, 209, 120, 854, 855, 856, 857, 858, 859, 860, 861, 862, 863, 864, 865, 866] (by decide +kernel) (by decide +kernel)
set_option maxRecDepth 20000 in
theorem gL_law__X9_isLumped : GoodIn wsL_law_ (wsV RL 201 RX9 yX9_isLumped wsX9_isLumped) := goodIn_app (goodIn_of _ (by decide +kernel)) ggL_law__X9_isLumped
theorem dL_law__0 : decode cL_law_ 0 = .ok (.new 8, 3) := by decide +kernel
theorem dL_law__3 : decode cL_law_ 3 = .ok (.dup, 1) := by decide +kernel
theorem dL_law__4 : decode cL_law_ 4 = .ok (.invokespecial 97, 3) := by decide +kernel
theorem dL_law__7 : decode cL_law_ 7 = .ok (.astore_n 1, 1) := by decide +kernel
theorem dL_law__8 : decode cL_law_ 8 = .ok (.new 98, 3) := by decide +kernel
theorem dL_law__11 : decode cL_law_ 11 = .ok (.dup, 1) := by decide +kernel
theorem dL_law__12 : decode cL_law_ 12 = .ok (.invokespecial 100, 3) := by decide +kernel
theorem dL_law__15 : decode cL_law_ 15 = .ok (.astore_n 2, 1) := by decide +kernel
theorem dL_law__16 : decode cL_law_ 16 = .ok (.iconst 1, 1) := by decide +kernel
theorem dL_law__17 : decode cL_law_ 17 = .ok (.newarray .long, 2) := by decide +kernel
theorem dL_law__19 : decode cL_law_ 19 = .ok (.astore_n 3, 1) := by decide +kernel
theorem dL_law__20 : decode cL_law_ 20 = .ok (.iconst 1, 1) := by decide +kernel
theorem dL_law__21 : decode cL_law_ 21 = .ok (.newarray .double, 2) := by decide +kernel
theorem dL_law__23 : decode cL_law_ 23 = .ok (.astore 4, 2) := by decide +kernel
theorem dL_law__25 : decode cL_law_ 25 = .ok (.iconst 0, 1) := by decide +kernel
theorem dL_law__26 : decode cL_law_ 26 = .ok (.istore 5, 2) := by decide +kernel
theorem dL_law__28 : decode cL_law_ 28 = .ok (.iload 5, 2) := by decide +kernel
theorem dL_law__30 : decode cL_law_ 30 = .ok (.aload_n 0, 1) := by decide +kernel
theorem dL_law__31 : decode cL_law_ 31 = .ok (.arraylength, 1) := by decide +kernel
theorem dL_law__32 : decode cL_law_ 32 = .ok (.iconst 4, 1) := by decide +kernel
theorem dL_law__33 : decode cL_law_ 33 = .ok (.isub, 1) := by decide +kernel
theorem dL_law__34 : decode cL_law_ 34 = .ok (.if_icmp .gt 1795, 3) := by decide +kernel
theorem dL_law__37 : decode cL_law_ 37 = .ok (.aload_n 0, 1) := by decide +kernel
theorem dL_law__38 : decode cL_law_ 38 = .ok (.iload 5, 2) := by decide +kernel
theorem dL_law__40 : decode cL_law_ 40 = .ok (.iaload, 1) := by decide +kernel
theorem dL_law__41 : decode cL_law_ 41 = .ok (.bipush 31, 2) := by decide +kernel
theorem dL_law__43 : decode cL_law_ 43 = .ok (.iand, 1) := by decide +kernel
theorem dL_law__44 : decode cL_law_ 44 = .ok (.tableswitch 1779 0 27 #[128, 176, 256, 316, 384, 452, 520, 575, 654, 733, 812, 868, 947, 1014, 1093, 1149, 1162, 1218, 1273, 1351, 1407, 1487, 1543, 1598, 1611, 1678, 1753, 1766], 128) := by decide +kernel
theorem dL_law__172 : decode cL_law_ 172 = .ok (.aload_n 1, 1) := by decide +kernel
theorem dL_law__173 : decode cL_law_ 173 = .ok (.aload_n 0, 1) := by decide +kernel
theorem dL_law__174 : decode cL_law_ 174 = .ok (.iload 5, 2) := by decide +kernel
theorem dL_law__176 : decode cL_law_ 176 = .ok (.iconst 1, 1) := by decide +kernel
theorem dL_law__177 : decode cL_law_ 177 = .ok (.iadd, 1) := by decide +kernel
theorem dL_law__178 : decode cL_law_ 178 = .ok (.iaload, 1) := by decide +kernel
theorem dL_law__179 : decode cL_law_ 179 = .ok (.aload_n 0, 1) := by decide +kernel
theorem dL_law__180 : decode cL_law_ 180 = .ok (.iload 5, 2) := by decide +kernel
theorem dL_law__182 : decode cL_law_ 182 = .ok (.iconst 2, 1) := by decide +kernel
theorem dL_law__183 : decode cL_law_ 183 = .ok (.iadd, 1) := by decide +kernel
theorem dL_law__184 : decode cL_law_ 184 = .ok (.iaload, 1) := by decide +kernel
theorem dL_law__185 : decode cL_law_ 185 = .ok (.invokestatic 101, 3) := by decide +kernel
theorem dL_law__188 : decode cL_law_ 188 = .ok (.istore 6, 2) := by decide +kernel
theorem dL_law__190 : decode cL_law_ 190 = .ok (.aload_n 2, 1) := by decide +kernel
theorem dL_law__191 : decode cL_law_ 191 = .ok (.aload_n 0, 1) := by decide +kernel
theorem dL_law__192 : decode cL_law_ 192 = .ok (.iload 5, 2) := by decide +kernel
theorem dL_law__194 : decode cL_law_ 194 = .ok (.iconst 1, 1) := by decide +kernel
theorem dL_law__195 : decode cL_law_ 195 = .ok (.iadd, 1) := by decide +kernel
theorem dL_law__196 : decode cL_law_ 196 = .ok (.iaload, 1) := by decide +kernel
theorem dL_law__197 : decode cL_law_ 197 = .ok (.aload_n 0, 1) := by decide +kernel
theorem dL_law__198 : decode cL_law_ 198 = .ok (.iload 5, 2) := by decide +kernel
theorem dL_law__200 : decode cL_law_ 200 = .ok (.iconst 2, 1) := by decide +kernel
theorem dL_law__201 : decode cL_law_ 201 = .ok (.iadd, 1) := by decide +kernel
theorem dL_law__202 : decode cL_law_ 202 = .ok (.iaload, 1) := by decide +kernel
theorem dL_law__203 : decode cL_law_ 203 = .ok (.invokevirtual 106, 3) := by decide +kernel
theorem dL_law__206 : decode cL_law_ 206 = .ok (.aload_n 2, 1) := by decide +kernel
theorem dL_law__207 : decode cL_law_ 207 = .ok (.invokevirtual 107, 3) := by decide +kernel
theorem dL_law__210 : decode cL_law_ 210 = .ok (.iload 6, 2) := by decide +kernel
theorem dL_law__212 : decode cL_law_ 212 = .ok (.if_icmp .eq 5, 3) := by decide +kernel
theorem dL_law__215 : decode cL_law_ 215 = .ok (.iconst 0, 1) := by decide +kernel
theorem dL_law__216 : decode cL_law_ 216 = .ok (.ireturn, 1) := by decide +kernel
theorem dL_law__217 : decode cL_law_ 217 = .ok (.goto 1606, 3) := by decide +kernel
theorem dL_law__220 : decode cL_law_ 220 = .ok (.aload_n 1, 1) := by decide +kernel
theorem dL_law__221 : decode cL_law_ 221 = .ok (.aload_n 0, 1) := by decide +kernel
theorem dL_law__222 : decode cL_law_ 222 = .ok (.iload 5, 2) := by decide +kernel
theorem dL_law__224 : decode cL_law_ 224 = .ok (.iconst 1, 1) := by decide +kernel
theorem dL_law__225 : decode cL_law_ 225 = .ok (.iadd, 1) := by decide +kernel
theorem dL_law__226 : decode cL_law_ 226 = .ok (.iaload, 1) := by decide +kernel
theorem dL_law__227 : decode cL_law_ 227 = .ok (.aload_n 0, 1) := by decide +kernel
theorem dL_law__228 : decode cL_law_ 228 = .ok (.iload 5, 2) := by decide +kernel
theorem dL_law__230 : decode cL_law_ 230 = .ok (.iconst 2, 1) := by decide +kernel
theorem dL_law__231 : decode cL_law_ 231 = .ok (.iadd, 1) := by decide +kernel
theorem dL_law__232 : decode cL_law_ 232 = .ok (.iaload, 1) := by decide +kernel
theorem dL_law__233 : decode cL_law_ 233 = .ok (.aload_n 0, 1) := by decide +kernel
theorem dL_law__234 : decode cL_law_ 234 = .ok (.iload 5, 2) := by decide +kernel
theorem dL_law__236 : decode cL_law_ 236 = .ok (.iconst 3, 1) := by decide +kernel
theorem dL_law__237 : decode cL_law_ 237 = .ok (.iadd, 1) := by decide +kernel
theorem dL_law__238 : decode cL_law_ 238 = .ok (.iaload, 1) := by decide +kernel
theorem dL_law__239 : decode cL_law_ 239 = .ok (.aload_n 3, 1) := by decide +kernel
theorem dL_law__240 : decode cL_law_ 240 = .ok (.invokestatic 111, 3) := by decide +kernel
theorem dL_law__243 : decode cL_law_ 243 = .ok (.istore 6, 2) := by decide +kernel
theorem dL_law__245 : decode cL_law_ 245 = .ok (.aload_n 2, 1) := by decide +kernel
theorem dL_law__246 : decode cL_law_ 246 = .ok (.aload_n 0, 1) := by decide +kernel
theorem dL_law__247 : decode cL_law_ 247 = .ok (.iload 5, 2) := by decide +kernel
theorem dL_law__249 : decode cL_law_ 249 = .ok (.iconst 1, 1) := by decide +kernel
theorem dL_law__250 : decode cL_law_ 250 = .ok (.iadd, 1) := by decide +kernel
theorem dL_law__251 : decode cL_law_ 251 = .ok (.iaload, 1) := by decide +kernel
theorem dL_law__252 : decode cL_law_ 252 = .ok (.aload_n 0, 1) := by decide +kernel
theorem dL_law__253 : decode cL_law_ 253 = .ok (.iload 5, 2) := by decide +kernel
theorem dL_law__255 : decode cL_law_ 255 = .ok (.iconst 2, 1) := by decide +kernel
theorem dL_law__256 : decode cL_law_ 256 = .ok (.iadd, 1) := by decide +kernel
theorem dL_law__257 : decode cL_law_ 257 = .ok (.iaload, 1) := by decide +kernel
theorem dL_law__258 : decode cL_law_ 258 = .ok (.aload_n 0, 1) := by decide +kernel
theorem dL_law__259 : decode cL_law_ 259 = .ok (.iload 5, 2) := by decide +kernel
theorem dL_law__261 : decode cL_law_ 261 = .ok (.iconst 3, 1) := by decide +kernel
theorem dL_law__262 : decode cL_law_ 262 = .ok (.iadd, 1) := by decide +kernel
theorem dL_law__263 : decode cL_law_ 263 = .ok (.iaload, 1) := by decide +kernel
theorem dL_law__264 : decode cL_law_ 264 = .ok (.invokevirtual 114, 3) := by decide +kernel
theorem dL_law__267 : decode cL_law_ 267 = .ok (.istore 7, 2) := by decide +kernel
theorem dL_law__269 : decode cL_law_ 269 = .ok (.aload_n 2, 1) := by decide +kernel
theorem dL_law__270 : decode cL_law_ 270 = .ok (.invokevirtual 107, 3) := by decide +kernel
theorem dL_law__273 : decode cL_law_ 273 = .ok (.iload 6, 2) := by decide +kernel
theorem dL_law__275 : decode cL_law_ 275 = .ok (.if_icmp .eq 5, 3) := by decide +kernel
theorem dL_law__278 : decode cL_law_ 278 = .ok (.iconst 0, 1) := by decide +kernel
theorem dL_law__279 : decode cL_law_ 279 = .ok (.ireturn, 1) := by decide +kernel
theorem dL_law__280 : decode cL_law_ 280 = .ok (.iload 6, 2) := by decide +kernel
theorem dL_law__282 : decode cL_law_ 282 = .ok (.ifCond .ne 15, 3) := by decide +kernel
theorem dL_law__285 : decode cL_law_ 285 = .ok (.aload_n 3, 1) := by decide +kernel
theorem dL_law__286 : decode cL_law_ 286 = .ok (.iconst 0, 1) := by decide +kernel
theorem dL_law__287 : decode cL_law_ 287 = .ok (.laload, 1) := by decide +kernel
theorem dL_law__288 : decode cL_law_ 288 = .ok (.iload 7, 2) := by decide +kernel
theorem dL_law__290 : decode cL_law_ 290 = .ok (.i2l, 1) := by decide +kernel
theorem dL_law__291 : decode cL_law_ 291 = .ok (.lcmp, 1) := by decide +kernel
theorem dL_law__292 : decode cL_law_ 292 = .ok (.ifCond .eq 5, 3) := by decide +kernel
theorem dL_law__295 : decode cL_law_ 295 = .ok (.iconst 0, 1) := by decide +kernel
theorem dL_law__296 : decode cL_law_ 296 = .ok (.ireturn, 1) := by decide +kernel
theorem dL_law__297 : decode cL_law_ 297 = .ok (.goto 1526, 3) := by decide +kernel
theorem dL_law__300 : decode cL_law_ 300 = .ok (.aload_n 1, 1) := by decide +kernel
theorem dL_law__301 : decode cL_law_ 301 = .ok (.aload_n 0, 1) := by decide +kernel
theorem dL_law__302 : decode cL_law_ 302 = .ok (.iload 5, 2) := by decide +kernel
theorem dL_law__304 : decode cL_law_ 304 = .ok (.iconst 1, 1) := by decide +kernel
theorem dL_law__305 : decode cL_law_ 305 = .ok (.iadd, 1) := by decide +kernel
theorem dL_law__306 : decode cL_law_ 306 = .ok (.iaload, 1) := by decide +kernel
theorem dL_law__307 : decode cL_law_ 307 = .ok (.aload_n 0, 1) := by decide +kernel
theorem dL_law__308 : decode cL_law_ 308 = .ok (.iload 5, 2) := by decide +kernel
theorem dL_law__310 : decode cL_law_ 310 = .ok (.iconst 2, 1) := by decide +kernel
theorem dL_law__311 : decode cL_law_ 311 = .ok (.iadd, 1) := by decide +kernel
theorem dL_law__312 : decode cL_law_ 312 = .ok (.iaload, 1) := by decide +kernel
theorem dL_law__313 : decode cL_law_ 313 = .ok (.aload_n 0, 1) := by decide +kernel
theorem dL_law__314 : decode cL_law_ 314 = .ok (.iload 5, 2) := by decide +kernel
theorem dL_law__316 : decode cL_law_ 316 = .ok (.iconst 3, 1) := by decide +kernel
theorem dL_law__317 : decode cL_law_ 317 = .ok (.iadd, 1) := by decide +kernel
theorem dL_law__318 : decode cL_law_ 318 = .ok (.iaload, 1) := by decide +kernel
theorem dL_law__319 : decode cL_law_ 319 = .ok (.invokestatic 115, 3) := by decide +kernel
theorem dL_law__322 : decode cL_law_ 322 = .ok (.istore 6, 2) := by decide +kernel
theorem dL_law__324 : decode cL_law_ 324 = .ok (.aload_n 2, 1) := by decide +kernel
theorem dL_law__325 : decode cL_law_ 325 = .ok (.aload_n 0, 1) := by decide +kernel
theorem dL_law__326 : decode cL_law_ 326 = .ok (.iload 5, 2) := by decide +kernel
theorem dL_law__328 : decode cL_law_ 328 = .ok (.iconst 1, 1) := by decide +kernel
theorem dL_law__329 : decode cL_law_ 329 = .ok (.iadd, 1) := by decide +kernel
theorem dL_law__330 : decode cL_law_ 330 = .ok (.iaload, 1) := by decide +kernel
theorem dL_law__331 : decode cL_law_ 331 = .ok (.aload_n 0, 1) := by decide +kernel
theorem dL_law__332 : decode cL_law_ 332 = .ok (.iload 5, 2) := by decide +kernel
theorem dL_law__334 : decode cL_law_ 334 = .ok (.iconst 2, 1) := by decide +kernel
theorem dL_law__335 : decode cL_law_ 335 = .ok (.iadd, 1) := by decide +kernel
theorem dL_law__336 : decode cL_law_ 336 = .ok (.iaload, 1) := by decide +kernel
theorem dL_law__337 : decode cL_law_ 337 = .ok (.aload_n 0, 1) := by decide +kernel
theorem dL_law__338 : decode cL_law_ 338 = .ok (.iload 5, 2) := by decide +kernel
theorem dL_law__340 : decode cL_law_ 340 = .ok (.iconst 3, 1) := by decide +kernel
theorem dL_law__341 : decode cL_law_ 341 = .ok (.iadd, 1) := by decide +kernel
theorem dL_law__342 : decode cL_law_ 342 = .ok (.iaload, 1) := by decide +kernel
theorem dL_law__343 : decode cL_law_ 343 = .ok (.invokevirtual 118, 3) := by decide +kernel
theorem dL_law__346 : decode cL_law_ 346 = .ok (.aload_n 2, 1) := by decide +kernel
theorem dL_law__347 : decode cL_law_ 347 = .ok (.invokevirtual 107, 3) := by decide +kernel
theorem dL_law__350 : decode cL_law_ 350 = .ok (.iload 6, 2) := by decide +kernel
theorem dL_law__352 : decode cL_law_ 352 = .ok (.if_icmp .eq 5, 3) := by decide +kernel
theorem dL_law__355 : decode cL_law_ 355 = .ok (.iconst 0, 1) := by decide +kernel
theorem dL_law__356 : decode cL_law_ 356 = .ok (.ireturn, 1) := by decide +kernel
theorem dL_law__357 : decode cL_law_ 357 = .ok (.goto 1466, 3) := by decide +kernel
theorem dL_law__360 : decode cL_law_ 360 = .ok (.aload_n 1, 1) := by decide +kernel
theorem dL_law__361 : decode cL_law_ 361 = .ok (.aload_n 0, 1) := by decide +kernel
theorem dL_law__362 : decode cL_law_ 362 = .ok (.iload 5, 2) := by decide +kernel
theorem dL_law__364 : decode cL_law_ 364 = .ok (.iconst 1, 1) := by decide +kernel
theorem dL_law__365 : decode cL_law_ 365 = .ok (.iadd, 1) := by decide +kernel
theorem dL_law__366 : decode cL_law_ 366 = .ok (.iaload, 1) := by decide +kernel
theorem dL_law__367 : decode cL_law_ 367 = .ok (.aload_n 0, 1) := by decide +kernel
theorem dL_law__368 : decode cL_law_ 368 = .ok (.iload 5, 2) := by decide +kernel
theorem dL_law__370 : decode cL_law_ 370 = .ok (.iconst 2, 1) := by decide +kernel
theorem dL_law__371 : decode cL_law_ 371 = .ok (.iadd, 1) := by decide +kernel
theorem dL_law__372 : decode cL_law_ 372 = .ok (.iaload, 1) := by decide +kernel
theorem dL_law__373 : decode cL_law_ 373 = .ok (.aload_n 3, 1) := by decide +kernel
theorem dL_law__374 : decode cL_law_ 374 = .ok (.invokestatic 119, 3) := by decide +kernel
theorem dL_law__377 : decode cL_law_ 377 = .ok (.istore 6, 2) := by decide +kernel
theorem dL_law__379 : decode cL_law_ 379 = .ok (.aload_n 2, 1) := by decide +kernel
theorem dL_law__380 : decode cL_law_ 380 = .ok (.aload_n 0, 1) := by decide +kernel
theorem dL_law__381 : decode cL_law_ 381 = .ok (.iload 5, 2) := by decide +kernel
theorem dL_law__383 : decode cL_law_ 383 = .ok (.iconst 1, 1) := by decide +kernel
theorem dL_law__384 : decode cL_law_ 384 = .ok (.iadd, 1) := by decide +kernel
theorem dL_law__385 : decode cL_law_ 385 = .ok (.iaload, 1) := by decide +kernel
theorem dL_law__386 : decode cL_law_ 386 = .ok (.aload_n 0, 1) := by decide +kernel
theorem dL_law__387 : decode cL_law_ 387 = .ok (.iload 5, 2) := by decide +kernel
theorem dL_law__389 : decode cL_law_ 389 = .ok (.iconst 2, 1) := by decide +kernel
theorem dL_law__390 : decode cL_law_ 390 = .ok (.iadd, 1) := by decide +kernel
theorem dL_law__391 : decode cL_law_ 391 = .ok (.iaload, 1) := by decide +kernel
theorem dL_law__392 : decode cL_law_ 392 = .ok (.invokevirtual 122, 3) := by decide +kernel
theorem dL_law__395 : decode cL_law_ 395 = .ok (.istore 7, 2) := by decide +kernel
theorem dL_law__397 : decode cL_law_ 397 = .ok (.aload_n 2, 1) := by decide +kernel
theorem dL_law__398 : decode cL_law_ 398 = .ok (.invokevirtual 107, 3) := by decide +kernel
theorem dL_law__401 : decode cL_law_ 401 = .ok (.iload 6, 2) := by decide +kernel
theorem dL_law__403 : decode cL_law_ 403 = .ok (.if_icmp .eq 5, 3) := by decide +kernel
theorem dL_law__406 : decode cL_law_ 406 = .ok (.iconst 0, 1) := by decide +kernel
theorem dL_law__407 : decode cL_law_ 407 = .ok (.ireturn, 1) := by decide +kernel
theorem dL_law__408 : decode cL_law_ 408 = .ok (.iload 6, 2) := by decide +kernel
theorem dL_law__410 : decode cL_law_ 410 = .ok (.ifCond .ne 15, 3) := by decide +kernel
theorem dL_law__413 : decode cL_law_ 413 = .ok (.aload_n 3, 1) := by decide +kernel
theorem dL_law__414 : decode cL_law_ 414 = .ok (.iconst 0, 1) := by decide +kernel
theorem dL_law__415 : decode cL_law_ 415 = .ok (.laload, 1) := by decide +kernel
theorem dL_law__416 : decode cL_law_ 416 = .ok (.iload 7, 2) := by decide +kernel
theorem dL_law__418 : decode cL_law_ 418 = .ok (.i2l, 1) := by decide +kernel
theorem dL_law__419 : decode cL_law_ 419 = .ok (.lcmp, 1) := by decide +kernel
theorem dL_law__420 : decode cL_law_ 420 = .ok (.ifCond .eq 5, 3) := by decide +kernel
theorem dL_law__423 : decode cL_law_ 423 = .ok (.iconst 0, 1) := by decide +kernel
theorem dL_law__424 : decode cL_law_ 424 = .ok (.ireturn, 1) := by decide +kernel
theorem dL_law__425 : decode cL_law_ 425 = .ok (.goto 1398, 3) := by decide +kernel
theorem dL_law__428 : decode cL_law_ 428 = .ok (.aload_n 1, 1) := by decide +kernel
theorem dL_law__429 : decode cL_law_ 429 = .ok (.aload_n 0, 1) := by decide +kernel
theorem dL_law__430 : decode cL_law_ 430 = .ok (.iload 5, 2) := by decide +kernel
theorem dL_law__432 : decode cL_law_ 432 = .ok (.iconst 1, 1) := by decide +kernel
theorem dL_law__433 : decode cL_law_ 433 = .ok (.iadd, 1) := by decide +kernel
theorem dL_law__434 : decode cL_law_ 434 = .ok (.iaload, 1) := by decide +kernel
theorem dL_law__435 : decode cL_law_ 435 = .ok (.aload_n 0, 1) := by decide +kernel
theorem dL_law__436 : decode cL_law_ 436 = .ok (.iload 5, 2) := by decide +kernel
theorem dL_law__438 : decode cL_law_ 438 = .ok (.iconst 2, 1) := by decide +kernel
theorem dL_law__439 : decode cL_law_ 439 = .ok (.iadd, 1) := by decide +kernel
theorem dL_law__440 : decode cL_law_ 440 = .ok (.iaload, 1) := by decide +kernel
theorem dL_law__441 : decode cL_law_ 441 = .ok (.aload_n 3, 1) := by decide +kernel
theorem dL_law__442 : decode cL_law_ 442 = .ok (.invokestatic 123, 3) := by decide +kernel
theorem dL_law__445 : decode cL_law_ 445 = .ok (.istore 6, 2) := by decide +kernel
theorem dL_law__447 : decode cL_law_ 447 = .ok (.aload_n 2, 1) := by decide +kernel
theorem dL_law__448 : decode cL_law_ 448 = .ok (.aload_n 0, 1) := by decide +kernel
theorem dL_law__449 : decode cL_law_ 449 = .ok (.iload 5, 2) := by decide +kernel
theorem dL_law__451 : decode cL_law_ 451 = .ok (.iconst 1, 1) := by decide +kernel
theorem dL_law__452 : decode cL_law_ 452 = .ok (.iadd, 1) := by decide +kernel
theorem dL_law__453 : decode cL_law_ 453 = .ok (.iaload, 1) := by decide +kernel
theorem dL_law__454 : decode cL_law_ 454 = .ok (.aload_n 0, 1) := by decide +kernel
theorem dL_law__455 : decode cL_law_ 455 = .ok (.iload 5, 2) := by decide +kernel
theorem dL_law__457 : decode cL_law_ 457 = .ok (.iconst 2, 1) := by decide +kernel
theorem dL_law__458 : decode cL_law_ 458 = .ok (.iadd, 1) := by decide +kernel
theorem dL_law__459 : decode cL_law_ 459 = .ok (.iaload, 1) := by decide +kernel
theorem dL_law__460 : decode cL_law_ 460 = .ok (.invokevirtual 125, 3) := by decide +kernel
theorem dL_law__463 : decode cL_law_ 463 = .ok (.istore 7, 2) := by decide +kernel
theorem dL_law__465 : decode cL_law_ 465 = .ok (.aload_n 2, 1) := by decide +kernel
theorem dL_law__466 : decode cL_law_ 466 = .ok (.invokevirtual 107, 3) := by decide +kernel
theorem dL_law__469 : decode cL_law_ 469 = .ok (.iload 6, 2) := by decide +kernel
theorem dL_law__471 : decode cL_law_ 471 = .ok (.if_icmp .eq 5, 3) := by decide +kernel
theorem dL_law__474 : decode cL_law_ 474 = .ok (.iconst 0, 1) := by decide +kernel
theorem dL_law__475 : decode cL_law_ 475 = .ok (.ireturn, 1) := by decide +kernel
theorem dL_law__476 : decode cL_law_ 476 = .ok (.iload 6, 2) := by decide +kernel
theorem dL_law__478 : decode cL_law_ 478 = .ok (.ifCond .ne 15, 3) := by decide +kernel
theorem dL_law__481 : decode cL_law_ 481 = .ok (.aload_n 3, 1) := by decide +kernel
theorem dL_law__482 : decode cL_law_ 482 = .ok (.iconst 0, 1) := by decide +kernel
theorem dL_law__483 : decode cL_law_ 483 = .ok (.laload, 1) := by decide +kernel
theorem dL_law__484 : decode cL_law_ 484 = .ok (.iload 7, 2) := by decide +kernel
theorem dL_law__486 : decode cL_law_ 486 = .ok (.i2l, 1) := by decide +kernel
theorem dL_law__487 : decode cL_law_ 487 = .ok (.lcmp, 1) := by decide +kernel
theorem dL_law__488 : decode cL_law_ 488 = .ok (.ifCond .eq 5, 3) := by decide +kernel
theorem dL_law__491 : decode cL_law_ 491 = .ok (.iconst 0, 1) := by decide +kernel
theorem dL_law__492 : decode cL_law_ 492 = .ok (.ireturn, 1) := by decide +kernel
theorem dL_law__493 : decode cL_law_ 493 = .ok (.goto 1330, 3) := by decide +kernel
theorem dL_law__496 : decode cL_law_ 496 = .ok (.aload_n 1, 1) := by decide +kernel
theorem dL_law__497 : decode cL_law_ 497 = .ok (.aload_n 0, 1) := by decide +kernel
theorem dL_law__498 : decode cL_law_ 498 = .ok (.iload 5, 2) := by decide +kernel
theorem dL_law__500 : decode cL_law_ 500 = .ok (.iconst 1, 1) := by decide +kernel
theorem dL_law__501 : decode cL_law_ 501 = .ok (.iadd, 1) := by decide +kernel
theorem dL_law__502 : decode cL_law_ 502 = .ok (.iaload, 1) := by decide +kernel
theorem dL_law__503 : decode cL_law_ 503 = .ok (.aload_n 0, 1) := by decide +kernel
theorem dL_law__504 : decode cL_law_ 504 = .ok (.iload 5, 2) := by decide +kernel
theorem dL_law__506 : decode cL_law_ 506 = .ok (.iconst 2, 1) := by decide +kernel
theorem dL_law__507 : decode cL_law_ 507 = .ok (.iadd, 1) := by decide +kernel
theorem dL_law__508 : decode cL_law_ 508 = .ok (.iaload, 1) := by decide +kernel
theorem dL_law__509 : decode cL_law_ 509 = .ok (.aload_n 3, 1) := by decide +kernel
theorem dL_law__510 : decode cL_law_ 510 = .ok (.invokestatic 126, 3) := by decide +kernel
theorem dL_law__513 : decode cL_law_ 513 = .ok (.istore 6, 2) := by decide +kernel
theorem dL_law__515 : decode cL_law_ 515 = .ok (.aload_n 2, 1) := by decide +kernel
theorem dL_law__516 : decode cL_law_ 516 = .ok (.aload_n 0, 1) := by decide +kernel
theorem dL_law__517 : decode cL_law_ 517 = .ok (.iload 5, 2) := by decide +kernel
theorem dL_law__519 : decode cL_law_ 519 = .ok (.iconst 1, 1) := by decide +kernel
theorem dL_law__520 : decode cL_law_ 520 = .ok (.iadd, 1) := by decide +kernel
theorem dL_law__521 : decode cL_law_ 521 = .ok (.iaload, 1) := by decide +kernel
theorem dL_law__522 : decode cL_law_ 522 = .ok (.aload_n 0, 1) := by decide +kernel
theorem dL_law__523 : decode cL_law_ 523 = .ok (.iload 5, 2) := by decide +kernel
theorem dL_law__525 : decode cL_law_ 525 = .ok (.iconst 2, 1) := by decide +kernel
theorem dL_law__526 : decode cL_law_ 526 = .ok (.iadd, 1) := by decide +kernel
theorem dL_law__527 : decode cL_law_ 527 = .ok (.iaload, 1) := by decide +kernel
theorem dL_law__528 : decode cL_law_ 528 = .ok (.invokevirtual 128, 3) := by decide +kernel
theorem dL_law__531 : decode cL_law_ 531 = .ok (.istore 7, 2) := by decide +kernel
theorem dL_law__533 : decode cL_law_ 533 = .ok (.aload_n 2, 1) := by decide +kernel
theorem dL_law__534 : decode cL_law_ 534 = .ok (.invokevirtual 107, 3) := by decide +kernel
theorem dL_law__537 : decode cL_law_ 537 = .ok (.iload 6, 2) := by decide +kernel
theorem dL_law__539 : decode cL_law_ 539 = .ok (.if_icmp .eq 5, 3) := by decide +kernel
theorem dL_law__542 : decode cL_law_ 542 = .ok (.iconst 0, 1) := by decide +kernel
theorem dL_law__543 : decode cL_law_ 543 = .ok (.ireturn, 1) := by decide +kernel
theorem dL_law__544 : decode cL_law_ 544 = .ok (.iload 6, 2) := by decide +kernel
theorem dL_law__546 : decode cL_law_ 546 = .ok (.ifCond .ne 15, 3) := by decide +kernel
theorem dL_law__549 : decode cL_law_ 549 = .ok (.aload_n 3, 1) := by decide +kernel
theorem dL_law__550 : decode cL_law_ 550 = .ok (.iconst 0, 1) := by decide +kernel
theorem dL_law__551 : decode cL_law_ 551 = .ok (.laload, 1) := by decide +kernel
theorem dL_law__552 : decode cL_law_ 552 = .ok (.iload 7, 2) := by decide +kernel
theorem dL_law__554 : decode cL_law_ 554 = .ok (.i2l, 1) := by decide +kernel
theorem dL_law__555 : decode cL_law_ 555 = .ok (.lcmp, 1) := by decide +kernel
theorem dL_law__556 : decode cL_law_ 556 = .ok (.ifCond .eq 5, 3) := by decide +kernel
theorem dL_law__559 : decode cL_law_ 559 = .ok (.iconst 0, 1) := by decide +kernel
theorem dL_law__560 : decode cL_law_ 560 = .ok (.ireturn, 1) := by decide +kernel
theorem dL_law__561 : decode cL_law_ 561 = .ok (.goto 1262, 3) := by decide +kernel
theorem dL_law__564 : decode cL_law_ 564 = .ok (.aload_n 1, 1) := by decide +kernel
theorem dL_law__565 : decode cL_law_ 565 = .ok (.aload_n 0, 1) := by decide +kernel
