theorem dX9_apartBy_123 : decode cX9_apartBy 123 = .ok (.laload, 1) := by decide +kernel
theorem dX9_apartBy_124 : decode cX9_apartBy 124 = .ok (.ladd, 1) := by decide +kernel
theorem dX9_apartBy_125 : decode cX9_apartBy 125 = .ok (.lastore, 1) := by decide +kernel
theorem dX9_apartBy_126 : decode cX9_apartBy 126 = .ok (.iinc 6 1, 3) := by decide +kernel
theorem dX9_apartBy_129 : decode cX9_apartBy 129 = .ok (.goto (-84), 3) := by decide +kernel
theorem dX9_apartBy_132 : decode cX9_apartBy 132 = .ok (.iinc 5 1, 3) := by decide +kernel
theorem dX9_apartBy_135 : decode cX9_apartBy 135 = .ok (.goto (-100), 3) := by decide +kernel
theorem dX9_apartBy_138 : decode cX9_apartBy 138 = .ok (.iinc 4 1, 3) := by decide +kernel
theorem dX9_apartBy_141 : decode cX9_apartBy 141 = .ok (.goto (-119), 3) := by decide +kernel
theorem dX9_apartBy_144 : decode cX9_apartBy 144 = .ok (.lconst 0, 1) := by decide +kernel
theorem dX9_apartBy_145 : decode cX9_apartBy 145 = .ok (.lstore 4, 2) := by decide +kernel
theorem dX9_apartBy_147 : decode cX9_apartBy 147 = .ok (.iconst 0, 1) := by decide +kernel
theorem dX9_apartBy_148 : decode cX9_apartBy 148 = .ok (.istore 6, 2) := by decide +kernel
theorem dX9_apartBy_150 : decode cX9_apartBy 150 = .ok (.iload 6, 2) := by decide +kernel
theorem dX9_apartBy_152 : decode cX9_apartBy 152 = .ok (.bipush 36, 2) := by decide +kernel
theorem dX9_apartBy_154 : decode cX9_apartBy 154 = .ok (.if_icmp .ge 21, 3) := by decide +kernel
theorem dX9_apartBy_157 : decode cX9_apartBy 157 = .ok (.lload 4, 2) := by decide +kernel
theorem dX9_apartBy_159 : decode cX9_apartBy 159 = .ok (.aload_n 0, 1) := by decide +kernel
theorem dX9_apartBy_160 : decode cX9_apartBy 160 = .ok (.getfield 26, 3) := by decide +kernel
theorem dX9_apartBy_163 : decode cX9_apartBy 163 = .ok (.iload 6, 2) := by decide +kernel
theorem dX9_apartBy_165 : decode cX9_apartBy 165 = .ok (.laload, 1) := by decide +kernel
theorem dX9_apartBy_166 : decode cX9_apartBy 166 = .ok (.ladd, 1) := by decide +kernel
theorem dX9_apartBy_167 : decode cX9_apartBy 167 = .ok (.lstore 4, 2) := by decide +kernel
theorem dX9_apartBy_169 : decode cX9_apartBy 169 = .ok (.iinc 6 1, 3) := by decide +kernel
theorem dX9_apartBy_172 : decode cX9_apartBy 172 = .ok (.goto (-22), 3) := by decide +kernel
theorem dX9_apartBy_175 : decode cX9_apartBy 175 = .ok (.lload 4, 2) := by decide +kernel
theorem dX9_apartBy_177 : decode cX9_apartBy 177 = .ok (.lreturn, 1) := by decide +kernel
set_option maxRecDepth 20000 in
theorem ggX9_apart_X9_lawFault : GoodIn wsX9_apart wsX9_lawFault := goodIn_r _ [5, 6, 7, 8, 4, 9, 10, 11, 12, 13, 39, 40, 41, 42, 43, 44, 45, 46, 47, 48, 49, 50, 51] (by decide +kernel) (by decide +kernel)
set_option maxRecDepth 20000 in
theorem gX9_apart_X9_lawFault : GoodIn wsX9_apart (wsV RX9 92 RX9 yX9_lawFault wsX9_lawFault) := goodIn_app (goodIn_of _ (by decide +kernel)) ggX9_apart_X9_lawFault
set_option maxRecDepth 20000 in
theorem ggX9_apart_X9_can : GoodIn wsX9_apart wsX9_can := goodIn_r _ [17, 18, 39, 40, 41, 42, 43, 44, 45, 46, 47, 48, 49, 50, 51] (by decide +kernel) (by decide +kernel)
set_option maxRecDepth 20000 in
theorem gX9_apart_X9_can : GoodIn wsX9_apart (wsV RX9 55 RX9 yX9_can wsX9_can) := goodIn_app (goodIn_of _ (by decide +kernel)) ggX9_apart_X9_can
set_option maxRecDepth 20000 in
theorem ggX9_apart_X9_apartBy : GoodIn wsX9_apart wsX9_apartBy := goodIn_r _ [22, 23, 24, 25, 26, 27, 28, 4, 29, 30, 31, 32, 33, 34, 35, 36, 37, 38, 39, 40, 41, 42, 43, 44, 45, 46, 47, 48, 49, 50, 51] (by decide +kernel) (by decide +kernel)
set_option maxRecDepth 20000 in
theorem gX9_apart_X9_apartBy : GoodIn wsX9_apart (wsV RX9 109 RX9 yX9_apartBy wsX9_apartBy) := goodIn_app (goodIn_of _ (by decide +kernel)) ggX9_apart_X9_apartBy
theorem dX9_apart_0 : decode cX9_apart 0 = .ok (.aload_n 0, 1) := by decide +kernel
theorem dX9_apart_1 : decode cX9_apart 1 = .ok (.aload_n 0, 1) := by decide +kernel
theorem dX9_apart_2 : decode cX9_apart 2 = .ok (.iload_n 1, 1) := by decide +kernel
theorem dX9_apart_3 : decode cX9_apart 3 = .ok (.iload_n 3, 1) := by decide +kernel
theorem dX9_apart_4 : decode cX9_apart 4 = .ok (.iload_n 2, 1) := by decide +kernel
theorem dX9_apart_5 : decode cX9_apart 5 = .ok (.bipush 12, 2) := by decide +kernel
theorem dX9_apart_7 : decode cX9_apart 7 = .ok (.invokevirtual 92, 3) := by decide +kernel
theorem dX9_apart_10 : decode cX9_apart 10 = .ok (.invokevirtual 55, 3) := by decide +kernel
theorem dX9_apart_13 : decode cX9_apart 13 = .ok (.ifCond .eq 13, 3) := by decide +kernel
theorem dX9_apart_16 : decode cX9_apart 16 = .ok (.aload_n 0, 1) := by decide +kernel
theorem dX9_apart_17 : decode cX9_apart 17 = .ok (.iload_n 1, 1) := by decide +kernel
theorem dX9_apart_18 : decode cX9_apart 18 = .ok (.iload_n 2, 1) := by decide +kernel
theorem dX9_apart_19 : decode cX9_apart 19 = .ok (.iload_n 3, 1) := by decide +kernel
theorem dX9_apart_20 : decode cX9_apart 20 = .ok (.invokevirtual 109, 3) := by decide +kernel
theorem dX9_apart_23 : decode cX9_apart 23 = .ok (.goto 4, 3) := by decide +kernel
theorem dX9_apart_26 : decode cX9_apart 26 = .ok (.lconst 0, 1) := by decide +kernel
theorem dX9_apart_27 : decode cX9_apart 27 = .ok (.lreturn, 1) := by decide +kernel
set_option maxRecDepth 20000 in
theorem ggX9_image_X9_goes : GoodIn wsX9_image wsX9_goes := goodIn_r _ [6, 7, 8, 9, 10, 11, 12, 13, 14, 15, 16, 17, 18, 19, 20] (by decide +kernel) (by decide +kernel)
set_option maxRecDepth 20000 in
theorem gX9_image_X9_goes : GoodIn wsX9_image (wsV RX9 65 RX9 yX9_goes wsX9_goes) := goodIn_app (goodIn_of _ (by decide +kernel)) ggX9_image_X9_goes
theorem dX9_image_0 : decode cX9_image 0 = .ok (.iconst 0, 1) := by decide +kernel
theorem dX9_image_1 : decode cX9_image 1 = .ok (.istore_n 3, 1) := by decide +kernel
theorem dX9_image_2 : decode cX9_image 2 = .ok (.iconst 0, 1) := by decide +kernel
theorem dX9_image_3 : decode cX9_image 3 = .ok (.istore 4, 2) := by decide +kernel
theorem dX9_image_5 : decode cX9_image 5 = .ok (.iload 4, 2) := by decide +kernel
theorem dX9_image_7 : decode cX9_image 7 = .ok (.aload_n 0, 1) := by decide +kernel
theorem dX9_image_8 : decode cX9_image 8 = .ok (.getfield 7, 3) := by decide +kernel
theorem dX9_image_11 : decode cX9_image 11 = .ok (.if_icmp .ge 35, 3) := by decide +kernel
theorem dX9_image_14 : decode cX9_image 14 = .ok (.iload_n 3, 1) := by decide +kernel
theorem dX9_image_15 : decode cX9_image 15 = .ok (.iload_n 1, 1) := by decide +kernel
theorem dX9_image_16 : decode cX9_image 16 = .ok (.iload 4, 2) := by decide +kernel
theorem dX9_image_18 : decode cX9_image 18 = .ok (.ishr, 1) := by decide +kernel
theorem dX9_image_19 : decode cX9_image 19 = .ok (.iconst 1, 1) := by decide +kernel
theorem dX9_image_20 : decode cX9_image 20 = .ok (.iand, 1) := by decide +kernel
theorem dX9_image_21 : decode cX9_image 21 = .ok (.iconst 1, 1) := by decide +kernel
theorem dX9_image_22 : decode cX9_image 22 = .ok (.if_icmp .ne 15, 3) := by decide +kernel
theorem dX9_image_25 : decode cX9_image 25 = .ok (.iconst 1, 1) := by decide +kernel
theorem dX9_image_26 : decode cX9_image 26 = .ok (.aload_n 0, 1) := by decide +kernel
theorem dX9_image_27 : decode cX9_image 27 = .ok (.iload 4, 2) := by decide +kernel
theorem dX9_image_29 : decode cX9_image 29 = .ok (.iload_n 2, 1) := by decide +kernel
theorem dX9_image_30 : decode cX9_image 30 = .ok (.invokevirtual 65, 3) := by decide +kernel
theorem dX9_image_33 : decode cX9_image 33 = .ok (.ishl, 1) := by decide +kernel
theorem dX9_image_34 : decode cX9_image 34 = .ok (.goto 4, 3) := by decide +kernel
theorem dX9_image_37 : decode cX9_image 37 = .ok (.iconst 0, 1) := by decide +kernel
theorem dX9_image_38 : decode cX9_image 38 = .ok (.ior, 1) := by decide +kernel
theorem dX9_image_39 : decode cX9_image 39 = .ok (.istore_n 3, 1) := by decide +kernel
theorem dX9_image_40 : decode cX9_image 40 = .ok (.iinc 4 1, 3) := by decide +kernel
theorem dX9_image_43 : decode cX9_image 43 = .ok (.goto (-38), 3) := by decide +kernel
theorem dX9_image_46 : decode cX9_image 46 = .ok (.iload_n 3, 1) := by decide +kernel
theorem dX9_image_47 : decode cX9_image 47 = .ok (.ireturn, 1) := by decide +kernel
set_option maxRecDepth 20000 in
theorem ggX9_togetherBy_X9_begins : GoodIn wsX9_togetherBy wsX9_begins := goodIn_r _ [9, 4, 23, 24, 25, 26, 27, 28, 29, 30, 31, 32, 33, 34, 35] (by decide +kernel) (by decide +kernel)
set_option maxRecDepth 20000 in
theorem gX9_togetherBy_X9_begins : GoodIn wsX9_togetherBy (wsV RX9 81 RX9 yX9_begins wsX9_begins) := goodIn_app (goodIn_of _ (by decide +kernel)) ggX9_togetherBy_X9_begins
set_option maxRecDepth 20000 in
theorem ggX9_togetherBy_X9_keeps : GoodIn wsX9_togetherBy wsX9_keeps := goodIn_r _ [13, 3, 4, 23, 24, 25, 26, 27, 28, 29, 30, 31, 32, 33, 34, 35] (by decide +kernel) (by decide +kernel)
set_option maxRecDepth 20000 in
theorem gX9_togetherBy_X9_keeps : GoodIn wsX9_togetherBy (wsV RX9 85 RX9 yX9_keeps wsX9_keeps) := goodIn_app (goodIn_of _ (by decide +kernel)) ggX9_togetherBy_X9_keeps
set_option maxRecDepth 20000 in
theorem ggX9_togetherBy_X9_image : GoodIn wsX9_togetherBy wsX9_image := goodIn_r _ [17, 1, 18, 19, 20, 8, 21, 22, 23, 24, 25, 26, 27, 28, 29, 30, 31, 32, 33, 34, 35] (by decide +kernel) (by decide +kernel)
set_option maxRecDepth 20000 in
theorem gX9_togetherBy_X9_image : GoodIn wsX9_togetherBy (wsV RX9 112 RX9 yX9_image wsX9_image) := goodIn_app (goodIn_of _ (by decide +kernel)) ggX9_togetherBy_X9_image
theorem dX9_togetherBy_0 : decode cX9_togetherBy 0 = .ok (.aload_n 0, 1) := by decide +kernel
theorem dX9_togetherBy_1 : decode cX9_togetherBy 1 = .ok (.iconst 1, 1) := by decide +kernel
theorem dX9_togetherBy_2 : decode cX9_togetherBy 2 = .ok (.aload_n 0, 1) := by decide +kernel
theorem dX9_togetherBy_3 : decode cX9_togetherBy 3 = .ok (.getfield 7, 3) := by decide +kernel
theorem dX9_togetherBy_6 : decode cX9_togetherBy 6 = .ok (.ishl, 1) := by decide +kernel
theorem dX9_togetherBy_7 : decode cX9_togetherBy 7 = .ok (.iconst 1, 1) := by decide +kernel
theorem dX9_togetherBy_8 : decode cX9_togetherBy 8 = .ok (.isub, 1) := by decide +kernel
theorem dX9_togetherBy_9 : decode cX9_togetherBy 9 = .ok (.invokevirtual 81, 3) := by decide +kernel
theorem dX9_togetherBy_12 : decode cX9_togetherBy 12 = .ok (.iconst 0, 1) := by decide +kernel
theorem dX9_togetherBy_13 : decode cX9_togetherBy 13 = .ok (.istore_n 3, 1) := by decide +kernel
theorem dX9_togetherBy_14 : decode cX9_togetherBy 14 = .ok (.iload_n 3, 1) := by decide +kernel
theorem dX9_togetherBy_15 : decode cX9_togetherBy 15 = .ok (.iload_n 1, 1) := by decide +kernel
theorem dX9_togetherBy_16 : decode cX9_togetherBy 16 = .ok (.if_icmp .ge 82, 3) := by decide +kernel
theorem dX9_togetherBy_19 : decode cX9_togetherBy 19 = .ok (.aload_n 0, 1) := by decide +kernel
theorem dX9_togetherBy_20 : decode cX9_togetherBy 20 = .ok (.invokevirtual 85, 3) := by decide +kernel
theorem dX9_togetherBy_23 : decode cX9_togetherBy 23 = .ok (.iconst 0, 1) := by decide +kernel
theorem dX9_togetherBy_24 : decode cX9_togetherBy 24 = .ok (.istore 4, 2) := by decide +kernel
theorem dX9_togetherBy_26 : decode cX9_togetherBy 26 = .ok (.iload 4, 2) := by decide +kernel
theorem dX9_togetherBy_28 : decode cX9_togetherBy 28 = .ok (.bipush 64, 2) := by decide +kernel
theorem dX9_togetherBy_30 : decode cX9_togetherBy 30 = .ok (.if_icmp .ge 62, 3) := by decide +kernel
theorem dX9_togetherBy_33 : decode cX9_togetherBy 33 = .ok (.iconst 0, 1) := by decide +kernel
theorem dX9_togetherBy_34 : decode cX9_togetherBy 34 = .ok (.istore 5, 2) := by decide +kernel
theorem dX9_togetherBy_36 : decode cX9_togetherBy 36 = .ok (.iload 5, 2) := by decide +kernel
theorem dX9_togetherBy_38 : decode cX9_togetherBy 38 = .ok (.aload_n 0, 1) := by decide +kernel
theorem dX9_togetherBy_39 : decode cX9_togetherBy 39 = .ok (.getfield 13, 3) := by decide +kernel
theorem dX9_togetherBy_42 : decode cX9_togetherBy 42 = .ok (.if_icmp .ge 44, 3) := by decide +kernel
theorem dX9_togetherBy_45 : decode cX9_togetherBy 45 = .ok (.aload_n 0, 1) := by decide +kernel
theorem dX9_togetherBy_46 : decode cX9_togetherBy 46 = .ok (.getfield 30, 3) := by decide +kernel
theorem dX9_togetherBy_49 : decode cX9_togetherBy 49 = .ok (.iload 4, 2) := by decide +kernel
theorem dX9_togetherBy_51 : decode cX9_togetherBy 51 = .ok (.laload, 1) := by decide +kernel
theorem dX9_togetherBy_52 : decode cX9_togetherBy 52 = .ok (.lconst 0, 1) := by decide +kernel
theorem dX9_togetherBy_53 : decode cX9_togetherBy 53 = .ok (.lcmp, 1) := by decide +kernel
theorem dX9_togetherBy_54 : decode cX9_togetherBy 54 = .ok (.ifCond .le 32, 3) := by decide +kernel
theorem dX9_togetherBy_57 : decode cX9_togetherBy 57 = .ok (.aload_n 0, 1) := by decide +kernel
theorem dX9_togetherBy_58 : decode cX9_togetherBy 58 = .ok (.getfield 26, 3) := by decide +kernel
theorem dX9_togetherBy_61 : decode cX9_togetherBy 61 = .ok (.aload_n 0, 1) := by decide +kernel
theorem dX9_togetherBy_62 : decode cX9_togetherBy 62 = .ok (.iload 4, 2) := by decide +kernel
theorem dX9_togetherBy_64 : decode cX9_togetherBy 64 = .ok (.iload 5, 2) := by decide +kernel
theorem dX9_togetherBy_66 : decode cX9_togetherBy 66 = .ok (.invokevirtual 112, 3) := by decide +kernel
theorem dX9_togetherBy_69 : decode cX9_togetherBy 69 = .ok (.dup2, 1) := by decide +kernel
theorem dX9_togetherBy_70 : decode cX9_togetherBy 70 = .ok (.laload, 1) := by decide +kernel
theorem dX9_togetherBy_71 : decode cX9_togetherBy 71 = .ok (.aload_n 0, 1) := by decide +kernel
theorem dX9_togetherBy_72 : decode cX9_togetherBy 72 = .ok (.getfield 30, 3) := by decide +kernel
theorem dX9_togetherBy_75 : decode cX9_togetherBy 75 = .ok (.iload 4, 2) := by decide +kernel
theorem dX9_togetherBy_77 : decode cX9_togetherBy 77 = .ok (.laload, 1) := by decide +kernel
theorem dX9_togetherBy_78 : decode cX9_togetherBy 78 = .ok (.ladd, 1) := by decide +kernel
theorem dX9_togetherBy_79 : decode cX9_togetherBy 79 = .ok (.lastore, 1) := by decide +kernel
theorem dX9_togetherBy_80 : decode cX9_togetherBy 80 = .ok (.iinc 5 1, 3) := by decide +kernel
theorem dX9_togetherBy_83 : decode cX9_togetherBy 83 = .ok (.goto (-47), 3) := by decide +kernel
theorem dX9_togetherBy_86 : decode cX9_togetherBy 86 = .ok (.iinc 4 1, 3) := by decide +kernel
theorem dX9_togetherBy_89 : decode cX9_togetherBy 89 = .ok (.goto (-63), 3) := by decide +kernel
theorem dX9_togetherBy_92 : decode cX9_togetherBy 92 = .ok (.iinc 3 1, 3) := by decide +kernel
theorem dX9_togetherBy_95 : decode cX9_togetherBy 95 = .ok (.goto (-81), 3) := by decide +kernel
theorem dX9_togetherBy_98 : decode cX9_togetherBy 98 = .ok (.aload_n 0, 1) := by decide +kernel
theorem dX9_togetherBy_99 : decode cX9_togetherBy 99 = .ok (.getfield 26, 3) := by decide +kernel
theorem dX9_togetherBy_102 : decode cX9_togetherBy 102 = .ok (.iconst 1, 1) := by decide +kernel
theorem dX9_togetherBy_103 : decode cX9_togetherBy 103 = .ok (.iload_n 2, 1) := by decide +kernel
theorem dX9_togetherBy_104 : decode cX9_togetherBy 104 = .ok (.ishl, 1) := by decide +kernel
theorem dX9_togetherBy_105 : decode cX9_togetherBy 105 = .ok (.laload, 1) := by decide +kernel
theorem dX9_togetherBy_106 : decode cX9_togetherBy 106 = .ok (.lreturn, 1) := by decide +kernel
set_option maxRecDepth 20000 in
theorem ggX9_together_X9_isState : GoodIn wsX9_together wsX9_isState := goodIn_r _ [5, 6, 7, 8, 4, 9, 42, 43, 44, 45, 46, 47, 48, 49, 50, 51, 52, 53, 54] (by decide +kernel) (by decide +kernel)
set_option maxRecDepth 20000 in
theorem gX9_together_X9_isState : GoodIn wsX9_together (wsV RX9 59 RX9 yX9_isState wsX9_isState) := goodIn_app (goodIn_of _ (by decide +kernel)) ggX9_together_X9_isState
set_option maxRecDepth 20000 in
theorem ggX9_together_X9_areSteps : GoodIn wsX9_together wsX9_areSteps := goodIn_r _ [12, 7, 8, 4, 9] (by decide +kernel) (by decide +kernel)
set_option maxRecDepth 20000 in
theorem gX9_together_X9_areSteps : GoodIn wsX9_together (va_wsS RX9 74 yX9_areSteps wsX9_areSteps) := goodIn_app (goodIn_of _ (by decide +kernel)) ggX9_together_X9_areSteps
set_option maxRecDepth 20000 in
theorem ggX9_together_X9_can : GoodIn wsX9_together wsX9_can := goodIn_r _ [16, 17, 42, 43, 44, 45, 46, 47, 48, 49, 50, 51, 52, 53, 54] (by decide +kernel) (by decide +kernel)
set_option maxRecDepth 20000 in
theorem gX9_together_X9_can : GoodIn wsX9_together (wsV RX9 55 RX9 yX9_can wsX9_can) := goodIn_app (goodIn_of _ (by decide +kernel)) ggX9_together_X9_can
set_option maxRecDepth 20000 in
theorem ggX9_together_X9_togetherBy : GoodIn wsX9_together wsX9_togetherBy := goodIn_r _ [21, 6, 22, 23, 24, 25, 26, 27, 4, 28, 29, 30, 31, 32, 33, 34, 35, 36, 37, 38, 39, 40, 41, 42, 43, 44, 45, 46, 47, 48, 49, 50, 51, 52, 53, 54] (by decide +kernel) (by decide +kernel)
set_option maxRecDepth 20000 in
theorem gX9_together_X9_togetherBy : GoodIn wsX9_together (wsV RX9 115 RX9 yX9_togetherBy wsX9_togetherBy) := goodIn_app (goodIn_of _ (by decide +kernel)) ggX9_together_X9_togetherBy
theorem dX9_together_0 : decode cX9_together 0 = .ok (.aload_n 0, 1) := by decide +kernel
theorem dX9_together_1 : decode cX9_together 1 = .ok (.aload_n 0, 1) := by decide +kernel
theorem dX9_together_2 : decode cX9_together 2 = .ok (.iload_n 2, 1) := by decide +kernel
theorem dX9_together_3 : decode cX9_together 3 = .ok (.invokevirtual 59, 3) := by decide +kernel
theorem dX9_together_6 : decode cX9_together 6 = .ok (.ifCond .ne 7, 3) := by decide +kernel
theorem dX9_together_9 : decode cX9_together 9 = .ok (.iconst 1, 1) := by decide +kernel
theorem dX9_together_10 : decode cX9_together 10 = .ok (.goto 15, 3) := by decide +kernel
theorem dX9_together_13 : decode cX9_together 13 = .ok (.iload_n 1, 1) := by decide +kernel
theorem dX9_together_14 : decode cX9_together 14 = .ok (.invokestatic 74, 3) := by decide +kernel
theorem dX9_together_17 : decode cX9_together 17 = .ok (.ifCond .eq 7, 3) := by decide +kernel
theorem dX9_together_20 : decode cX9_together 20 = .ok (.iconst 0, 1) := by decide +kernel
theorem dX9_together_21 : decode cX9_together 21 = .ok (.goto 4, 3) := by decide +kernel
theorem dX9_together_24 : decode cX9_together 24 = .ok (.iconst 2, 1) := by decide +kernel
theorem dX9_together_25 : decode cX9_together 25 = .ok (.invokevirtual 55, 3) := by decide +kernel
theorem dX9_together_28 : decode cX9_together 28 = .ok (.ifCond .eq 12, 3) := by decide +kernel
theorem dX9_together_31 : decode cX9_together 31 = .ok (.aload_n 0, 1) := by decide +kernel
theorem dX9_together_32 : decode cX9_together 32 = .ok (.iload_n 1, 1) := by decide +kernel
theorem dX9_together_33 : decode cX9_together 33 = .ok (.iload_n 2, 1) := by decide +kernel
theorem dX9_together_34 : decode cX9_together 34 = .ok (.invokevirtual 115, 3) := by decide +kernel
theorem dX9_together_37 : decode cX9_together 37 = .ok (.goto 4, 3) := by decide +kernel
theorem dX9_together_40 : decode cX9_together 40 = .ok (.lconst 0, 1) := by decide +kernel
theorem dX9_together_41 : decode cX9_together 41 = .ok (.lreturn, 1) := by decide +kernel
set_option maxRecDepth 20000 in
theorem ggX9_hitsBy_X9_begins : GoodIn wsX9_hitsBy wsX9_begins := goodIn_r _ [9, 1, 23, 24, 25, 26, 27, 28, 29, 30, 31, 32, 33, 34, 35] (by decide +kernel) (by decide +kernel)
set_option maxRecDepth 20000 in
theorem gX9_hitsBy_X9_begins : GoodIn wsX9_hitsBy (wsV RX9 81 RX9 yX9_begins wsX9_begins) := goodIn_app (goodIn_of _ (by decide +kernel)) ggX9_hitsBy_X9_begins
set_option maxRecDepth 20000 in
theorem ggX9_hitsBy_X9_power : GoodIn wsX9_hitsBy wsX9_power := goodIn_r _ [13, 3, 23, 24, 25, 26, 27, 28, 29, 30, 31, 32, 33, 34, 35] (by decide +kernel) (by decide +kernel)
set_option maxRecDepth 20000 in
theorem gX9_hitsBy_X9_power : GoodIn wsX9_hitsBy (wsV RX9 77 RX9 yX9_power wsX9_power) := goodIn_app (goodIn_of _ (by decide +kernel)) ggX9_hitsBy_X9_power
set_option maxRecDepth 20000 in
theorem ggX9_hitsBy_X9_keeps : GoodIn wsX9_hitsBy wsX9_keeps := goodIn_r _ [17, 4, 1, 23, 24, 25, 26, 27, 28, 29, 30, 31, 32, 33, 34, 35] (by decide +kernel) (by decide +kernel)
set_option maxRecDepth 20000 in
theorem gX9_hitsBy_X9_keeps : GoodIn wsX9_hitsBy (wsV RX9 85 RX9 yX9_keeps wsX9_keeps) := goodIn_app (goodIn_of _ (by decide +kernel)) ggX9_hitsBy_X9_keeps
set_option maxRecDepth 20000 in
theorem ggX9_hitsBy_X9_goes : GoodIn wsX9_hitsBy wsX9_goes := goodIn_r _ [21, 22, 23, 24, 25, 26, 27, 28, 29, 30, 31, 32, 33, 34, 35] (by decide +kernel) (by decide +kernel)
set_option maxRecDepth 20000 in
theorem gX9_hitsBy_X9_goes : GoodIn wsX9_hitsBy (wsV RX9 65 RX9 yX9_goes wsX9_goes) := goodIn_app (goodIn_of _ (by decide +kernel)) ggX9_hitsBy_X9_goes
theorem dX9_hitsBy_0 : decode cX9_hitsBy 0 = .ok (.aload_n 0, 1) := by decide +kernel
theorem dX9_hitsBy_1 : decode cX9_hitsBy 1 = .ok (.iload_n 1, 1) := by decide +kernel
theorem dX9_hitsBy_2 : decode cX9_hitsBy 2 = .ok (.invokevirtual 81, 3) := by decide +kernel
theorem dX9_hitsBy_5 : decode cX9_hitsBy 5 = .ok (.lconst 0, 1) := by decide +kernel
theorem dX9_hitsBy_6 : decode cX9_hitsBy 6 = .ok (.lstore 4, 2) := by decide +kernel
theorem dX9_hitsBy_8 : decode cX9_hitsBy 8 = .ok (.iconst 0, 1) := by decide +kernel
theorem dX9_hitsBy_9 : decode cX9_hitsBy 9 = .ok (.istore 6, 2) := by decide +kernel
theorem dX9_hitsBy_11 : decode cX9_hitsBy 11 = .ok (.iload 6, 2) := by decide +kernel
theorem dX9_hitsBy_13 : decode cX9_hitsBy 13 = .ok (.iload_n 2, 1) := by decide +kernel
theorem dX9_hitsBy_14 : decode cX9_hitsBy 14 = .ok (.if_icmp .gt 107, 3) := by decide +kernel
theorem dX9_hitsBy_17 : decode cX9_hitsBy 17 = .ok (.lload 4, 2) := by decide +kernel
theorem dX9_hitsBy_19 : decode cX9_hitsBy 19 = .ok (.aload_n 0, 1) := by decide +kernel
theorem dX9_hitsBy_20 : decode cX9_hitsBy 20 = .ok (.getfield 26, 3) := by decide +kernel
theorem dX9_hitsBy_23 : decode cX9_hitsBy 23 = .ok (.iload_n 3, 1) := by decide +kernel
theorem dX9_hitsBy_24 : decode cX9_hitsBy 24 = .ok (.laload, 1) := by decide +kernel
theorem dX9_hitsBy_25 : decode cX9_hitsBy 25 = .ok (.aload_n 0, 1) := by decide +kernel
theorem dX9_hitsBy_26 : decode cX9_hitsBy 26 = .ok (.iload_n 2, 1) := by decide +kernel
theorem dX9_hitsBy_27 : decode cX9_hitsBy 27 = .ok (.iload 6, 2) := by decide +kernel
theorem dX9_hitsBy_29 : decode cX9_hitsBy 29 = .ok (.isub, 1) := by decide +kernel
theorem dX9_hitsBy_30 : decode cX9_hitsBy 30 = .ok (.invokevirtual 77, 3) := by decide +kernel
theorem dX9_hitsBy_33 : decode cX9_hitsBy 33 = .ok (.lmul, 1) := by decide +kernel
theorem dX9_hitsBy_34 : decode cX9_hitsBy 34 = .ok (.ladd, 1) := by decide +kernel
theorem dX9_hitsBy_35 : decode cX9_hitsBy 35 = .ok (.lstore 4, 2) := by decide +kernel
theorem dX9_hitsBy_37 : decode cX9_hitsBy 37 = .ok (.aload_n 0, 1) := by decide +kernel
theorem dX9_hitsBy_38 : decode cX9_hitsBy 38 = .ok (.getfield 26, 3) := by decide +kernel
theorem dX9_hitsBy_41 : decode cX9_hitsBy 41 = .ok (.iload_n 3, 1) := by decide +kernel
theorem dX9_hitsBy_42 : decode cX9_hitsBy 42 = .ok (.lconst 0, 1) := by decide +kernel
theorem dX9_hitsBy_43 : decode cX9_hitsBy 43 = .ok (.lastore, 1) := by decide +kernel
theorem dX9_hitsBy_44 : decode cX9_hitsBy 44 = .ok (.iload 6, 2) := by decide +kernel
theorem dX9_hitsBy_46 : decode cX9_hitsBy 46 = .ok (.iload_n 2, 1) := by decide +kernel
theorem dX9_hitsBy_47 : decode cX9_hitsBy 47 = .ok (.if_icmp .ge 68, 3) := by decide +kernel
theorem dX9_hitsBy_50 : decode cX9_hitsBy 50 = .ok (.aload_n 0, 1) := by decide +kernel
theorem dX9_hitsBy_51 : decode cX9_hitsBy 51 = .ok (.invokevirtual 85, 3) := by decide +kernel
theorem dX9_hitsBy_54 : decode cX9_hitsBy 54 = .ok (.iconst 0, 1) := by decide +kernel
theorem dX9_hitsBy_55 : decode cX9_hitsBy 55 = .ok (.istore 7, 2) := by decide +kernel
theorem dX9_hitsBy_57 : decode cX9_hitsBy 57 = .ok (.iload 7, 2) := by decide +kernel
theorem dX9_hitsBy_59 : decode cX9_hitsBy 59 = .ok (.aload_n 0, 1) := by decide +kernel
theorem dX9_hitsBy_60 : decode cX9_hitsBy 60 = .ok (.getfield 7, 3) := by decide +kernel
theorem dX9_hitsBy_63 : decode cX9_hitsBy 63 = .ok (.aload_n 0, 1) := by decide +kernel
theorem dX9_hitsBy_64 : decode cX9_hitsBy 64 = .ok (.getfield 13, 3) := by decide +kernel
theorem dX9_hitsBy_67 : decode cX9_hitsBy 67 = .ok (.imul, 1) := by decide +kernel
theorem dX9_hitsBy_68 : decode cX9_hitsBy 68 = .ok (.if_icmp .ge 47, 3) := by decide +kernel
theorem dX9_hitsBy_71 : decode cX9_hitsBy 71 = .ok (.aload_n 0, 1) := by decide +kernel
theorem dX9_hitsBy_72 : decode cX9_hitsBy 72 = .ok (.getfield 26, 3) := by decide +kernel
theorem dX9_hitsBy_75 : decode cX9_hitsBy 75 = .ok (.aload_n 0, 1) := by decide +kernel
theorem dX9_hitsBy_76 : decode cX9_hitsBy 76 = .ok (.iload 7, 2) := by decide +kernel
theorem dX9_hitsBy_78 : decode cX9_hitsBy 78 = .ok (.aload_n 0, 1) := by decide +kernel
theorem dX9_hitsBy_79 : decode cX9_hitsBy 79 = .ok (.getfield 13, 3) := by decide +kernel
theorem dX9_hitsBy_82 : decode cX9_hitsBy 82 = .ok (.idiv, 1) := by decide +kernel
theorem dX9_hitsBy_83 : decode cX9_hitsBy 83 = .ok (.iload 7, 2) := by decide +kernel
theorem dX9_hitsBy_85 : decode cX9_hitsBy 85 = .ok (.aload_n 0, 1) := by decide +kernel
theorem dX9_hitsBy_86 : decode cX9_hitsBy 86 = .ok (.getfield 13, 3) := by decide +kernel
theorem dX9_hitsBy_89 : decode cX9_hitsBy 89 = .ok (.irem, 1) := by decide +kernel
theorem dX9_hitsBy_90 : decode cX9_hitsBy 90 = .ok (.invokevirtual 65, 3) := by decide +kernel
theorem dX9_hitsBy_93 : decode cX9_hitsBy 93 = .ok (.dup2, 1) := by decide +kernel
theorem dX9_hitsBy_94 : decode cX9_hitsBy 94 = .ok (.laload, 1) := by decide +kernel
theorem dX9_hitsBy_95 : decode cX9_hitsBy 95 = .ok (.aload_n 0, 1) := by decide +kernel
theorem dX9_hitsBy_96 : decode cX9_hitsBy 96 = .ok (.getfield 30, 3) := by decide +kernel
theorem dX9_hitsBy_99 : decode cX9_hitsBy 99 = .ok (.iload 7, 2) := by decide +kernel
theorem dX9_hitsBy_101 : decode cX9_hitsBy 101 = .ok (.aload_n 0, 1) := by decide +kernel
theorem dX9_hitsBy_102 : decode cX9_hitsBy 102 = .ok (.getfield 13, 3) := by decide +kernel
theorem dX9_hitsBy_105 : decode cX9_hitsBy 105 = .ok (.idiv, 1) := by decide +kernel
theorem dX9_hitsBy_106 : decode cX9_hitsBy 106 = .ok (.laload, 1) := by decide +kernel
theorem dX9_hitsBy_107 : decode cX9_hitsBy 107 = .ok (.ladd, 1) := by decide +kernel
theorem dX9_hitsBy_108 : decode cX9_hitsBy 108 = .ok (.lastore, 1) := by decide +kernel
theorem dX9_hitsBy_109 : decode cX9_hitsBy 109 = .ok (.iinc 7 1, 3) := by decide +kernel
theorem dX9_hitsBy_112 : decode cX9_hitsBy 112 = .ok (.goto (-55), 3) := by decide +kernel
theorem dX9_hitsBy_115 : decode cX9_hitsBy 115 = .ok (.iinc 6 1, 3) := by decide +kernel
theorem dX9_hitsBy_118 : decode cX9_hitsBy 118 = .ok (.goto (-107), 3) := by decide +kernel
theorem dX9_hitsBy_121 : decode cX9_hitsBy 121 = .ok (.lload 4, 2) := by decide +kernel
theorem dX9_hitsBy_123 : decode cX9_hitsBy 123 = .ok (.lreturn, 1) := by decide +kernel
set_option maxRecDepth 20000 in
theorem ggX9_hits_X9_lawFault : GoodIn wsX9_hits wsX9_lawFault := goodIn_r _ [5, 6, 7, 8, 4, 9, 10, 11, 12, 13, 43, 44, 45, 46, 47, 48, 49, 50, 51, 52, 53, 54, 55] (by decide +kernel) (by decide +kernel)
set_option maxRecDepth 20000 in
theorem gX9_hits_X9_lawFault : GoodIn wsX9_hits (wsV RX9 92 RX9 yX9_lawFault wsX9_lawFault) := goodIn_app (goodIn_of _ (by decide +kernel)) ggX9_hits_X9_lawFault
set_option maxRecDepth 20000 in
theorem ggX9_hits_X9_can : GoodIn wsX9_hits wsX9_can := goodIn_r _ [17, 18, 43, 44, 45, 46, 47, 48, 49, 50, 51, 52, 53, 54, 55] (by decide +kernel) (by decide +kernel)
set_option maxRecDepth 20000 in
theorem gX9_hits_X9_can : GoodIn wsX9_hits (wsV RX9 55 RX9 yX9_can wsX9_can) := goodIn_app (goodIn_of _ (by decide +kernel)) ggX9_hits_X9_can
set_option maxRecDepth 20000 in
theorem ggX9_hits_X9_hitsBy : GoodIn wsX9_hits wsX9_hitsBy := goodIn_r _ [22, 23, 10, 24, 25, 26, 27, 28, 4, 29, 30, 31, 32, 33, 34, 35, 36, 37, 38, 39, 40, 41, 42, 43, 44, 45, 46, 47, 48, 49, 50, 51, 52, 53, 54, 55] (by decide +kernel) (by decide +kernel)
set_option maxRecDepth 20000 in
theorem gX9_hits_X9_hitsBy : GoodIn wsX9_hits (wsV RX9 119 RX9 yX9_hitsBy wsX9_hitsBy) := goodIn_app (goodIn_of _ (by decide +kernel)) ggX9_hits_X9_hitsBy
theorem dX9_hits_0 : decode cX9_hits 0 = .ok (.aload_n 0, 1) := by decide +kernel
theorem dX9_hits_1 : decode cX9_hits 1 = .ok (.aload_n 0, 1) := by decide +kernel
theorem dX9_hits_2 : decode cX9_hits 2 = .ok (.iload_n 1, 1) := by decide +kernel
theorem dX9_hits_3 : decode cX9_hits 3 = .ok (.iload_n 2, 1) := by decide +kernel
theorem dX9_hits_4 : decode cX9_hits 4 = .ok (.iload_n 3, 1) := by decide +kernel
theorem dX9_hits_5 : decode cX9_hits 5 = .ok (.bipush 12, 2) := by decide +kernel
theorem dX9_hits_7 : decode cX9_hits 7 = .ok (.invokevirtual 92, 3) := by decide +kernel
theorem dX9_hits_10 : decode cX9_hits 10 = .ok (.invokevirtual 55, 3) := by decide +kernel
theorem dX9_hits_13 : decode cX9_hits 13 = .ok (.ifCond .eq 13, 3) := by decide +kernel
theorem dX9_hits_16 : decode cX9_hits 16 = .ok (.aload_n 0, 1) := by decide +kernel
theorem dX9_hits_17 : decode cX9_hits 17 = .ok (.iload_n 1, 1) := by decide +kernel
theorem dX9_hits_18 : decode cX9_hits 18 = .ok (.iload_n 2, 1) := by decide +kernel
theorem dX9_hits_19 : decode cX9_hits 19 = .ok (.iload_n 3, 1) := by decide +kernel
theorem dX9_hits_20 : decode cX9_hits 20 = .ok (.invokevirtual 119, 3) := by decide +kernel
theorem dX9_hits_23 : decode cX9_hits 23 = .ok (.goto 4, 3) := by decide +kernel
theorem dX9_hits_26 : decode cX9_hits 26 = .ok (.lconst 0, 1) := by decide +kernel
theorem dX9_hits_27 : decode cX9_hits 27 = .ok (.lreturn, 1) := by decide +kernel
set_option maxRecDepth 20000 in
theorem ggX9_ahead_X9_image : GoodIn wsX9_ahead wsX9_image := goodIn_r _ [6, 7, 8, 9, 10, 5, 11, 12, 13, 14, 15, 16, 17, 18, 19, 20, 21, 22, 23, 24, 25] (by decide +kernel) (by decide +kernel)
set_option maxRecDepth 20000 in
theorem gX9_ahead_X9_image : GoodIn wsX9_ahead (wsV RX9 112 RX9 yX9_image wsX9_image) := goodIn_app (goodIn_of _ (by decide +kernel)) ggX9_ahead_X9_image
theorem dX9_ahead_0 : decode cX9_ahead 0 = .ok (.iconst 0, 1) := by decide +kernel
theorem dX9_ahead_1 : decode cX9_ahead 1 = .ok (.istore_n 2, 1) := by decide +kernel
theorem dX9_ahead_2 : decode cX9_ahead 2 = .ok (.iconst 0, 1) := by decide +kernel
theorem dX9_ahead_3 : decode cX9_ahead 3 = .ok (.istore_n 3, 1) := by decide +kernel
theorem dX9_ahead_4 : decode cX9_ahead 4 = .ok (.iload_n 3, 1) := by decide +kernel
theorem dX9_ahead_5 : decode cX9_ahead 5 = .ok (.aload_n 0, 1) := by decide +kernel
theorem dX9_ahead_6 : decode cX9_ahead 6 = .ok (.getfield 13, 3) := by decide +kernel
theorem dX9_ahead_9 : decode cX9_ahead 9 = .ok (.if_icmp .ge 18, 3) := by decide +kernel
theorem dX9_ahead_12 : decode cX9_ahead 12 = .ok (.iload_n 2, 1) := by decide +kernel
theorem dX9_ahead_13 : decode cX9_ahead 13 = .ok (.aload_n 0, 1) := by decide +kernel
theorem dX9_ahead_14 : decode cX9_ahead 14 = .ok (.iload_n 1, 1) := by decide +kernel
theorem dX9_ahead_15 : decode cX9_ahead 15 = .ok (.iload_n 3, 1) := by decide +kernel
theorem dX9_ahead_16 : decode cX9_ahead 16 = .ok (.invokevirtual 112, 3) := by decide +kernel
theorem dX9_ahead_19 : decode cX9_ahead 19 = .ok (.ior, 1) := by decide +kernel
theorem dX9_ahead_20 : decode cX9_ahead 20 = .ok (.istore_n 2, 1) := by decide +kernel
theorem dX9_ahead_21 : decode cX9_ahead 21 = .ok (.iinc 3 1, 3) := by decide +kernel
theorem dX9_ahead_24 : decode cX9_ahead 24 = .ok (.goto (-20), 3) := by decide +kernel
theorem dX9_ahead_27 : decode cX9_ahead 27 = .ok (.iload_n 2, 1) := by decide +kernel
theorem dX9_ahead_28 : decode cX9_ahead 28 = .ok (.ireturn, 1) := by decide +kernel
set_option maxRecDepth 20000 in
theorem ggX9_reached_X9_ahead : GoodIn wsX9_reached wsX9_ahead := goodIn_r _ [6, 7, 8, 9, 10, 5, 11, 1, 12, 13, 14, 15, 16, 17, 18, 19, 20, 21, 22, 23, 24, 25, 26, 27, 28, 29] (by decide +kernel) (by decide +kernel)
set_option maxRecDepth 20000 in
theorem gX9_reached_X9_ahead : GoodIn wsX9_reached (wsV RX9 122 RX9 yX9_ahead wsX9_ahead) := goodIn_app (goodIn_of _ (by decide +kernel)) ggX9_reached_X9_ahead
theorem dX9_reached_0 : decode cX9_reached 0 = .ok (.iconst 1, 1) := by decide +kernel
theorem dX9_reached_1 : decode cX9_reached 1 = .ok (.iload_n 1, 1) := by decide +kernel
theorem dX9_reached_2 : decode cX9_reached 2 = .ok (.ishl, 1) := by decide +kernel
theorem dX9_reached_3 : decode cX9_reached 3 = .ok (.istore_n 2, 1) := by decide +kernel
theorem dX9_reached_4 : decode cX9_reached 4 = .ok (.iconst 0, 1) := by decide +kernel
theorem dX9_reached_5 : decode cX9_reached 5 = .ok (.istore_n 3, 1) := by decide +kernel
theorem dX9_reached_6 : decode cX9_reached 6 = .ok (.iload_n 3, 1) := by decide +kernel
theorem dX9_reached_7 : decode cX9_reached 7 = .ok (.aload_n 0, 1) := by decide +kernel
theorem dX9_reached_8 : decode cX9_reached 8 = .ok (.getfield 7, 3) := by decide +kernel
theorem dX9_reached_11 : decode cX9_reached 11 = .ok (.if_icmp .ge 17, 3) := by decide +kernel
theorem dX9_reached_14 : decode cX9_reached 14 = .ok (.iload_n 2, 1) := by decide +kernel
theorem dX9_reached_15 : decode cX9_reached 15 = .ok (.aload_n 0, 1) := by decide +kernel
theorem dX9_reached_16 : decode cX9_reached 16 = .ok (.iload_n 2, 1) := by decide +kernel
theorem dX9_reached_17 : decode cX9_reached 17 = .ok (.invokevirtual 122, 3) := by decide +kernel
theorem dX9_reached_20 : decode cX9_reached 20 = .ok (.ior, 1) := by decide +kernel
theorem dX9_reached_21 : decode cX9_reached 21 = .ok (.istore_n 2, 1) := by decide +kernel
theorem dX9_reached_22 : decode cX9_reached 22 = .ok (.iinc 3 1, 3) := by decide +kernel
theorem dX9_reached_25 : decode cX9_reached 25 = .ok (.goto (-19), 3) := by decide +kernel
theorem dX9_reached_28 : decode cX9_reached 28 = .ok (.iload_n 2, 1) := by decide +kernel
theorem dX9_reached_29 : decode cX9_reached 29 = .ok (.ireturn, 1) := by decide +kernel
set_option maxRecDepth 20000 in
theorem ggX9_reach_X9_isState : GoodIn wsX9_reach wsX9_isState := goodIn_r _ [5, 6, 7, 8, 4, 9, 33, 34, 35, 36, 37, 38, 39, 40, 41, 42, 43, 44, 45] (by decide +kernel) (by decide +kernel)
set_option maxRecDepth 20000 in
theorem gX9_reach_X9_isState : GoodIn wsX9_reach (wsV RX9 59 RX9 yX9_isState wsX9_isState) := goodIn_app (goodIn_of _ (by decide +kernel)) ggX9_reach_X9_isState
set_option maxRecDepth 20000 in
theorem ggX9_reach_X9_can : GoodIn wsX9_reach wsX9_can := goodIn_r _ [13, 14, 33, 34, 35, 36, 37, 38, 39, 40, 41, 42, 43, 44, 45] (by decide +kernel) (by decide +kernel)
set_option maxRecDepth 20000 in
theorem gX9_reach_X9_can : GoodIn wsX9_reach (wsV RX9 55 RX9 yX9_can wsX9_can) := goodIn_app (goodIn_of _ (by decide +kernel)) ggX9_reach_X9_can
set_option maxRecDepth 20000 in
theorem ggX9_reach_X9_reached : GoodIn wsX9_reach wsX9_reached := goodIn_r _ [18, 6, 19, 20, 21, 4, 22, 23, 24, 25, 26, 27, 28, 29, 30, 31, 32, 33, 34, 35, 36, 37, 38, 39, 40, 41, 42, 43, 44, 45] (by decide +kernel) (by decide +kernel)
set_option maxRecDepth 20000 in
theorem gX9_reach_X9_reached : GoodIn wsX9_reach (wsV RX9 126 RX9 yX9_reached wsX9_reached) := goodIn_app (goodIn_of _ (by decide +kernel)) ggX9_reach_X9_reached
theorem dX9_reach_0 : decode cX9_reach 0 = .ok (.aload_n 0, 1) := by decide +kernel
theorem dX9_reach_1 : decode cX9_reach 1 = .ok (.aload_n 0, 1) := by decide +kernel
theorem dX9_reach_2 : decode cX9_reach 2 = .ok (.iload_n 1, 1) := by decide +kernel
theorem dX9_reach_3 : decode cX9_reach 3 = .ok (.invokevirtual 59, 3) := by decide +kernel
theorem dX9_reach_6 : decode cX9_reach 6 = .ok (.ifCond .eq 7, 3) := by decide +kernel
theorem dX9_reach_9 : decode cX9_reach 9 = .ok (.iconst 0, 1) := by decide +kernel
theorem dX9_reach_10 : decode cX9_reach 10 = .ok (.goto 4, 3) := by decide +kernel
theorem dX9_reach_13 : decode cX9_reach 13 = .ok (.iconst 1, 1) := by decide +kernel
theorem dX9_reach_14 : decode cX9_reach 14 = .ok (.invokevirtual 55, 3) := by decide +kernel
theorem dX9_reach_17 : decode cX9_reach 17 = .ok (.ifCond .eq 11, 3) := by decide +kernel
theorem dX9_reach_20 : decode cX9_reach 20 = .ok (.aload_n 0, 1) := by decide +kernel
theorem dX9_reach_21 : decode cX9_reach 21 = .ok (.iload_n 1, 1) := by decide +kernel
theorem dX9_reach_22 : decode cX9_reach 22 = .ok (.invokevirtual 126, 3) := by decide +kernel
theorem dX9_reach_25 : decode cX9_reach 25 = .ok (.goto 4, 3) := by decide +kernel
theorem dX9_reach_28 : decode cX9_reach 28 = .ok (.iconst 0, 1) := by decide +kernel
theorem dX9_reach_29 : decode cX9_reach 29 = .ok (.ireturn, 1) := by decide +kernel
set_option maxRecDepth 20000 in
theorem ggX9_isClosed_X9_reached : GoodIn wsX9_isClosed wsX9_reached := goodIn_r _ [6, 1, 7, 8, 9, 5, 10, 11, 12, 13, 14, 15, 16, 17, 18, 19, 20, 21, 22, 23, 24, 25, 26, 27, 28, 29, 30, 31, 32, 33] (by decide +kernel) (by decide +kernel)
set_option maxRecDepth 20000 in
theorem gX9_isClosed_X9_reached : GoodIn wsX9_isClosed (wsV RX9 126 RX9 yX9_reached wsX9_reached) := goodIn_app (goodIn_of _ (by decide +kernel)) ggX9_isClosed_X9_reached
theorem dX9_isClosed_0 : decode cX9_isClosed 0 = .ok (.aload_n 0, 1) := by decide +kernel
theorem dX9_isClosed_1 : decode cX9_isClosed 1 = .ok (.iload_n 1, 1) := by decide +kernel
theorem dX9_isClosed_2 : decode cX9_isClosed 2 = .ok (.invokevirtual 126, 3) := by decide +kernel
theorem dX9_isClosed_5 : decode cX9_isClosed 5 = .ok (.istore_n 2, 1) := by decide +kernel
theorem dX9_isClosed_6 : decode cX9_isClosed 6 = .ok (.iconst 1, 1) := by decide +kernel
theorem dX9_isClosed_7 : decode cX9_isClosed 7 = .ok (.istore_n 3, 1) := by decide +kernel
theorem dX9_isClosed_8 : decode cX9_isClosed 8 = .ok (.iconst 0, 1) := by decide +kernel
theorem dX9_isClosed_9 : decode cX9_isClosed 9 = .ok (.istore 4, 2) := by decide +kernel
theorem dX9_isClosed_11 : decode cX9_isClosed 11 = .ok (.iload 4, 2) := by decide +kernel
theorem dX9_isClosed_13 : decode cX9_isClosed 13 = .ok (.aload_n 0, 1) := by decide +kernel
theorem dX9_isClosed_14 : decode cX9_isClosed 14 = .ok (.getfield 7, 3) := by decide +kernel
theorem dX9_isClosed_17 : decode cX9_isClosed 17 = .ok (.if_icmp .ge 42, 3) := by decide +kernel
theorem dX9_isClosed_20 : decode cX9_isClosed 20 = .ok (.iload_n 3, 1) := by decide +kernel
theorem dX9_isClosed_21 : decode cX9_isClosed 21 = .ok (.ifCond .eq 30, 3) := by decide +kernel
theorem dX9_isClosed_24 : decode cX9_isClosed 24 = .ok (.iload_n 2, 1) := by decide +kernel
theorem dX9_isClosed_25 : decode cX9_isClosed 25 = .ok (.iload 4, 2) := by decide +kernel
theorem dX9_isClosed_27 : decode cX9_isClosed 27 = .ok (.ishr, 1) := by decide +kernel
theorem dX9_isClosed_28 : decode cX9_isClosed 28 = .ok (.iconst 1, 1) := by decide +kernel
theorem dX9_isClosed_29 : decode cX9_isClosed 29 = .ok (.iand, 1) := by decide +kernel
theorem dX9_isClosed_30 : decode cX9_isClosed 30 = .ok (.ifCond .eq 17, 3) := by decide +kernel
theorem dX9_isClosed_33 : decode cX9_isClosed 33 = .ok (.aload_n 0, 1) := by decide +kernel
theorem dX9_isClosed_34 : decode cX9_isClosed 34 = .ok (.iload 4, 2) := by decide +kernel
theorem dX9_isClosed_36 : decode cX9_isClosed 36 = .ok (.invokevirtual 126, 3) := by decide +kernel
theorem dX9_isClosed_39 : decode cX9_isClosed 39 = .ok (.iload_n 1, 1) := by decide +kernel
theorem dX9_isClosed_40 : decode cX9_isClosed 40 = .ok (.ishr, 1) := by decide +kernel
theorem dX9_isClosed_41 : decode cX9_isClosed 41 = .ok (.iconst 1, 1) := by decide +kernel
theorem dX9_isClosed_42 : decode cX9_isClosed 42 = .ok (.iand, 1) := by decide +kernel
theorem dX9_isClosed_43 : decode cX9_isClosed 43 = .ok (.iconst 1, 1) := by decide +kernel
theorem dX9_isClosed_44 : decode cX9_isClosed 44 = .ok (.if_icmp .ne 7, 3) := by decide +kernel
theorem dX9_isClosed_47 : decode cX9_isClosed 47 = .ok (.iconst 1, 1) := by decide +kernel
theorem dX9_isClosed_48 : decode cX9_isClosed 48 = .ok (.goto 4, 3) := by decide +kernel
theorem dX9_isClosed_51 : decode cX9_isClosed 51 = .ok (.iconst 0, 1) := by decide +kernel
theorem dX9_isClosed_52 : decode cX9_isClosed 52 = .ok (.istore_n 3, 1) := by decide +kernel
theorem dX9_isClosed_53 : decode cX9_isClosed 53 = .ok (.iinc 4 1, 3) := by decide +kernel
theorem dX9_isClosed_56 : decode cX9_isClosed 56 = .ok (.goto (-45), 3) := by decide +kernel
theorem dX9_isClosed_59 : decode cX9_isClosed 59 = .ok (.iload_n 3, 1) := by decide +kernel
theorem dX9_isClosed_60 : decode cX9_isClosed 60 = .ok (.ireturn, 1) := by decide +kernel
set_option maxRecDepth 20000 in
theorem ggX9_closed_X9_isClosed : GoodIn wsX9_closed wsX9_isClosed := goodIn_r _ [7, 2, 8, 9, 10, 6, 11, 12, 13, 14, 15, 16, 17, 18, 19, 20, 21, 22, 23, 24, 25, 26, 27, 28, 29, 30, 31, 32, 33, 34, 35, 36, 37, 38] (by decide +kernel) (by decide +kernel)
set_option maxRecDepth 20000 in
theorem gX9_closed_X9_isClosed : GoodIn wsX9_closed (wsV RX9 129 RX9 yX9_isClosed wsX9_isClosed) := goodIn_app (goodIn_of _ (by decide +kernel)) ggX9_closed_X9_isClosed
set_option maxRecDepth 20000 in
theorem ggX9_closed_X9_reached : GoodIn wsX9_closed wsX9_reached := goodIn_r _ [11, 2, 12, 13, 14, 6, 15, 16, 17, 18, 19, 20, 21, 22, 23, 24, 25, 26, 27, 28, 29, 30, 31, 32, 33, 34, 35, 36, 37, 38] (by decide +kernel) (by decide +kernel)
set_option maxRecDepth 20000 in
theorem gX9_closed_X9_reached : GoodIn wsX9_closed (wsV RX9 126 RX9 yX9_reached wsX9_reached) := goodIn_app (goodIn_of _ (by decide +kernel)) ggX9_closed_X9_reached
theorem dX9_closed_0 : decode cX9_closed 0 = .ok (.aload_n 0, 1) := by decide +kernel
theorem dX9_closed_1 : decode cX9_closed 1 = .ok (.iconst 0, 1) := by decide +kernel
theorem dX9_closed_2 : decode cX9_closed 2 = .ok (.putfield 48, 3) := by decide +kernel
theorem dX9_closed_5 : decode cX9_closed 5 = .ok (.iconst 0, 1) := by decide +kernel
theorem dX9_closed_6 : decode cX9_closed 6 = .ok (.istore_n 1, 1) := by decide +kernel
theorem dX9_closed_7 : decode cX9_closed 7 = .ok (.iconst 0, 1) := by decide +kernel
theorem dX9_closed_8 : decode cX9_closed 8 = .ok (.istore_n 2, 1) := by decide +kernel
theorem dX9_closed_9 : decode cX9_closed 9 = .ok (.iload_n 2, 1) := by decide +kernel
theorem dX9_closed_10 : decode cX9_closed 10 = .ok (.aload_n 0, 1) := by decide +kernel
theorem dX9_closed_11 : decode cX9_closed 11 = .ok (.getfield 7, 3) := by decide +kernel
theorem dX9_closed_14 : decode cX9_closed 14 = .ok (.if_icmp .ge 39, 3) := by decide +kernel
theorem dX9_closed_17 : decode cX9_closed 17 = .ok (.iload_n 1, 1) := by decide +kernel
theorem dX9_closed_18 : decode cX9_closed 18 = .ok (.aload_n 0, 1) := by decide +kernel
theorem dX9_closed_19 : decode cX9_closed 19 = .ok (.iload_n 2, 1) := by decide +kernel
theorem dX9_closed_20 : decode cX9_closed 20 = .ok (.invokevirtual 129, 3) := by decide +kernel
theorem dX9_closed_23 : decode cX9_closed 23 = .ok (.ifCond .eq 21, 3) := by decide +kernel
theorem dX9_closed_26 : decode cX9_closed 26 = .ok (.aload_n 0, 1) := by decide +kernel
theorem dX9_closed_27 : decode cX9_closed 27 = .ok (.iload_n 2, 1) := by decide +kernel
theorem dX9_closed_28 : decode cX9_closed 28 = .ok (.invokevirtual 126, 3) := by decide +kernel
theorem dX9_closed_31 : decode cX9_closed 31 = .ok (.iconst 1, 1) := by decide +kernel
theorem dX9_closed_32 : decode cX9_closed 32 = .ok (.iload_n 2, 1) := by decide +kernel
theorem dX9_closed_33 : decode cX9_closed 33 = .ok (.ishl, 1) := by decide +kernel
theorem dX9_closed_34 : decode cX9_closed 34 = .ok (.iconst 1, 1) := by decide +kernel
theorem dX9_closed_35 : decode cX9_closed 35 = .ok (.isub, 1) := by decide +kernel
theorem dX9_closed_36 : decode cX9_closed 36 = .ok (.iand, 1) := by decide +kernel
theorem dX9_closed_37 : decode cX9_closed 37 = .ok (.ifCond .ne 7, 3) := by decide +kernel
theorem dX9_closed_40 : decode cX9_closed 40 = .ok (.iconst 1, 1) := by decide +kernel
theorem dX9_closed_41 : decode cX9_closed 41 = .ok (.goto 4, 3) := by decide +kernel
theorem dX9_closed_44 : decode cX9_closed 44 = .ok (.iconst 0, 1) := by decide +kernel
theorem dX9_closed_45 : decode cX9_closed 45 = .ok (.iadd, 1) := by decide +kernel
theorem dX9_closed_46 : decode cX9_closed 46 = .ok (.istore_n 1, 1) := by decide +kernel
theorem dX9_closed_47 : decode cX9_closed 47 = .ok (.iinc 2 1, 3) := by decide +kernel
theorem dX9_closed_50 : decode cX9_closed 50 = .ok (.goto (-41), 3) := by decide +kernel
theorem dX9_closed_53 : decode cX9_closed 53 = .ok (.iload_n 1, 1) := by decide +kernel
theorem dX9_closed_54 : decode cX9_closed 54 = .ok (.ireturn, 1) := by decide +kernel
theorem dX9_common_0 : decode cX9_common 0 = .ok (.iload_n 0, 1) := by decide +kernel
theorem dX9_common_1 : decode cX9_common 1 = .ok (.istore_n 2, 1) := by decide +kernel
theorem dX9_common_2 : decode cX9_common 2 = .ok (.iload_n 1, 1) := by decide +kernel
theorem dX9_common_3 : decode cX9_common 3 = .ok (.istore_n 3, 1) := by decide +kernel
theorem dX9_common_4 : decode cX9_common 4 = .ok (.iload_n 3, 1) := by decide +kernel
theorem dX9_common_5 : decode cX9_common 5 = .ok (.ifCond .le 16, 3) := by decide +kernel
theorem dX9_common_8 : decode cX9_common 8 = .ok (.iload_n 2, 1) := by decide +kernel
theorem dX9_common_9 : decode cX9_common 9 = .ok (.iload_n 3, 1) := by decide +kernel
theorem dX9_common_10 : decode cX9_common 10 = .ok (.irem, 1) := by decide +kernel
theorem dX9_common_11 : decode cX9_common 11 = .ok (.istore 4, 2) := by decide +kernel
theorem dX9_common_13 : decode cX9_common 13 = .ok (.iload_n 3, 1) := by decide +kernel
theorem dX9_common_14 : decode cX9_common 14 = .ok (.istore_n 2, 1) := by decide +kernel
theorem dX9_common_15 : decode cX9_common 15 = .ok (.iload 4, 2) := by decide +kernel
theorem dX9_common_17 : decode cX9_common 17 = .ok (.istore_n 3, 1) := by decide +kernel
theorem dX9_common_18 : decode cX9_common 18 = .ok (.goto (-14), 3) := by decide +kernel
theorem dX9_common_21 : decode cX9_common 21 = .ok (.iload_n 2, 1) := by decide +kernel
theorem dX9_common_22 : decode cX9_common 22 = .ok (.ireturn, 1) := by decide +kernel
set_option maxRecDepth 20000 in
theorem ggX9_period_X9_isState : GoodIn wsX9_period wsX9_isState := goodIn_r _ [5, 6, 7, 8, 4, 9, 32, 33, 34, 35, 36, 37, 38, 39, 40, 41, 42, 43, 44] (by decide +kernel) (by decide +kernel)
set_option maxRecDepth 20000 in
theorem gX9_period_X9_isState : GoodIn wsX9_period (wsV RX9 59 RX9 yX9_isState wsX9_isState) := goodIn_app (goodIn_of _ (by decide +kernel)) ggX9_period_X9_isState
set_option maxRecDepth 20000 in
theorem ggX9_period_X9_can : GoodIn wsX9_period wsX9_can := goodIn_r _ [13, 14, 32, 33, 34, 35, 36, 37, 38, 39, 40, 41, 42, 43, 44] (by decide +kernel) (by decide +kernel)
set_option maxRecDepth 20000 in
theorem gX9_period_X9_can : GoodIn wsX9_period (wsV RX9 55 RX9 yX9_can wsX9_can) := goodIn_app (goodIn_of _ (by decide +kernel)) ggX9_period_X9_can
set_option maxRecDepth 20000 in
theorem ggX9_period_X9_ahead : GoodIn wsX9_period wsX9_ahead := goodIn_r _ [18, 19, 20, 21, 22, 4, 23, 6, 24, 25, 26, 27, 28, 32, 33, 34, 35, 36, 37, 38, 39, 40, 41, 42, 43, 44] (by decide +kernel) (by decide +kernel)
set_option maxRecDepth 20000 in
theorem gX9_period_X9_ahead : GoodIn wsX9_period (wsV RX9 122 RX9 yX9_ahead wsX9_ahead) := goodIn_app (goodIn_of _ (by decide +kernel)) ggX9_period_X9_ahead
set_option maxRecDepth 20000 in
theorem ggX9_period_X9_common : GoodIn wsX9_period wsX9_common := goodIn_r _ [31] (by decide +kernel) (by decide +kernel)
set_option maxRecDepth 20000 in
theorem gX9_period_X9_common : GoodIn wsX9_period (va_wsS RX9 132 yX9_common wsX9_common) := goodIn_app (goodIn_of _ (by decide +kernel)) ggX9_period_X9_common
theorem dX9_period_0 : decode cX9_period 0 = .ok (.aload_n 0, 1) := by decide +kernel
theorem dX9_period_1 : decode cX9_period 1 = .ok (.aload_n 0, 1) := by decide +kernel
theorem dX9_period_2 : decode cX9_period 2 = .ok (.iload_n 1, 1) := by decide +kernel
theorem dX9_period_3 : decode cX9_period 3 = .ok (.invokevirtual 59, 3) := by decide +kernel
theorem dX9_period_6 : decode cX9_period 6 = .ok (.ifCond .eq 7, 3) := by decide +kernel
theorem dX9_period_9 : decode cX9_period 9 = .ok (.iconst 0, 1) := by decide +kernel
theorem dX9_period_10 : decode cX9_period 10 = .ok (.goto 4, 3) := by decide +kernel
theorem dX9_period_13 : decode cX9_period 13 = .ok (.iconst 1, 1) := by decide +kernel
theorem dX9_period_14 : decode cX9_period 14 = .ok (.invokevirtual 55, 3) := by decide +kernel
theorem dX9_period_17 : decode cX9_period 17 = .ok (.ifCond .ne 5, 3) := by decide +kernel
theorem dX9_period_20 : decode cX9_period 20 = .ok (.iconst 0, 1) := by decide +kernel
theorem dX9_period_21 : decode cX9_period 21 = .ok (.ireturn, 1) := by decide +kernel
theorem dX9_period_22 : decode cX9_period 22 = .ok (.iconst 1, 1) := by decide +kernel
theorem dX9_period_23 : decode cX9_period 23 = .ok (.iload_n 1, 1) := by decide +kernel
theorem dX9_period_24 : decode cX9_period 24 = .ok (.ishl, 1) := by decide +kernel
theorem dX9_period_25 : decode cX9_period 25 = .ok (.istore_n 2, 1) := by decide +kernel
theorem dX9_period_26 : decode cX9_period 26 = .ok (.iconst 0, 1) := by decide +kernel
theorem dX9_period_27 : decode cX9_period 27 = .ok (.istore_n 3, 1) := by decide +kernel
theorem dX9_period_28 : decode cX9_period 28 = .ok (.iconst 1, 1) := by decide +kernel
theorem dX9_period_29 : decode cX9_period 29 = .ok (.istore 4, 2) := by decide +kernel
theorem dX9_period_31 : decode cX9_period 31 = .ok (.iload 4, 2) := by decide +kernel
theorem dX9_period_33 : decode cX9_period 33 = .ok (.bipush 40, 2) := by decide +kernel
theorem dX9_period_35 : decode cX9_period 35 = .ok (.if_icmp .gt 35, 3) := by decide +kernel
theorem dX9_period_38 : decode cX9_period 38 = .ok (.aload_n 0, 1) := by decide +kernel
theorem dX9_period_39 : decode cX9_period 39 = .ok (.iload_n 2, 1) := by decide +kernel
theorem dX9_period_40 : decode cX9_period 40 = .ok (.invokevirtual 122, 3) := by decide +kernel
theorem dX9_period_43 : decode cX9_period 43 = .ok (.istore_n 2, 1) := by decide +kernel
theorem dX9_period_44 : decode cX9_period 44 = .ok (.iload_n 2, 1) := by decide +kernel
theorem dX9_period_45 : decode cX9_period 45 = .ok (.iload_n 1, 1) := by decide +kernel
theorem dX9_period_46 : decode cX9_period 46 = .ok (.ishr, 1) := by decide +kernel
theorem dX9_period_47 : decode cX9_period 47 = .ok (.iconst 1, 1) := by decide +kernel
theorem dX9_period_48 : decode cX9_period 48 = .ok (.iand, 1) := by decide +kernel
theorem dX9_period_49 : decode cX9_period 49 = .ok (.iconst 1, 1) := by decide +kernel
theorem dX9_period_50 : decode cX9_period 50 = .ok (.if_icmp .ne 12, 3) := by decide +kernel
theorem dX9_period_53 : decode cX9_period 53 = .ok (.iload 4, 2) := by decide +kernel
theorem dX9_period_55 : decode cX9_period 55 = .ok (.iload_n 3, 1) := by decide +kernel
theorem dX9_period_56 : decode cX9_period 56 = .ok (.invokestatic 132, 3) := by decide +kernel
theorem dX9_period_59 : decode cX9_period 59 = .ok (.goto 4, 3) := by decide +kernel
theorem dX9_period_62 : decode cX9_period 62 = .ok (.iload_n 3, 1) := by decide +kernel
theorem dX9_period_63 : decode cX9_period 63 = .ok (.istore_n 3, 1) := by decide +kernel
theorem dX9_period_64 : decode cX9_period 64 = .ok (.iinc 4 1, 3) := by decide +kernel
theorem dX9_period_67 : decode cX9_period 67 = .ok (.goto (-36), 3) := by decide +kernel
theorem dX9_period_70 : decode cX9_period 70 = .ok (.iload_n 3, 1) := by decide +kernel
theorem dX9_period_71 : decode cX9_period 71 = .ok (.ireturn, 1) := by decide +kernel
set_option maxRecDepth 20000 in
theorem ggX9_laysWeights_X9_weigh : GoodIn wsX9_laysWeights wsX9_weigh := goodIn_r _ [8, 3, 9, 10, 11, 7, 12, 13, 14, 15, 16, 17, 18, 19, 20, 21, 22, 23, 24, 25, 26] (by decide +kernel) (by decide +kernel)
set_option maxRecDepth 20000 in
theorem gX9_laysWeights_X9_weigh : GoodIn wsX9_laysWeights (wsV RX9 71 RX9 yX9_weigh wsX9_weigh) := goodIn_app (goodIn_of _ (by decide +kernel)) ggX9_laysWeights_X9_weigh
theorem dX9_laysWeights_0 : decode cX9_laysWeights 0 = .ok (.aload_n 0, 1) := by decide +kernel
theorem dX9_laysWeights_1 : decode cX9_laysWeights 1 = .ok (.getfield 7, 3) := by decide +kernel
theorem dX9_laysWeights_4 : decode cX9_laysWeights 4 = .ok (.iconst 1, 1) := by decide +kernel
theorem dX9_laysWeights_5 : decode cX9_laysWeights 5 = .ok (.isub, 1) := by decide +kernel
theorem dX9_laysWeights_6 : decode cX9_laysWeights 6 = .ok (.istore_n 2, 1) := by decide +kernel
theorem dX9_laysWeights_7 : decode cX9_laysWeights 7 = .ok (.iconst 0, 1) := by decide +kernel
theorem dX9_laysWeights_8 : decode cX9_laysWeights 8 = .ok (.istore_n 3, 1) := by decide +kernel
theorem dX9_laysWeights_9 : decode cX9_laysWeights 9 = .ok (.iload_n 3, 1) := by decide +kernel
theorem dX9_laysWeights_10 : decode cX9_laysWeights 10 = .ok (.iload_n 2, 1) := by decide +kernel
theorem dX9_laysWeights_11 : decode cX9_laysWeights 11 = .ok (.iload_n 2, 1) := by decide +kernel
theorem dX9_laysWeights_12 : decode cX9_laysWeights 12 = .ok (.imul, 1) := by decide +kernel
theorem dX9_laysWeights_13 : decode cX9_laysWeights 13 = .ok (.if_icmp .ge 97, 3) := by decide +kernel
theorem dX9_laysWeights_16 : decode cX9_laysWeights 16 = .ok (.iload_n 3, 1) := by decide +kernel
theorem dX9_laysWeights_17 : decode cX9_laysWeights 17 = .ok (.iload_n 2, 1) := by decide +kernel
theorem dX9_laysWeights_18 : decode cX9_laysWeights 18 = .ok (.idiv, 1) := by decide +kernel
theorem dX9_laysWeights_19 : decode cX9_laysWeights 19 = .ok (.iload_n 1, 1) := by decide +kernel
theorem dX9_laysWeights_20 : decode cX9_laysWeights 20 = .ok (.if_icmp .ge 9, 3) := by decide +kernel
theorem dX9_laysWeights_23 : decode cX9_laysWeights 23 = .ok (.iload_n 3, 1) := by decide +kernel
theorem dX9_laysWeights_24 : decode cX9_laysWeights 24 = .ok (.iload_n 2, 1) := by decide +kernel
theorem dX9_laysWeights_25 : decode cX9_laysWeights 25 = .ok (.idiv, 1) := by decide +kernel
theorem dX9_laysWeights_26 : decode cX9_laysWeights 26 = .ok (.goto 8, 3) := by decide +kernel
theorem dX9_laysWeights_29 : decode cX9_laysWeights 29 = .ok (.iload_n 3, 1) := by decide +kernel
theorem dX9_laysWeights_30 : decode cX9_laysWeights 30 = .ok (.iload_n 2, 1) := by decide +kernel
theorem dX9_laysWeights_31 : decode cX9_laysWeights 31 = .ok (.idiv, 1) := by decide +kernel
theorem dX9_laysWeights_32 : decode cX9_laysWeights 32 = .ok (.iconst 1, 1) := by decide +kernel
theorem dX9_laysWeights_33 : decode cX9_laysWeights 33 = .ok (.iadd, 1) := by decide +kernel
theorem dX9_laysWeights_34 : decode cX9_laysWeights 34 = .ok (.istore 4, 2) := by decide +kernel
theorem dX9_laysWeights_36 : decode cX9_laysWeights 36 = .ok (.iload_n 3, 1) := by decide +kernel
theorem dX9_laysWeights_37 : decode cX9_laysWeights 37 = .ok (.iload_n 2, 1) := by decide +kernel
theorem dX9_laysWeights_38 : decode cX9_laysWeights 38 = .ok (.irem, 1) := by decide +kernel
theorem dX9_laysWeights_39 : decode cX9_laysWeights 39 = .ok (.iload_n 1, 1) := by decide +kernel
theorem dX9_laysWeights_40 : decode cX9_laysWeights 40 = .ok (.if_icmp .ge 9, 3) := by decide +kernel
theorem dX9_laysWeights_43 : decode cX9_laysWeights 43 = .ok (.iload_n 3, 1) := by decide +kernel
theorem dX9_laysWeights_44 : decode cX9_laysWeights 44 = .ok (.iload_n 2, 1) := by decide +kernel
theorem dX9_laysWeights_45 : decode cX9_laysWeights 45 = .ok (.irem, 1) := by decide +kernel
theorem dX9_laysWeights_46 : decode cX9_laysWeights 46 = .ok (.goto 8, 3) := by decide +kernel
theorem dX9_laysWeights_49 : decode cX9_laysWeights 49 = .ok (.iload_n 3, 1) := by decide +kernel
theorem dX9_laysWeights_50 : decode cX9_laysWeights 50 = .ok (.iload_n 2, 1) := by decide +kernel
theorem dX9_laysWeights_51 : decode cX9_laysWeights 51 = .ok (.irem, 1) := by decide +kernel
theorem dX9_laysWeights_52 : decode cX9_laysWeights 52 = .ok (.iconst 1, 1) := by decide +kernel
theorem dX9_laysWeights_53 : decode cX9_laysWeights 53 = .ok (.iadd, 1) := by decide +kernel
theorem dX9_laysWeights_54 : decode cX9_laysWeights 54 = .ok (.istore 5, 2) := by decide +kernel
theorem dX9_laysWeights_56 : decode cX9_laysWeights 56 = .ok (.aload_n 0, 1) := by decide +kernel
theorem dX9_laysWeights_57 : decode cX9_laysWeights 57 = .ok (.getfield 39, 3) := by decide +kernel
theorem dX9_laysWeights_60 : decode cX9_laysWeights 60 = .ok (.iconst 5, 1) := by decide +kernel
theorem dX9_laysWeights_61 : decode cX9_laysWeights 61 = .ok (.iload_n 3, 1) := by decide +kernel
theorem dX9_laysWeights_62 : decode cX9_laysWeights 62 = .ok (.iload_n 2, 1) := by decide +kernel
theorem dX9_laysWeights_63 : decode cX9_laysWeights 63 = .ok (.idiv, 1) := by decide +kernel
theorem dX9_laysWeights_64 : decode cX9_laysWeights 64 = .ok (.imul, 1) := by decide +kernel
theorem dX9_laysWeights_65 : decode cX9_laysWeights 65 = .ok (.iload_n 3, 1) := by decide +kernel
theorem dX9_laysWeights_66 : decode cX9_laysWeights 66 = .ok (.iload_n 2, 1) := by decide +kernel
theorem dX9_laysWeights_67 : decode cX9_laysWeights 67 = .ok (.irem, 1) := by decide +kernel
theorem dX9_laysWeights_68 : decode cX9_laysWeights 68 = .ok (.iadd, 1) := by decide +kernel
theorem dX9_laysWeights_69 : decode cX9_laysWeights 69 = .ok (.iload 4, 2) := by decide +kernel
theorem dX9_laysWeights_71 : decode cX9_laysWeights 71 = .ok (.iload 5, 2) := by decide +kernel
theorem dX9_laysWeights_73 : decode cX9_laysWeights 73 = .ok (.if_icmp .ne 20, 3) := by decide +kernel
theorem dX9_laysWeights_76 : decode cX9_laysWeights 76 = .ok (.aload_n 0, 1) := by decide +kernel
theorem dX9_laysWeights_77 : decode cX9_laysWeights 77 = .ok (.getfield 13, 3) := by decide +kernel
theorem dX9_laysWeights_80 : decode cX9_laysWeights 80 = .ok (.aload_n 0, 1) := by decide +kernel
theorem dX9_laysWeights_81 : decode cX9_laysWeights 81 = .ok (.iload 4, 2) := by decide +kernel
theorem dX9_laysWeights_83 : decode cX9_laysWeights 83 = .ok (.iload 4, 2) := by decide +kernel
theorem dX9_laysWeights_85 : decode cX9_laysWeights 85 = .ok (.invokevirtual 71, 3) := by decide +kernel
theorem dX9_laysWeights_88 : decode cX9_laysWeights 88 = .ok (.isub, 1) := by decide +kernel
theorem dX9_laysWeights_89 : decode cX9_laysWeights 89 = .ok (.i2l, 1) := by decide +kernel
theorem dX9_laysWeights_90 : decode cX9_laysWeights 90 = .ok (.goto 13, 3) := by decide +kernel
theorem dX9_laysWeights_93 : decode cX9_laysWeights 93 = .ok (.aload_n 0, 1) := by decide +kernel
theorem dX9_laysWeights_94 : decode cX9_laysWeights 94 = .ok (.iload 4, 2) := by decide +kernel
theorem dX9_laysWeights_96 : decode cX9_laysWeights 96 = .ok (.iload 5, 2) := by decide +kernel
theorem dX9_laysWeights_98 : decode cX9_laysWeights 98 = .ok (.invokevirtual 71, 3) := by decide +kernel
theorem dX9_laysWeights_101 : decode cX9_laysWeights 101 = .ok (.ineg, 1) := by decide +kernel
theorem dX9_laysWeights_102 : decode cX9_laysWeights 102 = .ok (.i2l, 1) := by decide +kernel
theorem dX9_laysWeights_103 : decode cX9_laysWeights 103 = .ok (.lastore, 1) := by decide +kernel
theorem dX9_laysWeights_104 : decode cX9_laysWeights 104 = .ok (.iinc 3 1, 3) := by decide +kernel
theorem dX9_laysWeights_107 : decode cX9_laysWeights 107 = .ok (.goto (-98), 3) := by decide +kernel
theorem dX9_laysWeights_110 : decode cX9_laysWeights 110 = .ok (.return_, 1) := by decide +kernel
theorem dX9_bits_0 : decode cX9_bits 0 = .ok (.iconst 0, 1) := by decide +kernel
theorem dX9_bits_1 : decode cX9_bits 1 = .ok (.istore_n 1, 1) := by decide +kernel
theorem dX9_bits_2 : decode cX9_bits 2 = .ok (.iconst 0, 1) := by decide +kernel
theorem dX9_bits_3 : decode cX9_bits 3 = .ok (.istore_n 2, 1) := by decide +kernel
theorem dX9_bits_4 : decode cX9_bits 4 = .ok (.iload_n 2, 1) := by decide +kernel
theorem dX9_bits_5 : decode cX9_bits 5 = .ok (.bipush 6, 2) := by decide +kernel
theorem dX9_bits_7 : decode cX9_bits 7 = .ok (.if_icmp .ge 17, 3) := by decide +kernel
theorem dX9_bits_10 : decode cX9_bits 10 = .ok (.iload_n 1, 1) := by decide +kernel
theorem dX9_bits_11 : decode cX9_bits 11 = .ok (.iload_n 0, 1) := by decide +kernel
theorem dX9_bits_12 : decode cX9_bits 12 = .ok (.iload_n 2, 1) := by decide +kernel
theorem dX9_bits_13 : decode cX9_bits 13 = .ok (.ishr, 1) := by decide +kernel
theorem dX9_bits_14 : decode cX9_bits 14 = .ok (.iconst 1, 1) := by decide +kernel
theorem dX9_bits_15 : decode cX9_bits 15 = .ok (.iand, 1) := by decide +kernel
theorem dX9_bits_16 : decode cX9_bits 16 = .ok (.iadd, 1) := by decide +kernel
theorem dX9_bits_17 : decode cX9_bits 17 = .ok (.istore_n 1, 1) := by decide +kernel
theorem dX9_bits_18 : decode cX9_bits 18 = .ok (.iinc 2 1, 3) := by decide +kernel
theorem dX9_bits_21 : decode cX9_bits 21 = .ok (.goto (-17), 3) := by decide +kernel
theorem dX9_bits_24 : decode cX9_bits 24 = .ok (.iload_n 1, 1) := by decide +kernel
theorem dX9_bits_25 : decode cX9_bits 25 = .ok (.ireturn, 1) := by decide +kernel
set_option maxRecDepth 20000 in
theorem ggX9_restOf_X9_laysWeights : GoodIn wsX9_restOf wsX9_laysWeights := goodIn_r _ [8, 1, 3, 9, 10, 11, 12, 7, 13, 14, 15, 16, 17, 18, 22, 23, 24, 25, 26, 27, 28, 29, 30, 31, 32, 33, 34] (by decide +kernel) (by decide +kernel)
set_option maxRecDepth 20000 in
theorem gX9_restOf_X9_laysWeights : GoodIn wsX9_restOf (wsV RX9 135 RX9 yX9_laysWeights wsX9_laysWeights) := goodIn_app (goodIn_of _ (by decide +kernel)) ggX9_restOf_X9_laysWeights
set_option maxRecDepth 20000 in
theorem ggX9_restOf_X9_bits : GoodIn wsX9_restOf wsX9_bits := goodIn_r _ [21] (by decide +kernel) (by decide +kernel)
set_option maxRecDepth 20000 in
theorem gX9_restOf_X9_bits : GoodIn wsX9_restOf (va_wsS RX9 138 yX9_bits wsX9_bits) := goodIn_app (goodIn_of _ (by decide +kernel)) ggX9_restOf_X9_bits
theorem dX9_restOf_0 : decode cX9_restOf 0 = .ok (.aload_n 0, 1) := by decide +kernel
theorem dX9_restOf_1 : decode cX9_restOf 1 = .ok (.getfield 7, 3) := by decide +kernel
theorem dX9_restOf_4 : decode cX9_restOf 4 = .ok (.iconst 1, 1) := by decide +kernel
theorem dX9_restOf_5 : decode cX9_restOf 5 = .ok (.isub, 1) := by decide +kernel
theorem dX9_restOf_6 : decode cX9_restOf 6 = .ok (.istore_n 2, 1) := by decide +kernel
theorem dX9_restOf_7 : decode cX9_restOf 7 = .ok (.aload_n 0, 1) := by decide +kernel
theorem dX9_restOf_8 : decode cX9_restOf 8 = .ok (.iload_n 1, 1) := by decide +kernel
theorem dX9_restOf_9 : decode cX9_restOf 9 = .ok (.invokevirtual 135, 3) := by decide +kernel
theorem dX9_restOf_12 : decode cX9_restOf 12 = .ok (.aload_n 0, 1) := by decide +kernel
theorem dX9_restOf_13 : decode cX9_restOf 13 = .ok (.getfield 36, 3) := by decide +kernel
theorem dX9_restOf_16 : decode cX9_restOf 16 = .ok (.iconst 0, 1) := by decide +kernel
theorem dX9_restOf_17 : decode cX9_restOf 17 = .ok (.lconst 1, 1) := by decide +kernel
theorem dX9_restOf_18 : decode cX9_restOf 18 = .ok (.lastore, 1) := by decide +kernel
theorem dX9_restOf_19 : decode cX9_restOf 19 = .ok (.iconst 1, 1) := by decide +kernel
theorem dX9_restOf_20 : decode cX9_restOf 20 = .ok (.istore_n 3, 1) := by decide +kernel
theorem dX9_restOf_21 : decode cX9_restOf 21 = .ok (.iload_n 3, 1) := by decide +kernel
theorem dX9_restOf_22 : decode cX9_restOf 22 = .ok (.iconst 1, 1) := by decide +kernel
theorem dX9_restOf_23 : decode cX9_restOf 23 = .ok (.iload_n 2, 1) := by decide +kernel
theorem dX9_restOf_24 : decode cX9_restOf 24 = .ok (.ishl, 1) := by decide +kernel
theorem dX9_restOf_25 : decode cX9_restOf 25 = .ok (.if_icmp .ge 108, 3) := by decide +kernel
theorem dX9_restOf_28 : decode cX9_restOf 28 = .ok (.iload_n 3, 1) := by decide +kernel
theorem dX9_restOf_29 : decode cX9_restOf 29 = .ok (.invokestatic 138, 3) := by decide +kernel
theorem dX9_restOf_32 : decode cX9_restOf 32 = .ok (.iconst 1, 1) := by decide +kernel
theorem dX9_restOf_33 : decode cX9_restOf 33 = .ok (.isub, 1) := by decide +kernel
theorem dX9_restOf_34 : decode cX9_restOf 34 = .ok (.istore 4, 2) := by decide +kernel
theorem dX9_restOf_36 : decode cX9_restOf 36 = .ok (.aload_n 0, 1) := by decide +kernel
theorem dX9_restOf_37 : decode cX9_restOf 37 = .ok (.getfield 36, 3) := by decide +kernel
theorem dX9_restOf_40 : decode cX9_restOf 40 = .ok (.iload_n 3, 1) := by decide +kernel
theorem dX9_restOf_41 : decode cX9_restOf 41 = .ok (.lconst 0, 1) := by decide +kernel
theorem dX9_restOf_42 : decode cX9_restOf 42 = .ok (.lastore, 1) := by decide +kernel
theorem dX9_restOf_43 : decode cX9_restOf 43 = .ok (.iconst 0, 1) := by decide +kernel
theorem dX9_restOf_44 : decode cX9_restOf 44 = .ok (.istore 5, 2) := by decide +kernel
theorem dX9_restOf_46 : decode cX9_restOf 46 = .ok (.iload 5, 2) := by decide +kernel
theorem dX9_restOf_48 : decode cX9_restOf 48 = .ok (.iload_n 2, 1) := by decide +kernel
theorem dX9_restOf_49 : decode cX9_restOf 49 = .ok (.if_icmp .ge 78, 3) := by decide +kernel
theorem dX9_restOf_52 : decode cX9_restOf 52 = .ok (.iload_n 3, 1) := by decide +kernel
theorem dX9_restOf_53 : decode cX9_restOf 53 = .ok (.iload 5, 2) := by decide +kernel
theorem dX9_restOf_55 : decode cX9_restOf 55 = .ok (.ishr, 1) := by decide +kernel
theorem dX9_restOf_56 : decode cX9_restOf 56 = .ok (.iconst 1, 1) := by decide +kernel
theorem dX9_restOf_57 : decode cX9_restOf 57 = .ok (.iand, 1) := by decide +kernel
theorem dX9_restOf_58 : decode cX9_restOf 58 = .ok (.iconst 1, 1) := by decide +kernel
theorem dX9_restOf_59 : decode cX9_restOf 59 = .ok (.if_icmp .ne 62, 3) := by decide +kernel
theorem dX9_restOf_62 : decode cX9_restOf 62 = .ok (.aload_n 0, 1) := by decide +kernel
theorem dX9_restOf_63 : decode cX9_restOf 63 = .ok (.getfield 39, 3) := by decide +kernel
theorem dX9_restOf_66 : decode cX9_restOf 66 = .ok (.iconst 5, 1) := by decide +kernel
theorem dX9_restOf_67 : decode cX9_restOf 67 = .ok (.iload 4, 2) := by decide +kernel
theorem dX9_restOf_69 : decode cX9_restOf 69 = .ok (.imul, 1) := by decide +kernel
theorem dX9_restOf_70 : decode cX9_restOf 70 = .ok (.iload 5, 2) := by decide +kernel
theorem dX9_restOf_72 : decode cX9_restOf 72 = .ok (.iadd, 1) := by decide +kernel
theorem dX9_restOf_73 : decode cX9_restOf 73 = .ok (.laload, 1) := by decide +kernel
theorem dX9_restOf_74 : decode cX9_restOf 74 = .ok (.aload_n 0, 1) := by decide +kernel
theorem dX9_restOf_75 : decode cX9_restOf 75 = .ok (.getfield 36, 3) := by decide +kernel
theorem dX9_restOf_78 : decode cX9_restOf 78 = .ok (.iload_n 3, 1) := by decide +kernel
theorem dX9_restOf_79 : decode cX9_restOf 79 = .ok (.iconst 1, 1) := by decide +kernel
theorem dX9_restOf_80 : decode cX9_restOf 80 = .ok (.iload 5, 2) := by decide +kernel
theorem dX9_restOf_82 : decode cX9_restOf 82 = .ok (.ishl, 1) := by decide +kernel
theorem dX9_restOf_83 : decode cX9_restOf 83 = .ok (.iconst (-1), 1) := by decide +kernel
theorem dX9_restOf_84 : decode cX9_restOf 84 = .ok (.ixor, 1) := by decide +kernel
theorem dX9_restOf_85 : decode cX9_restOf 85 = .ok (.iand, 1) := by decide +kernel
theorem dX9_restOf_86 : decode cX9_restOf 86 = .ok (.laload, 1) := by decide +kernel
theorem dX9_restOf_87 : decode cX9_restOf 87 = .ok (.lmul, 1) := by decide +kernel
theorem dX9_restOf_88 : decode cX9_restOf 88 = .ok (.lstore 6, 2) := by decide +kernel
theorem dX9_restOf_90 : decode cX9_restOf 90 = .ok (.aload_n 0, 1) := by decide +kernel
theorem dX9_restOf_91 : decode cX9_restOf 91 = .ok (.getfield 36, 3) := by decide +kernel
theorem dX9_restOf_94 : decode cX9_restOf 94 = .ok (.iload_n 3, 1) := by decide +kernel
theorem dX9_restOf_95 : decode cX9_restOf 95 = .ok (.dup2, 1) := by decide +kernel
theorem dX9_restOf_96 : decode cX9_restOf 96 = .ok (.laload, 1) := by decide +kernel
theorem dX9_restOf_97 : decode cX9_restOf 97 = .ok (.iload_n 3, 1) := by decide +kernel
theorem dX9_restOf_98 : decode cX9_restOf 98 = .ok (.iload 5, 2) := by decide +kernel
theorem dX9_restOf_100 : decode cX9_restOf 100 = .ok (.iconst 1, 1) := by decide +kernel
theorem dX9_restOf_101 : decode cX9_restOf 101 = .ok (.iadd, 1) := by decide +kernel
theorem dX9_restOf_102 : decode cX9_restOf 102 = .ok (.ishr, 1) := by decide +kernel
theorem dX9_restOf_103 : decode cX9_restOf 103 = .ok (.invokestatic 138, 3) := by decide +kernel
theorem dX9_restOf_106 : decode cX9_restOf 106 = .ok (.iconst 2, 1) := by decide +kernel
theorem dX9_restOf_107 : decode cX9_restOf 107 = .ok (.irem, 1) := by decide +kernel
theorem dX9_restOf_108 : decode cX9_restOf 108 = .ok (.ifCond .ne 8, 3) := by decide +kernel
theorem dX9_restOf_111 : decode cX9_restOf 111 = .ok (.lload 6, 2) := by decide +kernel
theorem dX9_restOf_113 : decode cX9_restOf 113 = .ok (.goto 6, 3) := by decide +kernel
theorem dX9_restOf_116 : decode cX9_restOf 116 = .ok (.lload 6, 2) := by decide +kernel
theorem dX9_restOf_118 : decode cX9_restOf 118 = .ok (.lneg, 1) := by decide +kernel
theorem dX9_restOf_119 : decode cX9_restOf 119 = .ok (.ladd, 1) := by decide +kernel
theorem dX9_restOf_120 : decode cX9_restOf 120 = .ok (.lastore, 1) := by decide +kernel
theorem dX9_restOf_121 : decode cX9_restOf 121 = .ok (.iinc 5 1, 3) := by decide +kernel
theorem dX9_restOf_124 : decode cX9_restOf 124 = .ok (.goto (-78), 3) := by decide +kernel
theorem dX9_restOf_127 : decode cX9_restOf 127 = .ok (.iinc 3 1, 3) := by decide +kernel
theorem dX9_restOf_130 : decode cX9_restOf 130 = .ok (.goto (-109), 3) := by decide +kernel
theorem dX9_restOf_133 : decode cX9_restOf 133 = .ok (.aload_n 0, 1) := by decide +kernel
theorem dX9_restOf_134 : decode cX9_restOf 134 = .ok (.getfield 36, 3) := by decide +kernel
theorem dX9_restOf_137 : decode cX9_restOf 137 = .ok (.iconst 1, 1) := by decide +kernel
theorem dX9_restOf_138 : decode cX9_restOf 138 = .ok (.iload_n 2, 1) := by decide +kernel
theorem dX9_restOf_139 : decode cX9_restOf 139 = .ok (.ishl, 1) := by decide +kernel
theorem dX9_restOf_140 : decode cX9_restOf 140 = .ok (.iconst 1, 1) := by decide +kernel
theorem dX9_restOf_141 : decode cX9_restOf 141 = .ok (.isub, 1) := by decide +kernel
theorem dX9_restOf_142 : decode cX9_restOf 142 = .ok (.laload, 1) := by decide +kernel
theorem dX9_restOf_143 : decode cX9_restOf 143 = .ok (.lreturn, 1) := by decide +kernel
set_option maxRecDepth 20000 in
theorem ggX9_wholeRest_X9_restOf : GoodIn wsX9_wholeRest wsX9_restOf := goodIn_r _ [6, 1, 7, 8, 9, 10, 11, 5, 12, 13, 14, 15, 16, 17, 18, 19, 20, 21, 22, 23, 24, 25, 26, 27, 28, 29, 30, 31, 32, 33, 34, 35, 36, 37, 38] (by decide +kernel) (by decide +kernel)
set_option maxRecDepth 20000 in
theorem gX9_wholeRest_X9_restOf : GoodIn wsX9_wholeRest (wsV RX9 141 RX9 yX9_restOf wsX9_restOf) := goodIn_app (goodIn_of _ (by decide +kernel)) ggX9_wholeRest_X9_restOf
theorem dX9_wholeRest_0 : decode cX9_wholeRest 0 = .ok (.lconst 0, 1) := by decide +kernel
theorem dX9_wholeRest_1 : decode cX9_wholeRest 1 = .ok (.lstore_n 1, 1) := by decide +kernel
theorem dX9_wholeRest_2 : decode cX9_wholeRest 2 = .ok (.iconst 0, 1) := by decide +kernel
theorem dX9_wholeRest_3 : decode cX9_wholeRest 3 = .ok (.istore_n 3, 1) := by decide +kernel
theorem dX9_wholeRest_4 : decode cX9_wholeRest 4 = .ok (.iload_n 3, 1) := by decide +kernel
theorem dX9_wholeRest_5 : decode cX9_wholeRest 5 = .ok (.aload_n 0, 1) := by decide +kernel
theorem dX9_wholeRest_6 : decode cX9_wholeRest 6 = .ok (.getfield 7, 3) := by decide +kernel
theorem dX9_wholeRest_9 : decode cX9_wholeRest 9 = .ok (.if_icmp .ge 17, 3) := by decide +kernel
theorem dX9_wholeRest_12 : decode cX9_wholeRest 12 = .ok (.lload_n 1, 1) := by decide +kernel
theorem dX9_wholeRest_13 : decode cX9_wholeRest 13 = .ok (.aload_n 0, 1) := by decide +kernel
theorem dX9_wholeRest_14 : decode cX9_wholeRest 14 = .ok (.iload_n 3, 1) := by decide +kernel
theorem dX9_wholeRest_15 : decode cX9_wholeRest 15 = .ok (.invokevirtual 141, 3) := by decide +kernel
theorem dX9_wholeRest_18 : decode cX9_wholeRest 18 = .ok (.ladd, 1) := by decide +kernel
theorem dX9_wholeRest_19 : decode cX9_wholeRest 19 = .ok (.lstore_n 1, 1) := by decide +kernel
theorem dX9_wholeRest_20 : decode cX9_wholeRest 20 = .ok (.iinc 3 1, 3) := by decide +kernel
theorem dX9_wholeRest_23 : decode cX9_wholeRest 23 = .ok (.goto (-19), 3) := by decide +kernel
theorem dX9_wholeRest_26 : decode cX9_wholeRest 26 = .ok (.lload_n 1, 1) := by decide +kernel
theorem dX9_wholeRest_27 : decode cX9_wholeRest 27 = .ok (.lreturn, 1) := by decide +kernel
set_option maxRecDepth 20000 in
theorem ggX9_rest_X9_isState : GoodIn wsX9_rest wsX9_isState := goodIn_r _ [5, 6, 7, 8, 4, 9, 42, 43, 44, 45, 46, 47, 48, 49, 50, 51, 52, 53, 54] (by decide +kernel) (by decide +kernel)
set_option maxRecDepth 20000 in
theorem gX9_rest_X9_isState : GoodIn wsX9_rest (wsV RX9 59 RX9 yX9_isState wsX9_isState) := goodIn_app (goodIn_of _ (by decide +kernel)) ggX9_rest_X9_isState
set_option maxRecDepth 20000 in
theorem ggX9_rest_X9_can : GoodIn wsX9_rest wsX9_can := goodIn_r _ [13, 14, 42, 43, 44, 45, 46, 47, 48, 49, 50, 51, 52, 53, 54] (by decide +kernel) (by decide +kernel)
set_option maxRecDepth 20000 in
theorem gX9_rest_X9_can : GoodIn wsX9_rest (wsV RX9 55 RX9 yX9_can wsX9_can) := goodIn_app (goodIn_of _ (by decide +kernel)) ggX9_rest_X9_can
set_option maxRecDepth 20000 in
theorem ggX9_rest_X9_wholeRest : GoodIn wsX9_rest wsX9_wholeRest := goodIn_r _ [18, 6, 19, 20, 21, 4, 22, 23, 24, 25, 26, 27, 28, 29, 30, 31, 32, 33, 34, 35, 36, 37, 38, 39, 40, 41, 42, 43, 44, 45, 46, 47, 48, 49, 50, 51, 52, 53, 54] (by decide +kernel) (by decide +kernel)
set_option maxRecDepth 20000 in
theorem gX9_rest_X9_wholeRest : GoodIn wsX9_rest (wsV RX9 144 RX9 yX9_wholeRest wsX9_wholeRest) := goodIn_app (goodIn_of _ (by decide +kernel)) ggX9_rest_X9_wholeRest
set_option maxRecDepth 20000 in
theorem ggX9_rest_X9_restOf : GoodIn wsX9_rest wsX9_restOf := goodIn_r _ [22, 6, 23, 24, 25, 26, 27, 4, 28, 29, 30, 31, 32, 33, 34, 35, 36, 37, 38, 39, 40, 41, 42, 43, 44, 45, 46, 47, 48, 49, 50, 51, 52, 53, 54] (by decide +kernel) (by decide +kernel)
set_option maxRecDepth 20000 in
theorem gX9_rest_X9_restOf : GoodIn wsX9_rest (wsV RX9 141 RX9 yX9_restOf wsX9_restOf) := goodIn_app (goodIn_of _ (by decide +kernel)) ggX9_rest_X9_restOf
theorem dX9_rest_0 : decode cX9_rest 0 = .ok (.aload_n 0, 1) := by decide +kernel
theorem dX9_rest_1 : decode cX9_rest 1 = .ok (.iload_n 1, 1) := by decide +kernel
theorem dX9_rest_2 : decode cX9_rest 2 = .ok (.iconst (-1), 1) := by decide +kernel
theorem dX9_rest_3 : decode cX9_rest 3 = .ok (.if_icmp .eq 11, 3) := by decide +kernel
theorem dX9_rest_6 : decode cX9_rest 6 = .ok (.aload_n 0, 1) := by decide +kernel
theorem dX9_rest_7 : decode cX9_rest 7 = .ok (.iload_n 1, 1) := by decide +kernel
theorem dX9_rest_8 : decode cX9_rest 8 = .ok (.invokevirtual 59, 3) := by decide +kernel
theorem dX9_rest_11 : decode cX9_rest 11 = .ok (.ifCond .eq 7, 3) := by decide +kernel
theorem dX9_rest_14 : decode cX9_rest 14 = .ok (.iconst 0, 1) := by decide +kernel
theorem dX9_rest_15 : decode cX9_rest 15 = .ok (.goto 4, 3) := by decide +kernel
theorem dX9_rest_18 : decode cX9_rest 18 = .ok (.iconst 1, 1) := by decide +kernel
theorem dX9_rest_19 : decode cX9_rest 19 = .ok (.invokevirtual 55, 3) := by decide +kernel
theorem dX9_rest_22 : decode cX9_rest 22 = .ok (.ifCond .eq 23, 3) := by decide +kernel
theorem dX9_rest_25 : decode cX9_rest 25 = .ok (.iload_n 1, 1) := by decide +kernel
theorem dX9_rest_26 : decode cX9_rest 26 = .ok (.iconst (-1), 1) := by decide +kernel
theorem dX9_rest_27 : decode cX9_rest 27 = .ok (.if_icmp .ne 10, 3) := by decide +kernel
theorem dX9_rest_30 : decode cX9_rest 30 = .ok (.aload_n 0, 1) := by decide +kernel
theorem dX9_rest_31 : decode cX9_rest 31 = .ok (.invokevirtual 144, 3) := by decide +kernel
theorem dX9_rest_34 : decode cX9_rest 34 = .ok (.goto 12, 3) := by decide +kernel
theorem dX9_rest_37 : decode cX9_rest 37 = .ok (.aload_n 0, 1) := by decide +kernel
theorem dX9_rest_38 : decode cX9_rest 38 = .ok (.iload_n 1, 1) := by decide +kernel
theorem dX9_rest_39 : decode cX9_rest 39 = .ok (.invokevirtual 141, 3) := by decide +kernel
theorem dX9_rest_42 : decode cX9_rest 42 = .ok (.goto 4, 3) := by decide +kernel
theorem dX9_rest_45 : decode cX9_rest 45 = .ok (.lconst 0, 1) := by decide +kernel
theorem dX9_rest_46 : decode cX9_rest 46 = .ok (.lreturn, 1) := by decide +kernel
set_option maxRecDepth 20000 in
theorem ggX9_share_X9_isState : GoodIn wsX9_share wsX9_isState := goodIn_r _ [5, 6, 7, 8, 4, 9, 42, 43, 44, 45, 46, 47, 48, 49, 50, 51, 52, 53, 54] (by decide +kernel) (by decide +kernel)
set_option maxRecDepth 20000 in
theorem gX9_share_X9_isState : GoodIn wsX9_share (wsV RX9 59 RX9 yX9_isState wsX9_isState) := goodIn_app (goodIn_of _ (by decide +kernel)) ggX9_share_X9_isState
set_option maxRecDepth 20000 in
theorem ggX9_share_X9_wholeRest : GoodIn wsX9_share wsX9_wholeRest := goodIn_r _ [13, 6, 14, 15, 16, 4, 17, 18, 19, 20, 21, 22, 23, 24, 25, 26, 27, 28, 29, 30, 31, 32, 33, 34, 35, 36, 42, 43, 44, 45, 46, 47, 48, 49, 50, 51, 52, 53, 54] (by decide +kernel) (by decide +kernel)
set_option maxRecDepth 20000 in
theorem gX9_share_X9_wholeRest : GoodIn wsX9_share (wsV RX9 144 RX9 yX9_wholeRest wsX9_wholeRest) := goodIn_app (goodIn_of _ (by decide +kernel)) ggX9_share_X9_wholeRest
set_option maxRecDepth 20000 in
theorem ggX9_share_X9_can : GoodIn wsX9_share wsX9_can := goodIn_r _ [40, 41, 42, 43, 44, 45, 46, 47, 48, 49, 50, 51, 52, 53, 54] (by decide +kernel) (by decide +kernel)
set_option maxRecDepth 20000 in
theorem gX9_share_X9_can : GoodIn wsX9_share (wsV RX9 55 RX9 yX9_can wsX9_can) := goodIn_app (goodIn_of _ (by decide +kernel)) ggX9_share_X9_can
set_option maxRecDepth 20000 in
theorem ggX9_share_X9_restOf : GoodIn wsX9_share wsX9_restOf := goodIn_r _ [17, 6, 18, 19, 20, 21, 22, 4, 23, 24, 25, 26, 27, 28, 29, 30, 31, 32, 33, 34, 35, 36, 42, 43, 44, 45, 46, 47, 48, 49, 50, 51, 52, 53, 54] (by decide +kernel) (by decide +kernel)
set_option maxRecDepth 20000 in
theorem gX9_share_X9_restOf : GoodIn wsX9_share (wsV RX9 141 RX9 yX9_restOf wsX9_restOf) := goodIn_app (goodIn_of _ (by decide +kernel)) ggX9_share_X9_restOf
theorem dX9_share_0 : decode cX9_share 0 = .ok (.aload_n 0, 1) := by decide +kernel
theorem dX9_share_1 : decode cX9_share 1 = .ok (.iload_n 1, 1) := by decide +kernel
theorem dX9_share_2 : decode cX9_share 2 = .ok (.invokevirtual 59, 3) := by decide +kernel
theorem dX9_share_5 : decode cX9_share 5 = .ok (.istore_n 2, 1) := by decide +kernel
theorem dX9_share_6 : decode cX9_share 6 = .ok (.iload_n 2, 1) := by decide +kernel
theorem dX9_share_7 : decode cX9_share 7 = .ok (.ifCond .eq 10, 3) := by decide +kernel
theorem dX9_share_10 : decode cX9_share 10 = .ok (.aload_n 0, 1) := by decide +kernel
theorem dX9_share_11 : decode cX9_share 11 = .ok (.invokevirtual 144, 3) := by decide +kernel
theorem dX9_share_14 : decode cX9_share 14 = .ok (.goto 4, 3) := by decide +kernel
theorem dX9_share_17 : decode cX9_share 17 = .ok (.lconst 0, 1) := by decide +kernel
theorem dX9_share_18 : decode cX9_share 18 = .ok (.lstore_n 3, 1) := by decide +kernel
theorem dX9_share_19 : decode cX9_share 19 = .ok (.aload_n 0, 1) := by decide +kernel
theorem dX9_share_20 : decode cX9_share 20 = .ok (.iload_n 2, 1) := by decide +kernel
theorem dX9_share_21 : decode cX9_share 21 = .ok (.ifCond .ne 7, 3) := by decide +kernel
theorem dX9_share_24 : decode cX9_share 24 = .ok (.iconst 1, 1) := by decide +kernel
theorem dX9_share_25 : decode cX9_share 25 = .ok (.goto 14, 3) := by decide +kernel
theorem dX9_share_28 : decode cX9_share 28 = .ok (.lload_n 3, 1) := by decide +kernel
theorem dX9_share_29 : decode cX9_share 29 = .ok (.lconst 0, 1) := by decide +kernel
theorem dX9_share_30 : decode cX9_share 30 = .ok (.lcmp, 1) := by decide +kernel
theorem dX9_share_31 : decode cX9_share 31 = .ok (.ifCond .ne 7, 3) := by decide +kernel
theorem dX9_share_34 : decode cX9_share 34 = .ok (.iconst 2, 1) := by decide +kernel
theorem dX9_share_35 : decode cX9_share 35 = .ok (.goto 4, 3) := by decide +kernel
theorem dX9_share_38 : decode cX9_share 38 = .ok (.iconst 0, 1) := by decide +kernel
theorem dX9_share_39 : decode cX9_share 39 = .ok (.invokevirtual 55, 3) := by decide +kernel
theorem dX9_share_42 : decode cX9_share 42 = .ok (.ifCond .eq 15, 3) := by decide +kernel
theorem dX9_share_45 : decode cX9_share 45 = .ok (.aload_n 0, 1) := by decide +kernel
theorem dX9_share_46 : decode cX9_share 46 = .ok (.iload_n 1, 1) := by decide +kernel
theorem dX9_share_47 : decode cX9_share 47 = .ok (.invokevirtual 141, 3) := by decide +kernel
theorem dX9_share_50 : decode cX9_share 50 = .ok (.l2f, 1) := by decide +kernel
theorem dX9_share_51 : decode cX9_share 51 = .ok (.lload_n 3, 1) := by decide +kernel
theorem dX9_share_52 : decode cX9_share 52 = .ok (.l2f, 1) := by decide +kernel
theorem dX9_share_53 : decode cX9_share 53 = .ok (.fdiv, 1) := by decide +kernel
theorem dX9_share_54 : decode cX9_share 54 = .ok (.goto 4, 3) := by decide +kernel
theorem dX9_share_57 : decode cX9_share 57 = .ok (.fconst 0, 1) := by decide +kernel
theorem dX9_share_58 : decode cX9_share 58 = .ok (.freturn, 1) := by decide +kernel
set_option maxRecDepth 20000 in
theorem ggX9_placeOf_X9_restOf : GoodIn wsX9_placeOf wsX9_restOf := goodIn_r _ [6, 1, 7, 8, 9, 10, 11, 5, 12, 13, 14, 15, 16, 17, 18, 19, 20, 21, 22, 23, 24, 25, 26, 27, 28, 29, 30, 31, 32, 33, 34, 35, 36, 37, 38] (by decide +kernel) (by decide +kernel)
set_option maxRecDepth 20000 in
theorem gX9_placeOf_X9_restOf : GoodIn wsX9_placeOf (wsV RX9 141 RX9 yX9_restOf wsX9_restOf) := goodIn_app (goodIn_of _ (by decide +kernel)) ggX9_placeOf_X9_restOf
theorem dX9_placeOf_0 : decode cX9_placeOf 0 = .ok (.iconst 0, 1) := by decide +kernel
theorem dX9_placeOf_1 : decode cX9_placeOf 1 = .ok (.istore_n 2, 1) := by decide +kernel
theorem dX9_placeOf_2 : decode cX9_placeOf 2 = .ok (.aload_n 0, 1) := by decide +kernel
theorem dX9_placeOf_3 : decode cX9_placeOf 3 = .ok (.iload_n 1, 1) := by decide +kernel
theorem dX9_placeOf_4 : decode cX9_placeOf 4 = .ok (.invokevirtual 141, 3) := by decide +kernel
theorem dX9_placeOf_7 : decode cX9_placeOf 7 = .ok (.lstore_n 3, 1) := by decide +kernel
theorem dX9_placeOf_8 : decode cX9_placeOf 8 = .ok (.iconst 0, 1) := by decide +kernel
theorem dX9_placeOf_9 : decode cX9_placeOf 9 = .ok (.istore 5, 2) := by decide +kernel
theorem dX9_placeOf_11 : decode cX9_placeOf 11 = .ok (.iload 5, 2) := by decide +kernel
theorem dX9_placeOf_13 : decode cX9_placeOf 13 = .ok (.aload_n 0, 1) := by decide +kernel
theorem dX9_placeOf_14 : decode cX9_placeOf 14 = .ok (.getfield 7, 3) := by decide +kernel
theorem dX9_placeOf_17 : decode cX9_placeOf 17 = .ok (.if_icmp .ge 45, 3) := by decide +kernel
theorem dX9_placeOf_20 : decode cX9_placeOf 20 = .ok (.aload_n 0, 1) := by decide +kernel
theorem dX9_placeOf_21 : decode cX9_placeOf 21 = .ok (.iload 5, 2) := by decide +kernel
theorem dX9_placeOf_23 : decode cX9_placeOf 23 = .ok (.invokevirtual 141, 3) := by decide +kernel
theorem dX9_placeOf_26 : decode cX9_placeOf 26 = .ok (.lstore 6, 2) := by decide +kernel
theorem dX9_placeOf_28 : decode cX9_placeOf 28 = .ok (.iload_n 2, 1) := by decide +kernel
theorem dX9_placeOf_29 : decode cX9_placeOf 29 = .ok (.lload 6, 2) := by decide +kernel
theorem dX9_placeOf_31 : decode cX9_placeOf 31 = .ok (.lload_n 3, 1) := by decide +kernel
theorem dX9_placeOf_32 : decode cX9_placeOf 32 = .ok (.lcmp, 1) := by decide +kernel
theorem dX9_placeOf_33 : decode cX9_placeOf 33 = .ok (.ifCond .gt 16, 3) := by decide +kernel
theorem dX9_placeOf_36 : decode cX9_placeOf 36 = .ok (.lload 6, 2) := by decide +kernel
theorem dX9_placeOf_38 : decode cX9_placeOf 38 = .ok (.lload_n 3, 1) := by decide +kernel
theorem dX9_placeOf_39 : decode cX9_placeOf 39 = .ok (.lcmp, 1) := by decide +kernel
theorem dX9_placeOf_40 : decode cX9_placeOf 40 = .ok (.ifCond .ne 13, 3) := by decide +kernel
theorem dX9_placeOf_43 : decode cX9_placeOf 43 = .ok (.iload 5, 2) := by decide +kernel
theorem dX9_placeOf_45 : decode cX9_placeOf 45 = .ok (.iload_n 1, 1) := by decide +kernel
theorem dX9_placeOf_46 : decode cX9_placeOf 46 = .ok (.if_icmp .ge 7, 3) := by decide +kernel
theorem dX9_placeOf_49 : decode cX9_placeOf 49 = .ok (.iconst 1, 1) := by decide +kernel
