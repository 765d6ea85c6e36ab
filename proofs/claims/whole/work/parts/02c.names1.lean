set_option maxRecDepth 20000 in
theorem wsL_law__c25 : ∀ w ∈ wsL_law_0_r25, w ∈ lw_tbl := fun w h => (goodIn_p wsL_law_0_r25 [304, 308, 312, 316, 320, 323] (by decide +kernel) (by decide +kernel) w h).1
set_option maxRecDepth 20000 in
theorem wsL_law__c26 : ∀ w ∈ wsL_law_0_r26, w ∈ lw_tbl := fun w h => (goodIn_p wsL_law_0_r26 [330, 1014, 1018, 1022] (by decide +kernel) (by decide +kernel) w h).1
set_option maxRecDepth 20000 in
theorem wsL_law__c27 : ∀ w ∈ wsL_law_0_r27, w ∈ lw_tbl := fun w h => (goodIn_p wsL_law_0_r27 [1026, 1029, 685, 1033] (by decide +kernel) (by decide +kernel) w h).1
set_option maxRecDepth 20000 in
theorem wsL_law__c28 : ∀ w ∈ wsL_law_0_r28, w ∈ lw_tbl := fun w h => (goodIn_p wsL_law_0_r28 [708, 714, 1037, 1041, 721] (by decide +kernel) (by decide +kernel) w h).1
set_option maxRecDepth 20000 in
theorem wsL_law__c29 : ∀ w ∈ wsL_law_0_r29, w ∈ lw_tbl := fun w h => (goodIn_p wsL_law_0_r29 [726, 729, 734, 1045, 1048, 1052] (by decide +kernel) (by decide +kernel) w h).1
set_option maxRecDepth 20000 in
theorem wsL_law__c30 : ∀ w ∈ wsL_law_0_r30, w ∈ lw_tbl := fun w h => (goodIn_p wsL_law_0_r30 [741, 745, 749, 753] (by decide +kernel) (by decide +kernel) w h).1
set_option maxRecDepth 20000 in
theorem wsL_law__c31 : ∀ w ∈ wsL_law_0_r31, w ∈ lw_tbl := fun w h => (goodIn_p wsL_law_0_r31 [1057, 1061, 763, 292] (by decide +kernel) (by decide +kernel) w h).1
set_option maxRecDepth 20000 in
theorem wsL_law__c32 : ∀ w ∈ wsL_law_0_r32, w ∈ lw_tbl := fun w h => (goodIn_p wsL_law_0_r32 [1065, 1069, 288, 1073, 770] (by decide +kernel) (by decide +kernel) w h).1
set_option maxRecDepth 20000 in
theorem wsL_law__c33 : ∀ w ∈ wsL_law_0_r33, w ∈ lw_tbl := fun w h => (goodIn_p wsL_law_0_r33 [774, 778, 782, 787, 1077, 1081] (by decide +kernel) (by decide +kernel) w h).1
set_option maxRecDepth 20000 in
theorem wsL_law__c34 : ∀ w ∈ wsL_law_0_r34, w ∈ lw_tbl := fun w h => (goodIn_p wsL_law_0_r34 [796, 800, 1085, 296, 300] (by decide +kernel) (by decide +kernel) w h).1
set_option maxRecDepth 20000 in
theorem wsL_law__c35 : ∀ w ∈ wsL_law_0_r35, w ∈ lw_tbl := fun w h => (goodIn_p wsL_law_0_r35 [1089, 334, 338, 342, 346] (by decide +kernel) (by decide +kernel) w h).1
set_option maxRecDepth 20000 in
theorem wsL_law__c36 : ∀ w ∈ wsL_law_0_r36, w ∈ lw_tbl := fun w h => (goodIn_p wsL_law_0_r36 [1093, 1097] (by decide +kernel) (by decide +kernel) w h).1
theorem wsL_law__wX80 : ∀ w ∈ wsX80, w ∈ lw_tbl := by decide +kernel
theorem wsL_law__wX90 : ∀ w ∈ wsX90, w ∈ lw_tbl := by decide +kernel
theorem wsL_law__wX00 : ∀ w ∈ wsX00, w ∈ lw_tbl := by decide +kernel
theorem wsL_law__wX50 : ∀ w ∈ wsX50, w ∈ lw_tbl := by decide +kernel
theorem wsL_law__wX20 : ∀ w ∈ wsX20, w ∈ lw_tbl := by decide +kernel
theorem wsL_law__wX10 : ∀ w ∈ wsX10, w ∈ lw_tbl := by decide +kernel
theorem wsL_law__wX70 : ∀ w ∈ wsX70, w ∈ lw_tbl := by decide +kernel
theorem wsL_law__wX30 : ∀ w ∈ wsX30, w ∈ lw_tbl := by decide +kernel
theorem wsL_law__wX40 : ∀ w ∈ wsX40, w ∈ lw_tbl := by decide +kernel
theorem wsL_law__wX60 : ∀ w ∈ wsX60, w ∈ lw_tbl := by decide +kernel
theorem wsL_law__cc : ∀ w ∈ (wsL_law_0_r1 ++ (wsL_law_0_r2 ++ (wsL_law_0_r3 ++ (wsL_law_0_r4 ++ (wsL_law_0_r5 ++ (wsL_law_0_r6 ++ (wsL_law_0_r7 ++ (wsL_law_0_r8 ++ (wsL_law_0_r9 ++ (wsL_law_0_r10 ++ (wsL_law_0_r11 ++ (wsL_law_0_r12 ++ (wsL_law_0_r13 ++ (wsL_law_0_r14 ++ (wsL_law_0_r15 ++ (wsL_law_0_r16 ++ (wsL_law_0_r17 ++ (wsL_law_0_r18 ++ (wsL_law_0_r19 ++ (wsL_law_0_r20 ++ (wsL_law_0_r21 ++ (wsL_law_0_r22 ++ (wsL_law_0_r23 ++ (wsL_law_0_r24 ++ (wsL_law_0_r25 ++ (wsL_law_0_r26 ++ (wsL_law_0_r27 ++ (wsL_law_0_r28 ++ (wsL_law_0_r29 ++ (wsL_law_0_r30 ++ (wsL_law_0_r31 ++ (wsL_law_0_r32 ++ (wsL_law_0_r33 ++ (wsL_law_0_r34 ++ (wsL_law_0_r35 ++ wsL_law_0_r36))))))))))))))))))))))))))))))))))), w ∈ lw_tbl := fun w h => (List.mem_append.mp h).elim (fun h => wsL_law__c1 w h) (fun h => (List.mem_append.mp h).elim (fun h => wsL_law__c2 w h) (fun h => (List.mem_append.mp h).elim (fun h => wsL_law__c3 w h) (fun h => (List.mem_append.mp h).elim (fun h => wsL_law__c4 w h) (fun h => (List.mem_append.mp h).elim (fun h => wsL_law__c5 w h) (fun h => (List.mem_append.mp h).elim (fun h => wsL_law__c6 w h) (fun h => (List.mem_append.mp h).elim (fun h => wsL_law__c7 w h) (fun h => (List.mem_append.mp h).elim (fun h => wsL_law__c8 w h) (fun h => (List.mem_append.mp h).elim (fun h => wsL_law__c9 w h) (fun h => (List.mem_append.mp h).elim (fun h => wsL_law__c10 w h) (fun h => (List.mem_append.mp h).elim (fun h => wsL_law__c11 w h) (fun h => (List.mem_append.mp h).elim (fun h => wsL_law__c12 w h) (fun h => (List.mem_append.mp h).elim (fun h => wsL_law__c13 w h) (fun h => (List.mem_append.mp h).elim (fun h => wsL_law__c14 w h) (fun h => (List.mem_append.mp h).elim (fun h => wsL_law__c15 w h) (fun h => (List.mem_append.mp h).elim (fun h => wsL_law__c16 w h) (fun h => (List.mem_append.mp h).elim (fun h => wsL_law__c17 w h) (fun h => (List.mem_append.mp h).elim (fun h => wsL_law__c18 w h) (fun h => (List.mem_append.mp h).elim (fun h => wsL_law__c19 w h) (fun h => (List.mem_append.mp h).elim (fun h => wsL_law__c20 w h) (fun h => (List.mem_append.mp h).elim (fun h => wsL_law__c21 w h) (fun h => (List.mem_append.mp h).elim (fun h => wsL_law__c22 w h) (fun h => (List.mem_append.mp h).elim (fun h => wsL_law__c23 w h) (fun h => (List.mem_append.mp h).elim (fun h => wsL_law__c24 w h) (fun h => (List.mem_append.mp h).elim (fun h => wsL_law__c25 w h) (fun h => (List.mem_append.mp h).elim (fun h => wsL_law__c26 w h) (fun h => (List.mem_append.mp h).elim (fun h => wsL_law__c27 w h) (fun h => (List.mem_append.mp h).elim (fun h => wsL_law__c28 w h) (fun h => (List.mem_append.mp h).elim (fun h => wsL_law__c29 w h) (fun h => (List.mem_append.mp h).elim (fun h => wsL_law__c30 w h) (fun h => (List.mem_append.mp h).elim (fun h => wsL_law__c31 w h) (fun h => (List.mem_append.mp h).elim (fun h => wsL_law__c32 w h) (fun h => (List.mem_append.mp h).elim (fun h => wsL_law__c33 w h) (fun h => (List.mem_append.mp h).elim (fun h => wsL_law__c34 w h) (fun h => (List.mem_append.mp h).elim (fun h => wsL_law__c35 w h) (fun h => wsL_law__c36 w h)))))))))))))))))))))))))))))))))))
theorem wsL_law__in0 : ∀ w ∈ wsL_law_0, w ∈ lw_tbl := fun w h => (List.mem_append.mp h).elim (fun h => (List.mem_append.mp h).elim (fun h => (List.mem_append.mp h).elim (fun h => (List.mem_append.mp h).elim (fun h => (List.mem_append.mp h).elim (fun h => (List.mem_append.mp h).elim (fun h => (List.mem_append.mp h).elim (fun h => (List.mem_append.mp h).elim (fun h => (List.mem_append.mp h).elim (fun h => (List.mem_append.mp h).elim (fun h => (List.mem_append.mp h).elim (fun h => wsL_law__cc w h) (fun h => wsL_law__wX80 w h)) (fun h => wsL_law__wX90 w h)) (fun h => wsL_law__wX00 w h)) (fun h => wsL_law__wX50 w h)) (fun h => wsL_law__wX20 w h)) (fun h => wsL_law__wX10 w h)) (fun h => wsL_law__wX70 w h)) (fun h => wsL_law__wX30 w h)) (fun h => wsL_law__wX40 w h)) (fun h => wsL_law__wX60 w h)) (fun h => absurd h List.not_mem_nil)
theorem wsL_law__x0 : ∀ w ∈ (vx_atS RX8 212 "java/lang/IllegalArgumentException" ["java/lang/RuntimeException", "java/lang/Exception"]).filter goodWord, w ∈ lw_tbl := by decide +kernel
theorem wsL_law__x1 : ∀ w ∈ (vx_atS RX8 167 "java/lang/IndexOutOfBoundsException" ["java/lang/RuntimeException", "java/lang/Exception"]).filter goodWord, w ∈ lw_tbl := by decide +kernel
theorem wsL_law__x2 : ∀ w ∈ (vx_atS RX8 160 "java/lang/IllegalStateException" ["java/lang/RuntimeException", "java/lang/Exception"]).filter goodWord, w ∈ lw_tbl := by decide +kernel
theorem wsL_law__in : ∀ w ∈ wsL_law_, w ∈ lw_tbl := fun w h => (List.mem_append.mp h).elim (fun h => (List.mem_append.mp h).elim (fun h => (List.mem_append.mp h).elim (fun h => wsL_law__in0 w h) (fun h => wsL_law__x0 w h)) (fun h => wsL_law__x1 w h)) (fun h => wsL_law__x2 w h)
theorem inlX0 : ∀ w ∈ wsX00, w ∈ wsL_law_ := fun _ h => List.mem_append_left _ (List.mem_append_left _ (List.mem_append_left _ (List.mem_append_left _ (List.mem_append_left _ (List.mem_append_left _ (List.mem_append_left _ (List.mem_append_left _ (List.mem_append_left _ (List.mem_append_left _ (List.mem_append_left _ (List.mem_append_right _ h)))))))))))
theorem inX0 : ∀ w ∈ wsX00, w ∈ lw_tbl := fun w h => wsL_law__in w (inlX0 w h)
theorem inlX1 : ∀ w ∈ wsX10, w ∈ wsL_law_ := fun _ h => List.mem_append_left _ (List.mem_append_left _ (List.mem_append_left _ (List.mem_append_left _ (List.mem_append_left _ (List.mem_append_left _ (List.mem_append_left _ (List.mem_append_left _ (List.mem_append_right _ h))))))))
theorem inX1 : ∀ w ∈ wsX10, w ∈ lw_tbl := fun w h => wsL_law__in w (inlX1 w h)
theorem inlX2 : ∀ w ∈ wsX20, w ∈ wsL_law_ := fun _ h => List.mem_append_left _ (List.mem_append_left _ (List.mem_append_left _ (List.mem_append_left _ (List.mem_append_left _ (List.mem_append_left _ (List.mem_append_left _ (List.mem_append_left _ (List.mem_append_left _ (List.mem_append_right _ h)))))))))
theorem inX2 : ∀ w ∈ wsX20, w ∈ lw_tbl := fun w h => wsL_law__in w (inlX2 w h)
theorem inlX3 : ∀ w ∈ wsX30, w ∈ wsL_law_ := fun _ h => List.mem_append_left _ (List.mem_append_left _ (List.mem_append_left _ (List.mem_append_left _ (List.mem_append_left _ (List.mem_append_left _ (List.mem_append_right _ h))))))
theorem inX3 : ∀ w ∈ wsX30, w ∈ lw_tbl := fun w h => wsL_law__in w (inlX3 w h)
theorem inlX4 : ∀ w ∈ wsX40, w ∈ wsL_law_ := fun _ h => List.mem_append_left _ (List.mem_append_left _ (List.mem_append_left _ (List.mem_append_left _ (List.mem_append_left _ (List.mem_append_right _ h)))))
theorem inX4 : ∀ w ∈ wsX40, w ∈ lw_tbl := fun w h => wsL_law__in w (inlX4 w h)
theorem inlX5 : ∀ w ∈ wsX50, w ∈ wsL_law_ := fun _ h => List.mem_append_left _ (List.mem_append_left _ (List.mem_append_left _ (List.mem_append_left _ (List.mem_append_left _ (List.mem_append_left _ (List.mem_append_left _ (List.mem_append_left _ (List.mem_append_left _ (List.mem_append_left _ (List.mem_append_right _ h))))))))))
theorem inX5 : ∀ w ∈ wsX50, w ∈ lw_tbl := fun w h => wsL_law__in w (inlX5 w h)
theorem inlX6 : ∀ w ∈ wsX60, w ∈ wsL_law_ := fun _ h => List.mem_append_left _ (List.mem_append_left _ (List.mem_append_left _ (List.mem_append_left _ (List.mem_append_right _ h))))
theorem inX6 : ∀ w ∈ wsX60, w ∈ lw_tbl := fun w h => wsL_law__in w (inlX6 w h)
theorem inlX7 : ∀ w ∈ wsX70, w ∈ wsL_law_ := fun _ h => List.mem_append_left _ (List.mem_append_left _ (List.mem_append_left _ (List.mem_append_left _ (List.mem_append_left _ (List.mem_append_left _ (List.mem_append_left _ (List.mem_append_right _ h)))))))
theorem inX7 : ∀ w ∈ wsX70, w ∈ lw_tbl := fun w h => wsL_law__in w (inlX7 w h)
theorem inlX8 : ∀ w ∈ wsX80, w ∈ wsL_law_ := fun _ h => List.mem_append_left _ (List.mem_append_left _ (List.mem_append_left _ (List.mem_append_left _ (List.mem_append_left _ (List.mem_append_left _ (List.mem_append_left _ (List.mem_append_left _ (List.mem_append_left _ (List.mem_append_left _ (List.mem_append_left _ (List.mem_append_left _ (List.mem_append_left _ (List.mem_append_right _ h)))))))))))))
theorem inX8 : ∀ w ∈ wsX80, w ∈ lw_tbl := fun w h => wsL_law__in w (inlX8 w h)
theorem inlX9 : ∀ w ∈ wsX90, w ∈ wsL_law_ := fun _ h => List.mem_append_left _ (List.mem_append_left _ (List.mem_append_left _ (List.mem_append_left _ (List.mem_append_left _ (List.mem_append_left _ (List.mem_append_left _ (List.mem_append_left _ (List.mem_append_left _ (List.mem_append_left _ (List.mem_append_left _ (List.mem_append_left _ (List.mem_append_right _ h))))))))))))
theorem inX9 : ∀ w ∈ wsX90, w ∈ lw_tbl := fun w h => wsL_law__in w (inlX9 w h)
theorem inJx145de : ∀ w ∈ wsJx145de0, w ∈ lw_tbl := by decide +kernel
theorem inJ6 : ∀ w ∈ wsJ60, w ∈ lw_tbl := by decide +kernel
theorem inJ9 : ∀ w ∈ wsJ90, w ∈ lw_tbl := by decide +kernel
theorem inJ0 : ∀ w ∈ wsJ00, w ∈ lw_tbl := by decide +kernel
theorem inJ10 : ∀ w ∈ wsJ100, w ∈ lw_tbl := by decide +kernel
theorem inJ7 : ∀ w ∈ wsJ70, w ∈ lw_tbl := by decide +kernel

