set_option maxRecDepth 20000 in
theorem wsL_law__c13 : ∀ w ∈ wsL_law_0_r13, w ∈ lw_tbl := fun w h => (goodIn_p wsL_law_0_r13 [903, 906, 910, 532, 536, 540] (by decide +kernel) (by decide +kernel) w h).1
set_option maxRecDepth 20000 in
theorem wsL_law__c14 : ∀ w ∈ wsL_law_0_r14, w ∈ lw_tbl := fun w h => (goodIn_p wsL_law_0_r14 [543, 547, 914, 918, 922, 926] (by decide +kernel) (by decide +kernel) w h).1
set_option maxRecDepth 20000 in
theorem wsL_law__c15 : ∀ w ∈ wsL_law_0_r15, w ∈ lw_tbl := fun w h => (goodIn_p wsL_law_0_r15 [930, 934, 554, 557, 938] (by decide +kernel) (by decide +kernel) w h).1
set_option maxRecDepth 20000 in
theorem wsL_law__c16 : ∀ w ∈ wsL_law_0_r16, w ∈ lw_tbl := fun w h => (goodIn_p wsL_law_0_r16 [564, 569, 572, 942, 946] (by decide +kernel) (by decide +kernel) w h).1
set_option maxRecDepth 20000 in
theorem wsL_law__c17 : ∀ w ∈ wsL_law_0_r17, w ∈ lw_tbl := fun w h => (goodIn_p wsL_law_0_r17 [579, 583, 950, 954] (by decide +kernel) (by decide +kernel) w h).1
set_option maxRecDepth 20000 in
theorem wsL_law__c18 : ∀ w ∈ wsL_law_0_r18, w ∈ lw_tbl := fun w h => (goodIn_p wsL_law_0_r18 [593, 597, 602, 959, 963] (by decide +kernel) (by decide +kernel) w h).1
set_option maxRecDepth 20000 in
theorem wsL_law__c19 : ∀ w ∈ wsL_law_0_r19, w ∈ lw_tbl := fun w h => (goodIn_p wsL_law_0_r19 [609, 613, 616, 620, 624] (by decide +kernel) (by decide +kernel) w h).1
set_option maxRecDepth 20000 in
theorem wsL_law__c20 : ∀ w ∈ wsL_law_0_r20, w ∈ lw_tbl := fun w h => (goodIn_p wsL_law_0_r20 [967, 971, 975, 631, 635] (by decide +kernel) (by decide +kernel) w h).1
set_option maxRecDepth 20000 in
theorem wsL_law__c21 : ∀ w ∈ wsL_law_0_r21, w ∈ lw_tbl := fun w h => (goodIn_p wsL_law_0_r21 [639, 643, 979, 983, 650, 280] (by decide +kernel) (by decide +kernel) w h).1
set_option maxRecDepth 20000 in
theorem wsL_law__c22 : ∀ w ∈ wsL_law_0_r22, w ∈ lw_tbl := fun w h => (goodIn_p wsL_law_0_r22 [284, 987, 991, 995, 268] (by decide +kernel) (by decide +kernel) w h).1
set_option maxRecDepth 20000 in
theorem wsL_law__c23 : ∀ w ∈ wsL_law_0_r23, w ∈ lw_tbl := fun w h => (goodIn_p wsL_law_0_r23 [272, 276, 999, 1003, 658] (by decide +kernel) (by decide +kernel) w h).1
set_option maxRecDepth 20000 in
theorem wsL_law__c24 : ∀ w ∈ wsL_law_0_r24, w ∈ lw_tbl := fun w h => (goodIn_p wsL_law_0_r24 [662, 665, 668, 1007, 1010, 675] (by decide +kernel) (by decide +kernel) w h).1
