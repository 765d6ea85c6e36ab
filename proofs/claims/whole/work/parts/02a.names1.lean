set_option maxRecDepth 20000 in
theorem wsL_law__c1 : ∀ w ∈ wsL_law_0_r1, w ∈ lw_tbl := fun w h => (goodIn_p wsL_law_0_r1 [74, 77] (by decide +kernel) (by decide +kernel) w h).1
set_option maxRecDepth 20000 in
theorem wsL_law__c2 : ∀ w ∈ wsL_law_0_r2, w ∈ lw_tbl := fun w h => (goodIn_p wsL_law_0_r2 [] (by decide +kernel) (by decide +kernel) w h).1
set_option maxRecDepth 20000 in
theorem wsL_law__c3 : ∀ w ∈ wsL_law_0_r3, w ∈ lw_tbl := fun w h => (goodIn_p wsL_law_0_r3 [82, 126, 145] (by decide +kernel) (by decide +kernel) w h).1
set_option maxRecDepth 20000 in
theorem wsL_law__c4 : ∀ w ∈ wsL_law_0_r4, w ∈ lw_tbl := fun w h => (goodIn_p wsL_law_0_r4 [162, 172, 191, 207] (by decide +kernel) (by decide +kernel) w h).1
set_option maxRecDepth 20000 in
theorem wsL_law__c5 : ∀ w ∈ wsL_law_0_r5, w ∈ lw_tbl := fun w h => (goodIn_p wsL_law_0_r5 [224, 236, 239, 805] (by decide +kernel) (by decide +kernel) w h).1
set_option maxRecDepth 20000 in
theorem wsL_law__c6 : ∀ w ∈ wsL_law_0_r6, w ∈ lw_tbl := fun w h => (goodIn_p wsL_law_0_r6 [354, 357] (by decide +kernel) (by decide +kernel) w h).1
set_option maxRecDepth 20000 in
theorem wsL_law__c7 : ∀ w ∈ wsL_law_0_r7, w ∈ lw_tbl := fun w h => (goodIn_p wsL_law_0_r7 [429, 434, 854, 857, 861] (by decide +kernel) (by decide +kernel) w h).1
set_option maxRecDepth 20000 in
theorem wsL_law__c8 : ∀ w ∈ wsL_law_0_r8, w ∈ lw_tbl := fun w h => (goodIn_p wsL_law_0_r8 [850, 443, 447, 467] (by decide +kernel) (by decide +kernel) w h).1
set_option maxRecDepth 20000 in
theorem wsL_law__c9 : ∀ w ∈ wsL_law_0_r9, w ∈ lw_tbl := fun w h => (goodIn_p wsL_law_0_r9 [472, 865, 869, 873, 877] (by decide +kernel) (by decide +kernel) w h).1
set_option maxRecDepth 20000 in
theorem wsL_law__c10 : ∀ w ∈ wsL_law_0_r10, w ∈ lw_tbl := fun w h => (goodIn_p wsL_law_0_r10 [479, 483, 881, 490, 496] (by decide +kernel) (by decide +kernel) w h).1
set_option maxRecDepth 20000 in
theorem wsL_law__c11 : ∀ w ∈ wsL_law_0_r11, w ∈ lw_tbl := fun w h => (goodIn_p wsL_law_0_r11 [885, 503, 507, 891] (by decide +kernel) (by decide +kernel) w h).1
set_option maxRecDepth 20000 in
theorem wsL_law__c12 : ∀ w ∈ wsL_law_0_r12, w ∈ lw_tbl := fun w h => (goodIn_p wsL_law_0_r12 [514, 895, 899, 521, 525] (by decide +kernel) (by decide +kernel) w h).1
