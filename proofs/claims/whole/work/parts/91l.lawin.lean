set_option maxRecDepth 20000 in
theorem lin_r1 : GoodIn lw_tbl wsL_law_r1 := goodIn_p _ [63, 66] (by decide +kernel) (by decide +kernel)
set_option maxRecDepth 20000 in
theorem lin_r2 : GoodIn lw_tbl wsL_law_r2 := goodIn_p _ [71, 89] (by decide +kernel) (by decide +kernel)
set_option maxRecDepth 20000 in
theorem lin_r3 : GoodIn lw_tbl wsL_law_r3 := goodIn_p _ [137, 153, 192] (by decide +kernel) (by decide +kernel)
set_option maxRecDepth 20000 in
theorem lin_r4 : GoodIn lw_tbl wsL_law_r4 := goodIn_p _ [593, 250] (by decide +kernel) (by decide +kernel)
set_option maxRecDepth 20000 in
theorem lin_r5 : GoodIn lw_tbl wsL_law_r5 := goodIn_p _ [253, 256, 259, 702, 706] (by decide +kernel) (by decide +kernel)
set_option maxRecDepth 20000 in
theorem lin_r6 : GoodIn lw_tbl wsL_law_r6 := goodIn_p _ [263, 267, 272, 275, 713, 281] (by decide +kernel) (by decide +kernel)
set_option maxRecDepth 20000 in
theorem lin_r7 : GoodIn lw_tbl wsL_law_r7 := goodIn_p _ [717, 285, 289, 293, 721] (by decide +kernel) (by decide +kernel)
set_option maxRecDepth 20000 in
theorem lin_r8 : GoodIn lw_tbl wsL_law_r8 := goodIn_p _ [726, 297, 301, 305, 730, 734] (by decide +kernel) (by decide +kernel)
set_option maxRecDepth 20000 in
theorem lin_r9 : GoodIn lw_tbl wsL_law_r9 := goodIn_p _ [310, 738, 315, 319, 325] (by decide +kernel) (by decide +kernel)
