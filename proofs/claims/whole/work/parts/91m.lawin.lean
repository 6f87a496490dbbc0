set_option maxRecDepth 20000 in
theorem lin_r10 : GoodIn lw_tbl wsL_law_r10 := goodIn_p _ [330, 336, 341, 345] (by decide +kernel) (by decide +kernel)
set_option maxRecDepth 20000 in
theorem lin_r11 : GoodIn lw_tbl wsL_law_r11 := goodIn_p _ [349, 353, 357, 361, 364, 368] (by decide +kernel) (by decide +kernel)
set_option maxRecDepth 20000 in
theorem lin_r12 : GoodIn lw_tbl wsL_law_r12 := goodIn_p _ [372, 742, 746, 750, 754, 758] (by decide +kernel) (by decide +kernel)
set_option maxRecDepth 20000 in
theorem lin_r13 : GoodIn lw_tbl wsL_law_r13 := goodIn_p _ [376, 380, 384, 387, 393] (by decide +kernel) (by decide +kernel)
set_option maxRecDepth 20000 in
theorem lin_r14 : GoodIn lw_tbl wsL_law_r14 := goodIn_p _ [398, 403, 407, 411, 415, 420] (by decide +kernel) (by decide +kernel)
set_option maxRecDepth 20000 in
theorem lin_r15 : GoodIn lw_tbl wsL_law_r15 := goodIn_p _ [424, 428, 432, 437, 441, 445] (by decide +kernel) (by decide +kernel)
set_option maxRecDepth 20000 in
theorem lin_r16 : GoodIn lw_tbl wsL_law_r16 := goodIn_p _ [449, 453, 762, 766] (by decide +kernel) (by decide +kernel)
set_option maxRecDepth 20000 in
theorem lin_r17 : GoodIn lw_tbl wsL_law_r17 := goodIn_p _ [770, 775, 779, 783, 787] (by decide +kernel) (by decide +kernel)
set_option maxRecDepth 20000 in
theorem lin_r18 : GoodIn lw_tbl wsL_law_r18 := goodIn_p _ [791, 795, 799, 803, 807] (by decide +kernel) (by decide +kernel)
