set_option maxRecDepth 20000 in
theorem lin_r19 : GoodIn lw_tbl wsL_law_r19 := goodIn_p _ [457, 461, 465, 469, 473, 477] (by decide +kernel) (by decide +kernel)
set_option maxRecDepth 20000 in
theorem lin_r20 : GoodIn lw_tbl wsL_law_r20 := goodIn_p _ [481, 485, 489, 811, 815, 493] (by decide +kernel) (by decide +kernel)
set_option maxRecDepth 20000 in
theorem lin_r21 : GoodIn lw_tbl wsL_law_r21 := goodIn_p _ [819, 497, 824, 501, 506, 828] (by decide +kernel) (by decide +kernel)
set_option maxRecDepth 20000 in
theorem lin_r22 : GoodIn lw_tbl wsL_law_r22 := goodIn_p _ [833, 510, 514, 837, 841] (by decide +kernel) (by decide +kernel)
set_option maxRecDepth 20000 in
theorem lin_r23 : GoodIn lw_tbl wsL_law_r23 := goodIn_p _ [520, 525, 529, 532, 537, 846] (by decide +kernel) (by decide +kernel)
set_option maxRecDepth 20000 in
theorem lin_r24 : GoodIn lw_tbl wsL_law_r24 := goodIn_p _ [851, 854, 541, 545] (by decide +kernel) (by decide +kernel)
set_option maxRecDepth 20000 in
theorem lin_r25 : GoodIn lw_tbl wsL_law_r25 := goodIn_p _ [861, 865, 869, 550, 556, 873] (by decide +kernel) (by decide +kernel)
set_option maxRecDepth 20000 in
theorem lin_r26 : GoodIn lw_tbl wsL_law_r26 := goodIn_p _ [878, 560, 883, 565, 569] (by decide +kernel) (by decide +kernel)
set_option maxRecDepth 20000 in
theorem lin_r27 : GoodIn lw_tbl wsL_law_r27 := goodIn_p _ [572, 577, 582, 586, 887] (by decide +kernel) (by decide +kernel)
