set_option maxRecDepth 20000 in
theorem ggL_law_X6_more_r0 : GoodIn wsL_law [.code yX6_more cX6_more 4 (some .int)] := goodIn_r _ [469] (by decide +kernel) (by decide +kernel)
set_option maxRecDepth 20000 in
theorem ggL_law_X6_more_r1 : GoodIn wsL_law wsX6_more_r1 := goodIn_r _ [372, 375, 376, 374, 373, 270, 271, 272, 5, 273, 139, 274, 275, 269, 80, 115, 116, 117, 186, 187, 188, 189, 77, 165] (by decide +kernel) (by decide +kernel)
set_option maxRecDepth 20000 in
theorem ggL_law_X6_more_r2 : GoodIn wsL_law wsX6_more_r2 := goodIn_r _ [166, 167, 168, 78, 276, 277, 278, 279, 377, 378, 379, 380, 381, 382, 383, 81, 82, 85, 384, 385, 386, 387, 84, 83] (by decide +kernel) (by decide +kernel)
set_option maxRecDepth 20000 in
theorem ggL_law_X6_more_r3 : GoodIn wsL_law wsX6_more_r3 := goodIn_r _ [280, 281, 282, 283, 284, 285, 286, 287, 388, 389, 390, 391, 392, 393, 394, 395, 396, 397, 398, 399, 86, 400, 401, 402] (by decide +kernel) (by decide +kernel)
set_option maxRecDepth 20000 in
theorem ggL_law_X6_more_r4 : GoodIn wsL_law wsX6_more_r4 := goodIn_r _ [403, 404, 405, 406, 407, 408, 409, 410, 411, 412, 413, 414, 415, 87, 416, 417, 418, 419, 470, 471, 472, 473, 88, 89] (by decide +kernel) (by decide +kernel)
set_option maxRecDepth 20000 in
theorem ggL_law_X6_more_r5 : GoodIn wsL_law wsX6_more_r5 := goodIn_r _ [420, 421, 422, 423, 424, 90, 425, 91, 426, 427, 428, 429] (by decide +kernel) (by decide +kernel)
set_option maxRecDepth 20000 in
theorem ggL_law_X6_more_w : GoodIn wsL_law wsX60 := goodIn_sub inlX6 (by decide +kernel)
theorem ggL_law_X6_more : GoodIn wsL_law wsX6_more := goodIn_ca (goodIn_app ggL_law_X6_more_r0 (goodIn_app ggL_law_X6_more_r1 (goodIn_app ggL_law_X6_more_r2 (goodIn_app ggL_law_X6_more_r3 (goodIn_app ggL_law_X6_more_r4 ggL_law_X6_more_r5))))) ggL_law_X6_more_w
set_option maxRecDepth 20000 in
theorem gL_law_X6_more : GoodIn wsL_law (wsV RL 56 RX6 yX6_more wsX6_more) := goodIn_app (goodIn_of _ (by decide +kernel)) ggL_law_X6_more
