theorem inlX0 : ∀ w ∈ wsX00, w ∈ wsL_law := fun _ h => List.mem_append_left _ (List.mem_append_left _ (List.mem_append_left _ (List.mem_append_left _ (List.mem_append_right _ h))))
theorem inlX1 : ∀ w ∈ wsX10, w ∈ wsL_law := fun _ h => List.mem_append_left _ (List.mem_append_left _ (List.mem_append_right _ h))
theorem inlX2 : ∀ w ∈ wsX20, w ∈ wsL_law := fun _ h => List.mem_append_left _ (List.mem_append_left _ (List.mem_append_left _ (List.mem_append_left _ (List.mem_append_left _ (List.mem_append_right _ h)))))
theorem inlX3 : ∀ w ∈ wsX30, w ∈ wsL_law := fun _ h => List.mem_append_left _ (List.mem_append_left _ (List.mem_append_left _ (List.mem_append_right _ h)))
theorem inlX4 : ∀ w ∈ wsX40, w ∈ wsL_law := fun _ h => List.mem_append_left _ (List.mem_append_right _ h)
theorem inlX5 : ∀ w ∈ wsX50, w ∈ wsL_law := fun _ h => List.mem_append_left _ (List.mem_append_left _ (List.mem_append_left _ (List.mem_append_left _ (List.mem_append_left _ (List.mem_append_left _ (List.mem_append_left _ (List.mem_append_right _ h)))))))
theorem inlX6 : ∀ w ∈ wsX60, w ∈ wsL_law := fun _ h => List.mem_append_left _ (List.mem_append_left _ (List.mem_append_left _ (List.mem_append_left _ (List.mem_append_left _ (List.mem_append_left _ (List.mem_append_right _ h))))))
set_option maxRecDepth 20000 in
theorem ggL_law_X6_find_r0 : GoodIn wsL_law [.code yX6_find cX6_find 4 (some .int)] := goodIn_r _ [371] (by decide +kernel) (by decide +kernel)
set_option maxRecDepth 20000 in
theorem ggL_law_X6_find_r1 : GoodIn wsL_law wsX6_find_r1 := goodIn_r _ [372, 373, 374, 375, 376, 270, 271, 272, 5, 273, 139, 274, 275, 269, 80, 115, 116, 117, 186, 187, 188, 189, 77, 165] (by decide +kernel) (by decide +kernel)
set_option maxRecDepth 20000 in
theorem ggL_law_X6_find_r2 : GoodIn wsL_law wsX6_find_r2 := goodIn_r _ [166, 167, 168, 78, 276, 277, 278, 279, 377, 378, 379, 380, 381, 382, 383, 81, 82, 85, 384, 385, 386, 387, 84, 83] (by decide +kernel) (by decide +kernel)
set_option maxRecDepth 20000 in
theorem ggL_law_X6_find_r3 : GoodIn wsL_law wsX6_find_r3 := goodIn_r _ [280, 281, 282, 283, 284, 285, 286, 287, 388, 389, 390, 391, 392, 393, 394, 395, 396, 397, 398, 399, 86, 400, 401, 402] (by decide +kernel) (by decide +kernel)
set_option maxRecDepth 20000 in
theorem ggL_law_X6_find_r4 : GoodIn wsL_law wsX6_find_r4 := goodIn_r _ [403, 404, 405, 406, 407, 408, 409, 410, 411, 412, 413, 414, 415, 87, 416, 417, 418, 419, 420, 421, 422, 423, 424, 90] (by decide +kernel) (by decide +kernel)
set_option maxRecDepth 20000 in
theorem ggL_law_X6_find_r5 : GoodIn wsL_law wsX6_find_r5 := goodIn_r _ [425, 91, 426, 427, 428, 429, 88, 89] (by decide +kernel) (by decide +kernel)
set_option maxRecDepth 20000 in
theorem ggL_law_X6_find_w : GoodIn wsL_law wsX60 := goodIn_sub inlX6 (by decide +kernel)
theorem ggL_law_X6_find : GoodIn wsL_law wsX6_find := goodIn_ca (goodIn_app ggL_law_X6_find_r0 (goodIn_app ggL_law_X6_find_r1 (goodIn_app ggL_law_X6_find_r2 (goodIn_app ggL_law_X6_find_r3 (goodIn_app ggL_law_X6_find_r4 ggL_law_X6_find_r5))))) ggL_law_X6_find_w
set_option maxRecDepth 20000 in
theorem gL_law_X6_find : GoodIn wsL_law (wsV RL 52 RX6 yX6_find wsX6_find) := goodIn_app (goodIn_of _ (by decide +kernel)) ggL_law_X6_find
