set_option maxRecDepth 20000 in
theorem lin_r28 : GoodIn lw_tbl wsL_law_r28 := goodIn_p _ [891, 895, 899] (by decide +kernel) (by decide +kernel)
set_option maxRecDepth 20000 in
theorem lin_X5 : GoodIn lw_tbl wsX50 := goodIn_p _ [] (by decide +kernel) (by decide +kernel)
set_option maxRecDepth 20000 in
theorem lin_X6 : GoodIn lw_tbl wsX60 := goodIn_p _ [] (by decide +kernel) (by decide +kernel)
set_option maxRecDepth 20000 in
theorem lin_X2 : GoodIn lw_tbl wsX20 := goodIn_p _ [] (by decide +kernel) (by decide +kernel)
set_option maxRecDepth 20000 in
theorem lin_X0 : GoodIn lw_tbl wsX00 := goodIn_p _ [] (by decide +kernel) (by decide +kernel)
set_option maxRecDepth 20000 in
theorem lin_X3 : GoodIn lw_tbl wsX30 := goodIn_p _ [] (by decide +kernel) (by decide +kernel)
set_option maxRecDepth 20000 in
theorem lin_X1 : GoodIn lw_tbl wsX10 := goodIn_p _ [] (by decide +kernel) (by decide +kernel)
set_option maxRecDepth 20000 in
theorem lin_X4 : GoodIn lw_tbl wsX40 := goodIn_p _ [] (by decide +kernel) (by decide +kernel)
theorem lin_all : GoodIn lw_tbl wsL_law := (goodIn_app (goodIn_app (goodIn_app (goodIn_app (goodIn_app (goodIn_app (goodIn_app (goodIn_app (goodIn_app lin_r1 (goodIn_app lin_r2 (goodIn_app lin_r3 (goodIn_app lin_r4 (goodIn_app lin_r5 (goodIn_app lin_r6 (goodIn_app lin_r7 (goodIn_app lin_r8 (goodIn_app lin_r9 (goodIn_app lin_r10 (goodIn_app lin_r11 (goodIn_app lin_r12 (goodIn_app lin_r13 (goodIn_app lin_r14 (goodIn_app lin_r15 (goodIn_app lin_r16 (goodIn_app lin_r17 (goodIn_app lin_r18 (goodIn_app lin_r19 (goodIn_app lin_r20 (goodIn_app lin_r21 (goodIn_app lin_r22 (goodIn_app lin_r23 (goodIn_app lin_r24 (goodIn_app lin_r25 (goodIn_app lin_r26 (goodIn_app lin_r27 lin_r28))))))))))))))))))))))))))) lin_X5) lin_X6) lin_X2) lin_X0) lin_X3) lin_X1) lin_X4) (fun w h => absurd h List.not_mem_nil))
theorem wsL_law_in : ∀ w ∈ wsL_law, w ∈ lw_tbl := fun w h => (lin_all w h).1
theorem inX0 : ∀ w ∈ wsX00, w ∈ lw_tbl := fun w h => wsL_law_in w (inlX0 w h)
theorem inX1 : ∀ w ∈ wsX10, w ∈ lw_tbl := fun w h => wsL_law_in w (inlX1 w h)
theorem inX2 : ∀ w ∈ wsX20, w ∈ lw_tbl := fun w h => wsL_law_in w (inlX2 w h)
theorem inX3 : ∀ w ∈ wsX30, w ∈ lw_tbl := fun w h => wsL_law_in w (inlX3 w h)
theorem inX4 : ∀ w ∈ wsX40, w ∈ lw_tbl := fun w h => wsL_law_in w (inlX4 w h)
theorem inX5 : ∀ w ∈ wsX50, w ∈ lw_tbl := fun w h => wsL_law_in w (inlX5 w h)
theorem inX6 : ∀ w ∈ wsX60, w ∈ lw_tbl := fun w h => wsL_law_in w (inlX6 w h)
