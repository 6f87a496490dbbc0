set_option maxRecDepth 20000 in
theorem ggL_law_X5_cost : GoodIn wsL_law wsX5_cost := goodIn_r _ [202, 18, 22, 203, 204, 205, 17, 206, 207, 153, 154, 155, 126, 208, 174, 175, 176, 177, 178, 179, 180, 42, 131, 2, 132, 181, 157, 158, 159, 41, 209, 210, 211, 21, 212, 213, 214, 215, 216, 217, 218, 219, 220, 221, 48, 47, 104, 105, 222, 223, 224, 225, 226, 227, 228, 229, 230, 231, 232, 233, 50, 49, 234, 235, 236, 237, 238, 239, 240, 241, 51, 242, 243, 244, 245, 246, 247, 248, 249, 250, 251, 252, 253, 254, 255, 256, 257, 258, 259, 260, 261, 262, 263, 264, 658, 659, 660, 661, 662, 663, 664, 665, 666, 701, 702, 703, 704, 705, 706, 707, 708, 709, 710, 711, 712, 713, 714, 715] (by decide +kernel) (by decide +kernel)
set_option maxRecDepth 20000 in
theorem gL_law_X5_cost : GoodIn wsL_law (wsV RL 44 RX5 yX5_cost wsX5_cost) := goodIn_app (goodIn_of _ (by decide +kernel)) ggL_law_X5_cost
set_option maxRecDepth 20000 in
theorem ggL_law_X6_cost : GoodIn wsL_law wsX6_cost := goodIn_r _ [268, 269, 270, 271, 272, 5, 273, 139, 274, 275, 80, 115, 116, 117, 186, 187, 188, 189, 77, 165, 166, 167, 168, 78, 276, 277, 278, 279, 280, 281, 282, 283, 284, 285, 286, 287, 667, 668, 669, 670, 671, 672, 673, 674, 675, 676, 677, 678, 679, 680, 681, 682, 683, 684, 685, 686, 687, 688, 689, 690, 691, 692, 693, 694, 695, 696, 697, 698, 699, 700] (by decide +kernel) (by decide +kernel)
set_option maxRecDepth 20000 in
theorem gL_law_X6_cost : GoodIn wsL_law (wsV RL 48 RX6 yX6_cost wsX6_cost) := goodIn_app (goodIn_of _ (by decide +kernel)) ggL_law_X6_cost
