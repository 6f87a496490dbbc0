set_option maxRecDepth 20000 in
theorem ggL_law_X5_value : GoodIn wsL_law wsX5_value := goodIn_r _ [531, 35, 532, 513, 514, 515, 34, 516, 330, 331, 533, 534, 535, 536, 537, 454, 455, 456, 457, 69, 68, 348, 349, 350, 351, 131, 2, 132, 538, 539, 540, 541, 542, 543, 544, 545, 546, 547, 446, 447, 448, 449, 658, 659, 660, 661, 662, 663, 664, 665, 666, 726, 727, 728, 729, 730, 731, 732] (by decide +kernel) (by decide +kernel)
set_option maxRecDepth 20000 in
theorem gL_law_X5_value : GoodIn wsL_law (wsV RL 73 RX5 yX5_value wsX5_value) := goodIn_app (goodIn_of _ (by decide +kernel)) ggL_law_X5_value
set_option maxRecDepth 20000 in
theorem ggL_law_X6_value : GoodIn wsL_law wsX6_value := goodIn_r _ [551, 552, 553, 554, 524, 525, 526, 5, 527, 372, 374, 376, 115, 116, 117, 555, 556, 557, 558, 88, 89, 559, 560, 561, 562, 563, 667, 668, 669, 670, 671, 672, 673, 674, 675, 676, 677, 678, 679, 680, 681, 682, 683, 684, 685, 686, 687, 688, 689, 690, 691, 692, 693, 694, 695, 696, 697, 698, 699, 700] (by decide +kernel) (by decide +kernel)
set_option maxRecDepth 20000 in
theorem gL_law_X6_value : GoodIn wsL_law (wsV RL 76 RX6 yX6_value wsX6_value) := goodIn_app (goodIn_of _ (by decide +kernel)) ggL_law_X6_value
set_option maxRecDepth 20000 in
theorem ggL_law_X5_numbers : GoodIn wsL_law wsX5_numbers := goodIn_r _ [567, 35, 513, 514, 515, 34, 516, 330, 331, 568, 569, 570, 571, 537, 446, 447, 448, 449, 69, 348, 349, 350, 351, 131, 2, 132, 572, 534, 535, 536, 454, 455, 456, 457, 68, 538, 539, 540, 541, 542, 543, 544, 545, 546, 547, 658, 659, 660, 661, 662, 663, 664, 665, 666, 726, 727, 728, 729, 730, 731, 732] (by decide +kernel) (by decide +kernel)
set_option maxRecDepth 20000 in
theorem gL_law_X5_numbers : GoodIn wsL_law (wsV RL 77 RX5 yX5_numbers wsX5_numbers) := goodIn_app (goodIn_of _ (by decide +kernel)) ggL_law_X5_numbers
set_option maxRecDepth 20000 in
theorem ggL_law_X6_numbers : GoodIn wsL_law wsX6_numbers := goodIn_r _ [576, 577, 578, 579, 5, 580, 372, 376, 115, 116, 117, 581, 582, 583, 584, 374, 88, 555, 556, 557, 558, 89, 553, 559, 560, 561, 562, 563, 667, 668, 669, 670, 671, 672, 673, 674, 675, 676, 677, 678, 679, 680, 681, 682, 683, 684, 685, 686, 687, 688, 689, 690, 691, 692, 693, 694, 695, 696, 697, 698, 699, 700] (by decide +kernel) (by decide +kernel)
set_option maxRecDepth 20000 in
theorem gL_law_X6_numbers : GoodIn wsL_law (wsV RL 80 RX6 yX6_numbers wsX6_numbers) := goodIn_app (goodIn_of _ (by decide +kernel)) ggL_law_X6_numbers
