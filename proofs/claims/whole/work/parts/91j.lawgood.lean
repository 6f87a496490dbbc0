set_option maxRecDepth 20000 in
theorem ggL_law_X5_sum : GoodIn wsL_law wsX5_sum := goodIn_r _ [588, 35, 589, 590, 513, 514, 515, 34, 516, 330, 331, 568, 569, 570, 571, 537, 446, 447, 448, 449, 69, 348, 349, 350, 351, 131, 2, 132, 572, 534, 535, 536, 454, 455, 456, 457, 68, 538, 539, 540, 541, 542, 543, 544, 545, 546, 547, 591, 592, 593, 594, 658, 659, 660, 661, 662, 663, 664, 665, 666, 726, 727, 728, 729, 730, 731, 732] (by decide +kernel) (by decide +kernel)
set_option maxRecDepth 20000 in
theorem gL_law_X5_sum : GoodIn wsL_law (wsV RL 81 RX5 yX5_sum wsX5_sum) := goodIn_app (goodIn_of _ (by decide +kernel)) ggL_law_X5_sum
set_option maxRecDepth 20000 in
theorem ggL_law_X6_sum : GoodIn wsL_law wsX6_sum := goodIn_r _ [598, 599, 600, 577, 578, 579, 5, 580, 372, 376, 115, 116, 117, 581, 582, 583, 584, 374, 88, 555, 556, 557, 558, 89, 553, 559, 560, 561, 562, 563, 601, 602, 603, 604, 667, 668, 669, 670, 671, 672, 673, 674, 675, 676, 677, 678, 679, 680, 681, 682, 683, 684, 685, 686, 687, 688, 689, 690, 691, 692, 693, 694, 695, 696, 697, 698, 699, 700] (by decide +kernel) (by decide +kernel)
set_option maxRecDepth 20000 in
theorem gL_law_X6_sum : GoodIn wsL_law (wsV RL 85 RX6 yX6_sum wsX6_sum) := goodIn_app (goodIn_of _ (by decide +kernel)) ggL_law_X6_sum
set_option maxRecDepth 20000 in
theorem ggL_law_X5_agrees : GoodIn wsL_law wsX5_agrees := goodIn_r _ [608, 35, 609, 513, 514, 515, 34, 516, 330, 331, 533, 534, 535, 536, 537, 454, 455, 456, 457, 69, 68, 348, 349, 350, 351, 131, 2, 132, 538, 539, 540, 541, 542, 543, 544, 545, 546, 547, 446, 447, 448, 449, 568, 569, 570, 571, 572, 591, 592, 593, 594, 658, 659, 660, 661, 662, 663, 664, 665, 666, 726, 727, 728, 729, 730, 731, 732] (by decide +kernel) (by decide +kernel)
set_option maxRecDepth 20000 in
theorem gL_law_X5_agrees : GoodIn wsL_law (wsV RL 86 RX5 yX5_agrees wsX5_agrees) := goodIn_app (goodIn_of _ (by decide +kernel)) ggL_law_X5_agrees
set_option maxRecDepth 20000 in
theorem ggL_law_X6_agrees : GoodIn wsL_law wsX6_agrees := goodIn_r _ [613, 553, 577, 578, 579, 5, 580, 372, 376, 115, 116, 117, 581, 582, 583, 584, 374, 88, 555, 556, 557, 558, 89, 559, 560, 561, 562, 563, 601, 602, 603, 604, 667, 668, 669, 670, 671, 672, 673, 674, 675, 676, 677, 678, 679, 680, 681, 682, 683, 684, 685, 686, 687, 688, 689, 690, 691, 692, 693, 694, 695, 696, 697, 698, 699, 700] (by decide +kernel) (by decide +kernel)
set_option maxRecDepth 20000 in
theorem gL_law_X6_agrees : GoodIn wsL_law (wsV RL 89 RX6 yX6_agrees wsX6_agrees) := goodIn_app (goodIn_of _ (by decide +kernel)) ggL_law_X6_agrees
