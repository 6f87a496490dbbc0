set_option maxRecDepth 20000 in
theorem ggL_law_X5_lay : GoodIn wsL_law wsX5_lay := goodIn_r _ [617, 35, 18, 618, 619, 620, 34, 621, 330, 622, 331, 623, 624, 315, 625, 70, 71, 446, 447, 448, 449, 69, 348, 349, 350, 351, 131, 2, 132, 104, 105, 626, 569, 570, 571, 537, 572, 534, 535, 536, 454, 455, 456, 457, 68, 538, 539, 540, 541, 542, 543, 544, 545, 546, 547, 627, 628, 629, 630, 438, 439, 440, 441, 442, 443, 444, 445, 631, 497, 498, 499, 632, 633, 634, 635, 636, 637, 638, 639, 640, 123, 124, 17, 125, 126, 42, 127, 128, 129, 130, 41, 641, 658, 659, 660, 661, 662, 663, 664, 665, 666, 726, 727, 728, 729, 730, 731, 732, 701, 702, 703] (by decide +kernel) (by decide +kernel)
set_option maxRecDepth 20000 in
theorem gL_law_X5_lay : GoodIn wsL_law (wsV RL 90 RX5 yX5_lay wsX5_lay) := goodIn_app (goodIn_of _ (by decide +kernel)) ggL_law_X5_lay
set_option maxRecDepth 20000 in
theorem ggL_law_X6_lay : GoodIn wsL_law wsX6_lay := goodIn_r _ [645, 372, 376, 374, 139, 646, 647, 648, 5, 649, 88, 524, 525, 526, 527, 115, 116, 117, 505, 506, 507, 508, 650, 651, 652, 653, 78, 89, 77, 581, 582, 583, 584, 555, 556, 557, 558, 553, 559, 560, 561, 562, 563, 654, 655, 656, 657, 667, 668, 669, 670, 671, 672, 673, 674, 675, 676, 677, 678, 679, 680, 681, 682, 683, 684, 685, 686, 687, 688, 689, 690, 691, 692, 693, 694, 695, 696, 697, 698, 699, 700] (by decide +kernel) (by decide +kernel)
set_option maxRecDepth 20000 in
theorem gL_law_X6_lay : GoodIn wsL_law (wsV RL 93 RX6 yX6_lay wsX6_lay) := goodIn_app (goodIn_of _ (by decide +kernel)) ggL_law_X6_lay
