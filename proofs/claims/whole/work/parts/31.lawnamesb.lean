set_option maxRecDepth 20000 in
theorem ggL_law_X7_across : GoodIn wsL_law wsX7_across := goodIn_r _ [335, 18, 319, 320, 321, 322, 2, 323, 204, 336, 235, 236, 337, 338, 339, 14, 340, 46, 735, 736, 737, 738, 739, 740, 785, 786, 787, 788, 789, 790, 791, 792, 793, 794] (by decide +kernel) (by decide +kernel)
set_option maxRecDepth 20000 in
theorem gL_law_X7_across : GoodIn wsL_law (wsV RL 32 RX7 yX7_across wsX7_across) := goodIn_app (goodIn_of _ (by decide +kernel)) ggL_law_X7_across
set_option maxRecDepth 20000 in
theorem ggL_law_X8_across : GoodIn wsL_law wsX8_across := goodIn_r _ [344, 119, 328, 329, 330, 5, 331, 152, 345, 346, 347, 348, 136, 741, 742, 743, 744, 745, 746, 747, 748, 749, 750, 751, 752, 753, 754, 755, 756, 757, 758, 759, 760, 761, 762, 763, 764, 765, 766, 767, 768, 769, 770, 771, 772, 773, 774, 775, 776, 777, 778, 779, 780, 781, 782, 783, 784] (by decide +kernel) (by decide +kernel)
set_option maxRecDepth 20000 in
theorem gL_law_X8_across : GoodIn wsL_law (wsV RL 35 RX8 yX8_across wsX8_across) := goodIn_app (goodIn_of _ (by decide +kernel)) ggL_law_X8_across
set_option maxRecDepth 20000 in
theorem ggL_law_X7_trees : GoodIn wsL_law wsX7_trees := goodIn_r _ [352, 18, 203, 353, 22, 354, 355, 356, 21, 357, 63, 358, 62, 359, 360, 361, 362, 363, 364, 365, 366, 367, 235, 2, 236, 368, 338, 339, 14, 340, 46, 369, 370, 371, 372, 373, 374, 375, 376, 377, 378, 379, 380, 381, 382, 383, 384, 385, 386, 387, 388, 389, 390, 391, 392, 393, 394, 395, 396, 397, 398, 399, 400, 735, 736, 737, 738, 739, 740, 785, 786, 787, 788, 789, 790, 791, 792, 793, 794, 802, 803] (by decide +kernel) (by decide +kernel)
set_option maxRecDepth 20000 in
theorem gL_law_X7_trees : GoodIn wsL_law (wsV RL 36 RX7 yX7_trees wsX7_trees) := goodIn_app (goodIn_of _ (by decide +kernel)) ggL_law_X7_trees
set_option maxRecDepth 20000 in
theorem ggL_law_X8_trees : GoodIn wsL_law wsX8_trees := goodIn_r _ [404, 153, 405, 406, 407, 408, 409, 410, 411, 5, 412, 152, 138, 119, 345, 346, 347, 348, 136, 413, 414, 415, 741, 742, 743, 744, 745, 746, 747, 748, 749, 750, 751, 752, 753, 754, 755, 756, 757, 758, 759, 760, 761, 762, 763, 764, 765, 766, 767, 768, 769, 770, 771, 772, 773, 774, 775, 776, 777, 778, 779, 780, 781, 782, 783, 784] (by decide +kernel) (by decide +kernel)
set_option maxRecDepth 20000 in
theorem gL_law_X8_trees : GoodIn wsL_law (wsV RL 40 RX8 yX8_trees wsX8_trees) := goodIn_app (goodIn_of _ (by decide +kernel)) ggL_law_X8_trees
set_option maxRecDepth 20000 in
theorem ggL_law_X7_lay : GoodIn wsL_law wsX7_lay := goodIn_r _ [419, 26, 320, 321, 322, 2, 323, 18, 204, 251, 252, 253, 25, 254, 69, 255, 256, 257, 258, 73, 71, 70, 259, 260, 261, 262, 263, 420, 276, 277, 278, 74, 279, 280, 281, 282, 283, 72, 241, 242, 284, 285, 286, 287, 735, 736, 737, 738, 739, 740, 785, 786, 787, 788, 789, 790, 791, 792, 793, 794, 804, 805, 806, 807, 808, 809, 810] (by decide +kernel) (by decide +kernel)
set_option maxRecDepth 20000 in
theorem gL_law_X7_lay : GoodIn wsL_law (wsV RL 41 RX7 yX7_lay wsX7_lay) := goodIn_app (goodIn_of _ (by decide +kernel)) ggL_law_X7_lay
set_option maxRecDepth 20000 in
theorem ggL_law_X8_lay : GoodIn wsL_law wsX8_lay := goodIn_r _ [424, 120, 121, 122, 123, 119, 124, 151, 328, 329, 330, 5, 331, 152, 193, 194, 195, 196, 197, 198, 741, 742, 743, 744, 745, 746, 747, 748, 749, 750, 751, 752, 753, 754, 755, 756, 757, 758, 759, 760, 761, 762, 763, 764, 765, 766, 767, 768, 769, 770, 771, 772, 773, 774, 775, 776, 777, 778, 779, 780, 781, 782, 783, 784] (by decide +kernel) (by decide +kernel)
set_option maxRecDepth 20000 in
theorem gL_law_X8_lay : GoodIn wsL_law (wsV RL 45 RX8 yX8_lay wsX8_lay) := goodIn_app (goodIn_of _ (by decide +kernel)) ggL_law_X8_lay
set_option maxRecDepth 20000 in
theorem ggL_law_X7_grow : GoodIn wsL_law wsX7_grow := goodIn_r _ [428, 26, 429, 430, 431, 432, 433, 320, 321, 322, 2, 323, 18, 204, 434, 435, 436, 25, 437, 74, 438, 439, 440, 441, 72, 442, 338, 339, 14, 340, 46, 443, 444, 445, 446, 69, 70, 71, 447, 448, 449, 450, 451, 452, 453, 454, 455, 456, 457, 458, 459, 47, 280, 281, 282, 283, 241, 242, 284, 285, 286, 287, 73, 260, 261, 262, 263, 735, 736, 737, 738, 739, 740, 804, 805, 806, 807, 808, 809, 810, 785, 786, 787, 788, 789, 790, 791, 792, 793, 794] (by decide +kernel) (by decide +kernel)
set_option maxRecDepth 20000 in
theorem gL_law_X7_grow : GoodIn wsL_law (wsV RL 46 RX7 yX7_grow wsX7_grow) := goodIn_app (goodIn_of _ (by decide +kernel)) ggL_law_X7_grow
set_option maxRecDepth 20000 in
theorem ggL_law_X8_grow : GoodIn wsL_law wsX8_grow := goodIn_r _ [463, 120, 123, 124, 121, 122, 152, 151, 328, 329, 330, 5, 331, 464, 465, 466, 345, 346, 347, 348, 136, 467, 468, 469, 470, 471, 472, 473, 474, 475, 476, 477, 478, 479, 480, 137, 481, 482, 483, 484, 741, 742, 743, 744, 745, 746, 747, 748, 749, 750, 751, 752, 753, 754, 755, 756, 757, 758, 759, 760, 761, 762, 763, 764, 765, 766, 767, 768, 769, 770, 771, 772, 773, 774, 775, 776, 777, 778, 779, 780, 781, 782, 783, 784] (by decide +kernel) (by decide +kernel)
set_option maxRecDepth 20000 in
theorem gL_law_X8_grow : GoodIn wsL_law (wsV RL 49 RX8 yX8_grow wsX8_grow) := goodIn_app (goodIn_of _ (by decide +kernel)) ggL_law_X8_grow
set_option maxRecDepth 20000 in
theorem ggL_law_X7_paper : GoodIn wsL_law wsX7_paper := goodIn_r _ [488, 26, 429, 430, 432, 320, 321, 322, 2, 323, 18, 204, 489, 439, 440, 25, 441, 72, 735, 736, 737, 738, 739, 740, 804, 805, 806, 807, 808, 809, 810, 785, 786, 787, 788, 789, 790, 791, 792, 793, 794] (by decide +kernel) (by decide +kernel)
set_option maxRecDepth 20000 in
theorem gL_law_X7_paper : GoodIn wsL_law (wsV RL 50 RX7 yX7_paper wsX7_paper) := goodIn_app (goodIn_of _ (by decide +kernel)) ggL_law_X7_paper
set_option maxRecDepth 20000 in
theorem ggL_law_X8_paper : GoodIn wsL_law wsX8_paper := goodIn_r _ [493, 120, 121, 122, 123, 124, 328, 329, 330, 5, 331, 152, 741, 742, 743, 744, 745, 746, 747, 748, 749, 750, 751, 752, 753, 754, 755, 756, 757, 758, 759, 760, 761, 762, 763, 764, 765, 766, 767, 768, 769, 770, 771, 772, 773, 774, 775, 776, 777, 778, 779, 780, 781, 782, 783, 784] (by decide +kernel) (by decide +kernel)
set_option maxRecDepth 20000 in
theorem gL_law_X8_paper : GoodIn wsL_law (wsV RL 53 RX8 yX8_paper wsX8_paper) := goodIn_app (goodIn_of _ (by decide +kernel)) ggL_law_X8_paper
set_option maxRecDepth 20000 in
theorem ggL_law_X7_run : GoodIn wsL_law wsX7_run := goodIn_r _ [497, 18, 203, 31, 498, 499, 500, 501, 30, 502, 269, 503, 270, 271, 88, 504, 505, 506, 507, 508, 85, 273, 82, 268, 86, 509, 510, 511, 81, 512, 513, 514, 515, 516, 517, 518, 519, 92, 520, 521, 522, 523, 93, 524, 2, 525, 526, 527, 528, 529, 530, 17, 531, 532, 533, 534, 535, 536, 537, 55, 56, 538, 539, 540, 541, 542, 53, 543, 544, 54, 545, 546, 366, 547, 548, 549, 550, 551, 552, 553, 386, 554, 555, 556, 557, 558, 52, 51, 559, 560, 561, 562, 563, 564, 565, 566, 567, 568, 569, 570, 83, 84, 571, 256, 257, 25, 258, 69, 73, 71, 70, 259, 260, 261, 262, 263, 572, 573, 574, 575, 576, 577, 435, 436, 437, 74, 438, 439, 440, 441, 72, 442, 338, 339, 14, 340, 46, 578, 579, 580, 581, 582, 583, 584, 585, 586, 448, 449, 450, 451, 452, 453, 454, 455, 456, 457, 458, 459, 47, 280, 281, 282, 283, 241, 242, 284, 285, 286, 287, 735, 736, 737, 738, 739, 740, 785, 786, 787, 788, 789, 790, 791, 792, 793, 794, 811, 812, 813, 814, 815, 816, 817, 818, 819, 820, 804, 805, 806, 807, 808, 809, 810, 829, 830, 831, 832, 833, 834, 795, 796, 797, 798, 799, 800, 801] (by decide +kernel) (by decide +kernel)
set_option maxRecDepth 20000 in
theorem gL_law_X7_run : GoodIn wsL_law (wsV RL 54 RX7 yX7_run wsX7_run) := goodIn_app (goodIn_of _ (by decide +kernel)) ggL_law_X7_run
