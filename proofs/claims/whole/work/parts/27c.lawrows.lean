set_option maxRecDepth 20000 in
theorem ggL_law_X8_congruence : GoodIn wsL_law wsX8_congruence := goodIn_r _ [421, 28, 15, 422, 423, 424, 27, 425, 426, 427, 428, 54, 55, 429, 430, 431, 432, 433, 434, 435, 436, 437, 438, 262, 263, 14, 264, 40, 72, 73, 74, 439, 440, 441, 442, 238, 239, 240, 69, 70, 71, 443, 444, 445, 446, 447, 448, 449, 450, 451, 452, 453, 454, 455, 774, 775, 776, 777, 778, 779, 780, 781, 782, 783, 784, 785, 807, 808, 816, 817, 818] (by decide +kernel) (by decide +kernel)
set_option maxRecDepth 20000 in
theorem gL_law_X8_congruence : GoodIn wsL_law (wsV RL 61 RX8 yX8_congruence wsX8_congruence) := goodIn_app (goodIn_of _ (by decide +kernel)) ggL_law_X8_congruence
set_option maxRecDepth 20000 in
theorem ggL_law_X9_congruence : GoodIn wsL_law wsX9_congruence := goodIn_r _ [459, 460, 87, 461, 462, 463, 5, 464, 465, 466, 467, 468, 469, 470, 471, 249, 250, 251, 252, 79, 472, 473, 474, 475, 476, 477, 478, 479, 269, 270, 271, 272, 253, 254, 255, 256, 480, 481, 482, 483, 786, 787, 788, 789, 790, 791, 792, 793, 794, 795, 796, 797, 798, 799, 800, 801, 802, 803, 804, 805, 806] (by decide +kernel) (by decide +kernel)
set_option maxRecDepth 20000 in
theorem gL_law_X9_congruence : GoodIn wsL_law (wsV RL 64 RX9 yX9_congruence wsX9_congruence) := goodIn_app (goodIn_of _ (by decide +kernel)) ggL_law_X9_congruence
set_option maxRecDepth 20000 in
theorem ggL_law_X8_principal : GoodIn wsL_law wsX8_principal := goodIn_r _ [487, 15, 28, 236, 159, 160, 14, 161, 68, 422, 423, 424, 27, 425, 426, 427, 428, 54, 55, 429, 430, 431, 432, 433, 434, 435, 436, 437, 438, 262, 263, 264, 40, 72, 73, 74, 439, 440, 441, 442, 238, 239, 240, 69, 70, 71, 488, 489, 490, 491, 451, 452, 453, 454, 455, 444, 445, 446, 774, 775, 776, 777, 778, 779, 780, 781, 782, 783, 784, 785, 807, 808, 816, 817, 818] (by decide +kernel) (by decide +kernel)
set_option maxRecDepth 20000 in
theorem gL_law_X8_principal : GoodIn wsL_law (wsV RL 65 RX8 yX8_principal wsX8_principal) := goodIn_app (goodIn_of _ (by decide +kernel)) ggL_law_X8_principal
set_option maxRecDepth 20000 in
theorem ggL_law_X9_principal : GoodIn wsL_law wsX9_principal := goodIn_r _ [495, 460, 87, 245, 246, 247, 5, 248, 249, 250, 251, 252, 79, 102, 103, 104, 461, 462, 463, 464, 465, 466, 467, 468, 469, 470, 471, 472, 473, 474, 475, 476, 477, 478, 479, 269, 270, 271, 272, 253, 254, 255, 256, 496, 497, 498, 499, 786, 787, 788, 789, 790, 791, 792, 793, 794, 795, 796, 797, 798, 799, 800, 801, 802, 803, 804, 805, 806] (by decide +kernel) (by decide +kernel)
set_option maxRecDepth 20000 in
theorem gL_law_X9_principal : GoodIn wsL_law (wsV RL 68 RX9 yX9_principal wsX9_principal) := goodIn_app (goodIn_of _ (by decide +kernel)) ggL_law_X9_principal
set_option maxRecDepth 20000 in
theorem ggL_law_X8_pair : GoodIn wsL_law wsX8_pair := goodIn_r _ [503, 28, 15, 422, 423, 424, 27, 425, 426, 427, 428, 54, 55, 429, 430, 431, 432, 433, 434, 435, 436, 437, 438, 262, 263, 14, 264, 40, 72, 73, 74, 439, 440, 441, 442, 238, 239, 240, 69, 70, 71, 443, 444, 445, 446, 504, 505, 506, 507, 508, 509, 510, 511, 451, 452, 453, 454, 455, 512, 513, 514, 515, 516, 517, 518, 519, 520, 521, 522, 523, 524, 525, 2, 526, 527, 774, 775, 776, 777, 778, 779, 780, 781, 782, 783, 784, 785, 807, 808, 816, 817, 818] (by decide +kernel) (by decide +kernel)
set_option maxRecDepth 20000 in
theorem gL_law_X8_pair : GoodIn wsL_law (wsV RL 69 RX8 yX8_pair wsX8_pair) := goodIn_app (goodIn_of _ (by decide +kernel)) ggL_law_X8_pair
set_option maxRecDepth 20000 in
theorem ggL_law_X9_pair : GoodIn wsL_law wsX9_pair := goodIn_r _ [531, 460, 87, 461, 462, 463, 5, 464, 465, 466, 467, 468, 469, 470, 471, 249, 250, 251, 252, 79, 472, 473, 474, 475, 476, 477, 478, 479, 269, 270, 271, 272, 253, 254, 255, 256, 102, 103, 104, 532, 533, 534, 535, 536, 537, 538, 539, 496, 497, 498, 499, 540, 541, 542, 543, 544, 545, 546, 547, 786, 787, 788, 789, 790, 791, 792, 793, 794, 795, 796, 797, 798, 799, 800, 801, 802, 803, 804, 805, 806] (by decide +kernel) (by decide +kernel)
set_option maxRecDepth 20000 in
theorem gL_law_X9_pair : GoodIn wsL_law (wsV RL 72 RX9 yX9_pair wsX9_pair) := goodIn_app (goodIn_of _ (by decide +kernel)) ggL_law_X9_pair
set_option maxRecDepth 20000 in
theorem ggL_law_X8_free : GoodIn wsL_law wsX8_free := goodIn_r _ [551, 32, 15, 552, 553, 554, 555, 556, 31, 557, 558, 559, 560, 561, 562, 563, 564, 565, 566, 61, 567, 568, 569, 570, 571, 572, 573, 574, 575, 576, 577, 578, 579, 580, 581, 582, 583, 584, 585, 586, 587, 588, 589, 590, 591, 592, 593, 594, 60, 595, 596, 597, 598, 599, 600, 601, 602, 603, 604, 605, 606, 607, 62, 63, 608, 609, 610, 611, 612, 238, 239, 14, 240, 40, 69, 70, 71, 613, 614, 615, 616, 617, 262, 263, 264, 72, 73, 74, 618, 619, 620, 621, 774, 775, 776, 777, 778, 779, 780, 781, 782, 783, 784, 785, 819, 820, 821, 822, 823, 824, 825, 826, 827, 828, 829, 830, 807, 808] (by decide +kernel) (by decide +kernel)
set_option maxRecDepth 20000 in
theorem gL_law_X8_free : GoodIn wsL_law (wsV RL 73 RX8 yX8_free wsX8_free) := goodIn_app (goodIn_of _ (by decide +kernel)) ggL_law_X8_free
set_option maxRecDepth 20000 in
theorem ggL_law_X9_free : GoodIn wsL_law wsX9_free := goodIn_r _ [625, 626, 627, 102, 103, 5, 104, 249, 250, 251, 252, 79, 628, 629, 630, 631, 342, 343, 344, 632, 633, 634, 635, 88, 636, 637, 638, 639, 640, 641, 642, 643, 644, 645, 646, 647, 648, 269, 270, 271, 272, 649, 650, 651, 652, 253, 254, 255, 256, 786, 787, 788, 789, 790, 791, 792, 793, 794, 795, 796, 797, 798, 799, 800, 801, 802, 803, 804, 805, 806] (by decide +kernel) (by decide +kernel)
set_option maxRecDepth 20000 in
theorem gL_law_X9_free : GoodIn wsL_law (wsV RL 76 RX9 yX9_free wsX9_free) := goodIn_app (goodIn_of _ (by decide +kernel)) ggL_law_X9_free
set_option maxRecDepth 20000 in
theorem ggL_law_X8_term : GoodIn wsL_law wsX8_term := goodIn_r _ [656, 15, 657, 32, 658, 659, 660, 661, 31, 662, 558, 561, 562, 563, 564, 565, 566, 61, 567, 568, 569, 560, 570, 571, 572, 573, 574, 575, 576, 577, 578, 579, 580, 581, 582, 583, 584, 585, 586, 587, 588, 589, 590, 591, 592, 593, 594, 60, 595, 596, 597, 598, 599, 600, 601, 602, 603, 604, 605, 606, 607, 62, 63, 608, 609, 610, 611, 612, 238, 239, 14, 240, 40, 69, 70, 71, 613, 614, 615, 616, 617, 262, 263, 264, 72, 73, 74, 618, 619, 620, 621, 663, 664, 665, 666, 524, 525, 2, 526, 774, 775, 776, 777, 778, 779, 780, 781, 782, 783, 784, 785, 807, 808, 819, 820, 821, 822, 823, 824, 825, 826, 827, 828, 829, 830] (by decide +kernel) (by decide +kernel)
set_option maxRecDepth 20000 in
theorem gL_law_X8_term : GoodIn wsL_law (wsV RL 77 RX8 yX8_term wsX8_term) := goodIn_app (goodIn_of _ (by decide +kernel)) ggL_law_X8_term
set_option maxRecDepth 20000 in
theorem ggL_law_X9_term : GoodIn wsL_law wsX9_term := goodIn_r _ [670, 626, 627, 102, 103, 5, 104, 249, 250, 251, 252, 79, 628, 629, 630, 631, 342, 343, 344, 632, 633, 634, 635, 88, 636, 637, 638, 639, 640, 641, 642, 643, 644, 645, 646, 647, 648, 269, 270, 271, 272, 649, 650, 651, 652, 253, 254, 255, 256, 786, 787, 788, 789, 790, 791, 792, 793, 794, 795, 796, 797, 798, 799, 800, 801, 802, 803, 804, 805, 806] (by decide +kernel) (by decide +kernel)
set_option maxRecDepth 20000 in
theorem gL_law_X9_term : GoodIn wsL_law (wsV RL 80 RX9 yX9_term wsX9_term) := goodIn_app (goodIn_of _ (by decide +kernel)) ggL_law_X9_term
set_option maxRecDepth 20000 in
theorem ggL_law_X8_sees : GoodIn wsL_law wsX8_sees := goodIn_r _ [674, 118, 35, 774, 775, 776, 777, 778, 779, 780, 781, 782, 783, 784, 785] (by decide +kernel) (by decide +kernel)
set_option maxRecDepth 20000 in
theorem gL_law_X8_sees : GoodIn wsL_law (wsV RL 81 RX8 yX8_sees wsX8_sees) := goodIn_app (goodIn_of _ (by decide +kernel)) ggL_law_X8_sees
set_option maxRecDepth 20000 in
theorem ggL_law_X9_sees : GoodIn wsL_law wsX9_sees := goodIn_r _ [678, 198, 81, 102, 103, 5, 104, 786, 787, 788, 789, 790, 791, 792, 793, 794, 795, 796, 797, 798, 799, 800, 801, 802, 803, 804, 805, 806] (by decide +kernel) (by decide +kernel)
set_option maxRecDepth 20000 in
theorem gL_law_X9_sees : GoodIn wsL_law (wsV RL 84 RX9 yX9_sees wsX9_sees) := goodIn_app (goodIn_of _ (by decide +kernel)) ggL_law_X9_sees
