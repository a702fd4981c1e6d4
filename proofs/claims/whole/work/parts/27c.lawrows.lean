set_option maxRecDepth 20000 in
theorem ggL_law_X9_change : GoodIn wsL_law wsX9_change := goodIn_r _ [416, 79, 102, 103, 5, 104, 385, 386, 387, 388, 389, 390, 391, 249, 250, 251, 252, 392, 393, 394, 395, 253, 254, 255, 256, 269, 270, 271, 272, 789, 790, 791, 792, 793, 794, 795, 796, 797, 798, 799, 800, 801, 802, 803, 804, 805, 806, 807, 808, 809] (by decide +kernel) (by decide +kernel)
set_option maxRecDepth 20000 in
theorem gL_law_X9_change : GoodIn wsL_law (wsV RL 60 RX9 yX9_change wsX9_change) := goodIn_app (goodIn_of _ (by decide +kernel)) ggL_law_X9_change
set_option maxRecDepth 20000 in
theorem ggL_law_X8_congruence : GoodIn wsL_law wsX8_congruence := goodIn_r _ [420, 28, 15, 421, 422, 423, 27, 424, 425, 426, 427, 54, 55, 428, 429, 430, 431, 432, 433, 434, 435, 436, 437, 262, 263, 14, 264, 40, 72, 73, 74, 438, 439, 440, 441, 238, 239, 240, 69, 70, 71, 442, 443, 444, 445, 446, 447, 448, 449, 450, 451, 452, 453, 454, 777, 778, 779, 780, 781, 782, 783, 784, 785, 786, 787, 788, 810, 811, 819, 820, 821] (by decide +kernel) (by decide +kernel)
set_option maxRecDepth 20000 in
theorem gL_law_X8_congruence : GoodIn wsL_law (wsV RL 61 RX8 yX8_congruence wsX8_congruence) := goodIn_app (goodIn_of _ (by decide +kernel)) ggL_law_X8_congruence
set_option maxRecDepth 20000 in
theorem ggL_law_X9_congruence : GoodIn wsL_law wsX9_congruence := goodIn_r _ [458, 459, 87, 460, 461, 462, 5, 463, 464, 465, 466, 467, 468, 469, 470, 249, 250, 251, 252, 79, 471, 472, 473, 474, 475, 476, 477, 478, 269, 270, 271, 272, 253, 254, 255, 256, 479, 480, 481, 482, 789, 790, 791, 792, 793, 794, 795, 796, 797, 798, 799, 800, 801, 802, 803, 804, 805, 806, 807, 808, 809] (by decide +kernel) (by decide +kernel)
set_option maxRecDepth 20000 in
theorem gL_law_X9_congruence : GoodIn wsL_law (wsV RL 64 RX9 yX9_congruence wsX9_congruence) := goodIn_app (goodIn_of _ (by decide +kernel)) ggL_law_X9_congruence
set_option maxRecDepth 20000 in
theorem ggL_law_X8_principal : GoodIn wsL_law wsX8_principal := goodIn_r _ [486, 15, 28, 236, 159, 160, 14, 161, 68, 421, 422, 423, 27, 424, 425, 426, 427, 54, 55, 428, 429, 430, 431, 432, 433, 434, 435, 436, 437, 262, 263, 264, 40, 72, 73, 74, 438, 439, 440, 441, 238, 239, 240, 69, 70, 71, 487, 488, 489, 490, 450, 451, 452, 453, 454, 443, 444, 445, 777, 778, 779, 780, 781, 782, 783, 784, 785, 786, 787, 788, 810, 811, 819, 820, 821] (by decide +kernel) (by decide +kernel)
set_option maxRecDepth 20000 in
theorem gL_law_X8_principal : GoodIn wsL_law (wsV RL 65 RX8 yX8_principal wsX8_principal) := goodIn_app (goodIn_of _ (by decide +kernel)) ggL_law_X8_principal
set_option maxRecDepth 20000 in
theorem ggL_law_X9_principal : GoodIn wsL_law wsX9_principal := goodIn_r _ [494, 459, 87, 245, 246, 247, 5, 248, 249, 250, 251, 252, 79, 102, 103, 104, 460, 461, 462, 463, 464, 465, 466, 467, 468, 469, 470, 471, 472, 473, 474, 475, 476, 477, 478, 269, 270, 271, 272, 253, 254, 255, 256, 495, 496, 497, 498, 789, 790, 791, 792, 793, 794, 795, 796, 797, 798, 799, 800, 801, 802, 803, 804, 805, 806, 807, 808, 809] (by decide +kernel) (by decide +kernel)
set_option maxRecDepth 20000 in
theorem gL_law_X9_principal : GoodIn wsL_law (wsV RL 68 RX9 yX9_principal wsX9_principal) := goodIn_app (goodIn_of _ (by decide +kernel)) ggL_law_X9_principal
set_option maxRecDepth 20000 in
theorem ggL_law_X8_pair : GoodIn wsL_law wsX8_pair := goodIn_r _ [502, 28, 15, 421, 422, 423, 27, 424, 425, 426, 427, 54, 55, 428, 429, 430, 431, 432, 433, 434, 435, 436, 437, 262, 263, 14, 264, 40, 72, 73, 74, 438, 439, 440, 441, 238, 239, 240, 69, 70, 71, 442, 443, 444, 445, 503, 504, 505, 506, 507, 508, 509, 510, 450, 451, 452, 453, 454, 511, 512, 513, 514, 515, 516, 517, 518, 519, 520, 521, 522, 523, 524, 2, 525, 526, 777, 778, 779, 780, 781, 782, 783, 784, 785, 786, 787, 788, 810, 811, 819, 820, 821] (by decide +kernel) (by decide +kernel)
set_option maxRecDepth 20000 in
theorem gL_law_X8_pair : GoodIn wsL_law (wsV RL 69 RX8 yX8_pair wsX8_pair) := goodIn_app (goodIn_of _ (by decide +kernel)) ggL_law_X8_pair
set_option maxRecDepth 20000 in
theorem ggL_law_X9_pair : GoodIn wsL_law wsX9_pair := goodIn_r _ [530, 459, 87, 460, 461, 462, 5, 463, 464, 465, 466, 467, 468, 469, 470, 249, 250, 251, 252, 79, 471, 472, 473, 474, 475, 476, 477, 478, 269, 270, 271, 272, 253, 254, 255, 256, 102, 103, 104, 531, 532, 533, 534, 535, 536, 537, 538, 495, 496, 497, 498, 539, 540, 541, 542, 543, 544, 545, 546, 789, 790, 791, 792, 793, 794, 795, 796, 797, 798, 799, 800, 801, 802, 803, 804, 805, 806, 807, 808, 809] (by decide +kernel) (by decide +kernel)
set_option maxRecDepth 20000 in
theorem gL_law_X9_pair : GoodIn wsL_law (wsV RL 72 RX9 yX9_pair wsX9_pair) := goodIn_app (goodIn_of _ (by decide +kernel)) ggL_law_X9_pair
set_option maxRecDepth 20000 in
theorem ggL_law_X8_free : GoodIn wsL_law wsX8_free := goodIn_r _ [550, 32, 15, 551, 552, 553, 554, 555, 31, 556, 557, 558, 559, 560, 561, 562, 563, 564, 565, 61, 566, 567, 568, 569, 570, 571, 572, 573, 574, 575, 576, 577, 578, 579, 580, 581, 582, 583, 584, 585, 586, 587, 588, 589, 590, 591, 592, 593, 60, 594, 595, 596, 597, 598, 599, 600, 601, 602, 603, 604, 169, 605, 606, 607, 608, 609, 62, 63, 610, 611, 612, 613, 614, 238, 239, 14, 240, 40, 69, 70, 71, 615, 616, 617, 618, 619, 262, 263, 264, 72, 73, 74, 620, 621, 622, 623, 777, 778, 779, 780, 781, 782, 783, 784, 785, 786, 787, 788, 822, 823, 824, 825, 826, 827, 828, 829, 830, 831, 832, 833, 810, 811] (by decide +kernel) (by decide +kernel)
set_option maxRecDepth 20000 in
theorem gL_law_X8_free : GoodIn wsL_law (wsV RL 73 RX8 yX8_free wsX8_free) := goodIn_app (goodIn_of _ (by decide +kernel)) ggL_law_X8_free
set_option maxRecDepth 20000 in
theorem ggL_law_X9_free : GoodIn wsL_law wsX9_free := goodIn_r _ [627, 628, 629, 102, 103, 5, 104, 249, 250, 251, 252, 79, 630, 631, 632, 633, 342, 343, 344, 634, 635, 636, 637, 88, 638, 639, 640, 641, 642, 643, 644, 645, 646, 647, 648, 649, 650, 269, 270, 271, 272, 651, 652, 653, 654, 253, 254, 255, 256, 789, 790, 791, 792, 793, 794, 795, 796, 797, 798, 799, 800, 801, 802, 803, 804, 805, 806, 807, 808, 809] (by decide +kernel) (by decide +kernel)
set_option maxRecDepth 20000 in
theorem gL_law_X9_free : GoodIn wsL_law (wsV RL 76 RX9 yX9_free wsX9_free) := goodIn_app (goodIn_of _ (by decide +kernel)) ggL_law_X9_free
set_option maxRecDepth 20000 in
theorem ggL_law_X8_term : GoodIn wsL_law wsX8_term := goodIn_r _ [658, 15, 659, 32, 660, 661, 662, 663, 31, 664, 557, 560, 561, 562, 563, 564, 565, 61, 566, 567, 568, 559, 569, 570, 571, 572, 573, 574, 575, 576, 577, 578, 579, 580, 581, 582, 583, 584, 585, 586, 587, 588, 589, 590, 591, 592, 593, 60, 594, 595, 596, 597, 598, 599, 600, 601, 602, 603, 604, 169, 605, 606, 607, 608, 609, 62, 63, 610, 611, 612, 613, 614, 238, 239, 14, 240, 40, 69, 70, 71, 615, 616, 617, 618, 619, 262, 263, 264, 72, 73, 74, 620, 621, 622, 623, 665, 666, 667, 668, 523, 524, 2, 525, 777, 778, 779, 780, 781, 782, 783, 784, 785, 786, 787, 788, 810, 811, 822, 823, 824, 825, 826, 827, 828, 829, 830, 831, 832, 833] (by decide +kernel) (by decide +kernel)
set_option maxRecDepth 20000 in
theorem gL_law_X8_term : GoodIn wsL_law (wsV RL 77 RX8 yX8_term wsX8_term) := goodIn_app (goodIn_of _ (by decide +kernel)) ggL_law_X8_term
set_option maxRecDepth 20000 in
theorem ggL_law_X9_term : GoodIn wsL_law wsX9_term := goodIn_r _ [672, 628, 629, 102, 103, 5, 104, 249, 250, 251, 252, 79, 630, 631, 632, 633, 342, 343, 344, 634, 635, 636, 637, 88, 638, 639, 640, 641, 642, 643, 644, 645, 646, 647, 648, 649, 650, 269, 270, 271, 272, 651, 652, 653, 654, 253, 254, 255, 256, 789, 790, 791, 792, 793, 794, 795, 796, 797, 798, 799, 800, 801, 802, 803, 804, 805, 806, 807, 808, 809] (by decide +kernel) (by decide +kernel)
set_option maxRecDepth 20000 in
theorem gL_law_X9_term : GoodIn wsL_law (wsV RL 80 RX9 yX9_term wsX9_term) := goodIn_app (goodIn_of _ (by decide +kernel)) ggL_law_X9_term
set_option maxRecDepth 20000 in
theorem ggL_law_X8_sees : GoodIn wsL_law wsX8_sees := goodIn_r _ [676, 118, 35, 777, 778, 779, 780, 781, 782, 783, 784, 785, 786, 787, 788] (by decide +kernel) (by decide +kernel)
