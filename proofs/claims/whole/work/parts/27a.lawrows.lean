set_option maxRecDepth 20000 in
theorem ggL_law_X8_init : GoodIn wsL_law wsX8_init := goodIn_r _ [8, 9, 10, 11, 12, 13, 14, 15, 16, 17, 18, 19, 20, 21, 22, 23, 24, 25, 26, 27, 28, 29, 30, 31, 32, 33, 34, 35, 36, 37, 38, 39, 40, 41, 42, 43, 44, 45, 46, 47, 48, 49, 50, 51, 52, 53, 54, 55, 56, 57, 58, 59, 60, 61, 62, 63, 64, 65, 66, 67, 68, 69, 70, 71, 72, 73, 74, 810, 811, 777, 778, 779, 780, 781, 782, 783, 784, 785, 786, 787, 788, 812, 813, 814, 815, 816, 817, 818, 819, 820, 821, 822, 823, 824, 825, 826, 827, 828, 829, 830, 831, 832, 833] (by decide +kernel) (by decide +kernel)
set_option maxRecDepth 20000 in
theorem gL_law_X8_init : GoodIn wsL_law (wsX8_init) := ggL_law_X8_init
set_option maxRecDepth 20000 in
theorem ggL_law_X9_init : GoodIn wsL_law wsX9_init := goodIn_r _ [77, 78, 10, 11, 33, 79, 80, 81, 82, 83, 84, 85, 86, 87, 59, 88, 89, 90, 5, 91, 789, 790, 791, 792, 793, 794, 795, 796, 797, 798, 799, 800, 801, 802, 803, 804, 805, 806, 807, 808, 809] (by decide +kernel) (by decide +kernel)
set_option maxRecDepth 20000 in
theorem gL_law_X9_init : GoodIn wsL_law (wsX9_init) := ggL_law_X9_init
set_option maxRecDepth 20000 in
theorem ggL_law_X8_type : GoodIn wsL_law wsX8_type := goodIn_r _ [95, 96, 34, 777, 778, 779, 780, 781, 782, 783, 784, 785, 786, 787, 788] (by decide +kernel) (by decide +kernel)
set_option maxRecDepth 20000 in
theorem gL_law_X8_type : GoodIn wsL_law (wsV RL 13 RX8 yX8_type wsX8_type) := goodIn_app (goodIn_of _ (by decide +kernel)) ggL_law_X8_type
set_option maxRecDepth 20000 in
theorem ggL_law_X9_type : GoodIn wsL_law wsX9_type := goodIn_r _ [100, 101, 85, 102, 103, 5, 104, 789, 790, 791, 792, 793, 794, 795, 796, 797, 798, 799, 800, 801, 802, 803, 804, 805, 806, 807, 808, 809] (by decide +kernel) (by decide +kernel)
set_option maxRecDepth 20000 in
theorem gL_law_X9_type : GoodIn wsL_law (wsV RL 17 RX9 yX9_type wsX9_type) := goodIn_app (goodIn_of _ (by decide +kernel)) ggL_law_X9_type
set_option maxRecDepth 20000 in
theorem ggL_law_X8_clear : GoodIn wsL_law wsX8_clear := goodIn_r _ [108, 96, 777, 778, 779, 780, 781, 782, 783, 784, 785, 786, 787, 788] (by decide +kernel) (by decide +kernel)
set_option maxRecDepth 20000 in
theorem gL_law_X8_clear : GoodIn wsL_law (wsV RL 18 RX8 yX8_clear wsX8_clear) := goodIn_app (goodIn_of _ (by decide +kernel)) ggL_law_X8_clear
set_option maxRecDepth 20000 in
theorem ggL_law_X9_clear : GoodIn wsL_law wsX9_clear := goodIn_r _ [112, 101, 789, 790, 791, 792, 793, 794, 795, 796, 797, 798, 799, 800, 801, 802, 803, 804, 805, 806, 807, 808, 809] (by decide +kernel) (by decide +kernel)
set_option maxRecDepth 20000 in
theorem gL_law_X9_clear : GoodIn wsL_law (wsV RL 22 RX9 yX9_clear wsX9_clear) := goodIn_app (goodIn_of _ (by decide +kernel)) ggL_law_X9_clear
set_option maxRecDepth 20000 in
theorem ggL_law_X8_tables : GoodIn wsL_law wsX8_tables := goodIn_r _ [116, 20, 34, 96, 15, 117, 24, 118, 119, 120, 121, 122, 123, 19, 124, 45, 125, 126, 127, 65, 66, 14, 67, 68, 40, 69, 70, 71, 72, 73, 74, 128, 129, 130, 131, 132, 133, 134, 135, 136, 137, 138, 139, 140, 141, 142, 143, 144, 145, 146, 147, 148, 149, 150, 151, 152, 153, 154, 155, 156, 157, 158, 159, 160, 161, 162, 163, 164, 165, 166, 167, 168, 169, 170, 171, 172, 173, 174, 175, 176, 177, 178, 179, 180, 181, 182, 183, 184, 185, 186, 23, 187, 188, 777, 778, 779, 780, 781, 782, 783, 784, 785, 786, 787, 788, 812, 813, 814, 815, 810, 811, 816, 817, 818] (by decide +kernel) (by decide +kernel)
set_option maxRecDepth 20000 in
theorem gL_law_X8_tables : GoodIn wsL_law (wsV RL 23 RX8 yX8_tables wsX8_tables) := goodIn_app (goodIn_of _ (by decide +kernel)) ggL_law_X8_tables
set_option maxRecDepth 20000 in
theorem ggL_law_X9_tables : GoodIn wsL_law wsX9_tables := goodIn_r _ [192, 86, 193, 194, 101, 195, 196, 79, 197, 198, 83, 89, 90, 5, 91, 199, 200, 201, 202, 85, 203, 204, 205, 206, 207, 208, 209, 210, 211, 212, 213, 214, 215, 216, 217, 218, 219, 102, 103, 104, 220, 221, 222, 223, 224, 225, 226, 227, 228, 229, 230, 231, 789, 790, 791, 792, 793, 794, 795, 796, 797, 798, 799, 800, 801, 802, 803, 804, 805, 806, 807, 808, 809] (by decide +kernel) (by decide +kernel)
set_option maxRecDepth 20000 in
theorem gL_law_X9_tables : GoodIn wsL_law (wsV RL 26 RX9 yX9_tables wsX9_tables) := goodIn_app (goodIn_of _ (by decide +kernel)) ggL_law_X9_tables
set_option maxRecDepth 20000 in
theorem ggL_law_X8_f : GoodIn wsL_law wsX8_f := goodIn_r _ [235, 15, 236, 159, 160, 14, 161, 68, 237, 238, 239, 240, 40, 69, 70, 71, 777, 778, 779, 780, 781, 782, 783, 784, 785, 786, 787, 788, 810, 811] (by decide +kernel) (by decide +kernel)
set_option maxRecDepth 20000 in
theorem gL_law_X8_f : GoodIn wsL_law (wsV RL 27 RX8 yX8_f wsX8_f) := goodIn_app (goodIn_of _ (by decide +kernel)) ggL_law_X8_f
set_option maxRecDepth 20000 in
theorem ggL_law_X9_f : GoodIn wsL_law wsX9_f := goodIn_r _ [244, 245, 246, 247, 5, 248, 249, 250, 251, 252, 79, 102, 103, 104, 253, 254, 255, 256, 789, 790, 791, 792, 793, 794, 795, 796, 797, 798, 799, 800, 801, 802, 803, 804, 805, 806, 807, 808, 809] (by decide +kernel) (by decide +kernel)
set_option maxRecDepth 20000 in
theorem gL_law_X9_f : GoodIn wsL_law (wsV RL 31 RX9 yX9_f wsX9_f) := goodIn_app (goodIn_of _ (by decide +kernel)) ggL_law_X9_f
set_option maxRecDepth 20000 in
theorem ggL_law_X8_g : GoodIn wsL_law wsX8_g := goodIn_r _ [260, 15, 236, 159, 160, 14, 161, 68, 261, 262, 263, 264, 40, 72, 73, 74, 777, 778, 779, 780, 781, 782, 783, 784, 785, 786, 787, 788, 810, 811] (by decide +kernel) (by decide +kernel)
set_option maxRecDepth 20000 in
theorem gL_law_X8_g : GoodIn wsL_law (wsV RL 32 RX8 yX8_g wsX8_g) := goodIn_app (goodIn_of _ (by decide +kernel)) ggL_law_X8_g
set_option maxRecDepth 20000 in
theorem ggL_law_X9_g : GoodIn wsL_law wsX9_g := goodIn_r _ [268, 245, 246, 247, 5, 248, 249, 250, 251, 252, 79, 102, 103, 104, 269, 270, 271, 272, 789, 790, 791, 792, 793, 794, 795, 796, 797, 798, 799, 800, 801, 802, 803, 804, 805, 806, 807, 808, 809] (by decide +kernel) (by decide +kernel)
