set_option maxRecDepth 20000 in
theorem gL_law_X9_g : GoodIn wsL_law (wsV RL 35 RX9 yX9_g wsX9_g) := goodIn_app (goodIn_of _ (by decide +kernel)) ggL_law_X9_g
set_option maxRecDepth 20000 in
theorem ggL_law_X8_sets : GoodIn wsL_law wsX8_sets := goodIn_r _ [276, 15, 24, 236, 159, 160, 14, 161, 68, 277, 73, 74, 278, 70, 71, 279, 280, 281, 282, 40, 283, 284, 285, 23, 286, 188, 49, 50, 287, 288, 289, 290, 291, 181, 182, 183, 292, 173, 174, 175, 777, 778, 779, 780, 781, 782, 783, 784, 785, 786, 787, 788, 810, 811, 816, 817, 818] (by decide +kernel) (by decide +kernel)
set_option maxRecDepth 20000 in
theorem gL_law_X8_sets : GoodIn wsL_law (wsV RL 36 RX8 yX8_sets wsX8_sets) := goodIn_app (goodIn_of _ (by decide +kernel)) ggL_law_X8_sets
set_option maxRecDepth 20000 in
theorem ggL_law_X9_sets : GoodIn wsL_law wsX9_sets := goodIn_r _ [296, 79, 80, 297, 197, 245, 246, 247, 5, 248, 249, 250, 251, 252, 102, 103, 104, 789, 790, 791, 792, 793, 794, 795, 796, 797, 798, 799, 800, 801, 802, 803, 804, 805, 806, 807, 808, 809] (by decide +kernel) (by decide +kernel)
set_option maxRecDepth 20000 in
theorem gL_law_X9_sets : GoodIn wsL_law (wsV RL 40 RX9 yX9_sets wsX9_sets) := goodIn_app (goodIn_of _ (by decide +kernel)) ggL_law_X9_sets
set_option maxRecDepth 20000 in
theorem ggL_law_X8_undo : GoodIn wsL_law wsX8_undo := goodIn_r _ [301, 24, 302, 15, 303, 304, 305, 23, 306, 188, 49, 50, 307, 173, 174, 14, 175, 40, 777, 778, 779, 780, 781, 782, 783, 784, 785, 786, 787, 788, 816, 817, 818, 810, 811] (by decide +kernel) (by decide +kernel)
set_option maxRecDepth 20000 in
theorem gL_law_X8_undo : GoodIn wsL_law (wsV RL 41 RX8 yX8_undo wsX8_undo) := goodIn_app (goodIn_of _ (by decide +kernel)) ggL_law_X8_undo
set_option maxRecDepth 20000 in
theorem ggL_law_X9_undo : GoodIn wsL_law wsX9_undo := goodIn_r _ [311, 197, 297, 79, 80, 789, 790, 791, 792, 793, 794, 795, 796, 797, 798, 799, 800, 801, 802, 803, 804, 805, 806, 807, 808, 809] (by decide +kernel) (by decide +kernel)
set_option maxRecDepth 20000 in
theorem gL_law_X9_undo : GoodIn wsL_law (wsV RL 44 RX9 yX9_undo wsX9_undo) := goodIn_app (goodIn_of _ (by decide +kernel)) ggL_law_X9_undo
set_option maxRecDepth 20000 in
theorem ggL_law_X8_made : GoodIn wsL_law wsX8_made := goodIn_r _ [315, 15, 316, 317, 318, 14, 319, 68, 320, 321, 322, 323, 324, 325, 326, 327, 328, 262, 263, 264, 40, 72, 73, 74, 329, 238, 239, 240, 69, 70, 71, 777, 778, 779, 780, 781, 782, 783, 784, 785, 786, 787, 788, 810, 811] (by decide +kernel) (by decide +kernel)
set_option maxRecDepth 20000 in
theorem gL_law_X8_made : GoodIn wsL_law (wsV RL 45 RX8 yX8_made wsX8_made) := goodIn_app (goodIn_of _ (by decide +kernel)) ggL_law_X8_made
set_option maxRecDepth 20000 in
theorem ggL_law_X9_made : GoodIn wsL_law wsX9_made := goodIn_r _ [333, 334, 335, 336, 5, 337, 249, 250, 251, 252, 79, 102, 103, 104, 338, 339, 340, 341, 342, 343, 344, 269, 270, 271, 272, 253, 254, 255, 256, 789, 790, 791, 792, 793, 794, 795, 796, 797, 798, 799, 800, 801, 802, 803, 804, 805, 806, 807, 808, 809] (by decide +kernel) (by decide +kernel)
set_option maxRecDepth 20000 in
theorem gL_law_X9_made : GoodIn wsL_law (wsV RL 48 RX9 yX9_made wsX9_made) := goodIn_app (goodIn_of _ (by decide +kernel)) ggL_law_X9_made
set_option maxRecDepth 20000 in
theorem ggL_law_X8_closed : GoodIn wsL_law wsX8_closed := goodIn_r _ [348, 15, 349, 350, 322, 351, 352, 317, 318, 14, 319, 68, 353, 354, 355, 324, 325, 326, 327, 328, 262, 263, 264, 40, 72, 73, 74, 329, 238, 239, 240, 69, 70, 71, 777, 778, 779, 780, 781, 782, 783, 784, 785, 786, 787, 788, 810, 811] (by decide +kernel) (by decide +kernel)
set_option maxRecDepth 20000 in
theorem gL_law_X8_closed : GoodIn wsL_law (wsV RL 49 RX8 yX8_closed wsX8_closed) := goodIn_app (goodIn_of _ (by decide +kernel)) ggL_law_X8_closed
set_option maxRecDepth 20000 in
theorem ggL_law_X9_closed : GoodIn wsL_law wsX9_closed := goodIn_r _ [359, 360, 361, 362, 5, 363, 334, 335, 336, 337, 249, 250, 251, 252, 79, 338, 339, 340, 341, 342, 343, 344, 269, 270, 271, 272, 253, 254, 255, 256, 789, 790, 791, 792, 793, 794, 795, 796, 797, 798, 799, 800, 801, 802, 803, 804, 805, 806, 807, 808, 809] (by decide +kernel) (by decide +kernel)
set_option maxRecDepth 20000 in
theorem gL_law_X9_closed : GoodIn wsL_law (wsV RL 52 RX9 yX9_closed wsX9_closed) := goodIn_app (goodIn_of _ (by decide +kernel)) ggL_law_X9_closed
set_option maxRecDepth 20000 in
theorem ggL_law_X8_law : GoodIn wsL_law wsX8_law := goodIn_r _ [367, 15, 368, 369, 370, 371, 372, 373, 374, 375, 376, 377, 378, 379, 238, 239, 14, 240, 40, 69, 70, 71, 380, 262, 263, 264, 72, 73, 74, 777, 778, 779, 780, 781, 782, 783, 784, 785, 786, 787, 788, 810, 811] (by decide +kernel) (by decide +kernel)
set_option maxRecDepth 20000 in
theorem gL_law_X8_law : GoodIn wsL_law (wsV RL 53 RX8 yX8_law wsX8_law) := goodIn_app (goodIn_of _ (by decide +kernel)) ggL_law_X8_law
set_option maxRecDepth 20000 in
theorem ggL_law_X9_law : GoodIn wsL_law wsX9_law := goodIn_r _ [384, 102, 103, 5, 104, 385, 386, 387, 388, 389, 390, 391, 249, 250, 251, 252, 79, 392, 393, 394, 395, 253, 254, 255, 256, 269, 270, 271, 272, 789, 790, 791, 792, 793, 794, 795, 796, 797, 798, 799, 800, 801, 802, 803, 804, 805, 806, 807, 808, 809] (by decide +kernel) (by decide +kernel)
set_option maxRecDepth 20000 in
theorem gL_law_X9_law : GoodIn wsL_law (wsV RL 56 RX9 yX9_law wsX9_law) := goodIn_app (goodIn_of _ (by decide +kernel)) ggL_law_X9_law
set_option maxRecDepth 20000 in
theorem ggL_law_X8_change : GoodIn wsL_law wsX8_change := goodIn_r _ [399, 15, 16, 368, 369, 370, 371, 400, 401, 402, 403, 373, 374, 375, 376, 377, 378, 379, 238, 239, 14, 240, 40, 69, 70, 71, 380, 262, 263, 264, 72, 73, 74, 176, 177, 178, 179, 68, 180, 181, 182, 183, 404, 405, 406, 407, 408, 409, 410, 411, 280, 281, 282, 412, 173, 174, 175, 777, 778, 779, 780, 781, 782, 783, 784, 785, 786, 787, 788, 810, 811] (by decide +kernel) (by decide +kernel)
set_option maxRecDepth 20000 in
theorem gL_law_X8_change : GoodIn wsL_law (wsV RL 57 RX8 yX8_change wsX8_change) := goodIn_app (goodIn_of _ (by decide +kernel)) ggL_law_X8_change
