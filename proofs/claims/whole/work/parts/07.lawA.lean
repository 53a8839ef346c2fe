set_option maxRecDepth 20000 in
theorem ggL_law_X7_init : GoodIn wsL_law wsX7_init := goodIn_r _ [8, 9, 10, 11, 12, 13, 14, 15, 16, 17, 18, 19, 20, 21, 22, 23, 24, 25, 26, 27, 28, 29, 30, 31, 32, 33, 34, 35, 36, 37, 38, 39, 40, 41, 42, 43, 44, 45, 46, 47, 48, 49, 50, 51, 52, 53, 54, 55, 56, 57, 58, 59, 60, 61, 62, 63, 64, 65, 66, 67, 68, 69, 70, 71, 72, 811, 812, 813, 814, 815, 816, 772, 773, 774, 775, 776, 777, 778, 817, 818, 819, 820, 821, 822, 823, 824, 825, 826, 827, 828, 829, 830, 831, 832, 833, 834, 835, 836] (by decide +kernel) (by decide +kernel)
set_option maxRecDepth 20000 in
theorem gL_law_X7_init : GoodIn wsL_law (wsX7_init) := ggL_law_X7_init
set_option maxRecDepth 20000 in
theorem ggL_law_X8_init : GoodIn wsL_law wsX8_init := goodIn_r _ [75, 76, 10, 11, 42, 77, 78, 79, 80, 81, 82, 83, 84, 85, 86, 87, 88, 89, 90, 91, 92, 93, 94, 779, 780, 781, 782, 783, 784, 785, 786, 787, 788, 789, 790, 791, 792, 793, 794, 795, 796, 797, 798, 799, 800, 801, 802, 803, 804, 805, 806, 807, 808, 809, 810] (by decide +kernel) (by decide +kernel)
set_option maxRecDepth 20000 in
theorem gL_law_X8_init : GoodIn wsL_law (wsX8_init) := ggL_law_X8_init
set_option maxRecDepth 20000 in
theorem ggL_law_X7_city : GoodIn wsL_law wsX7_city := goodIn_r _ [98, 33, 29, 15, 19, 99, 100, 101, 102, 2, 103, 104, 105, 106, 107, 108, 109, 110, 111, 112, 31, 113, 71, 114, 115, 116, 117, 118, 119, 120, 121, 72, 122, 123, 124, 125, 126, 127, 128, 129, 130, 131, 132, 133, 134, 135, 136, 137, 138, 139, 140, 141, 142, 143, 70, 144, 145, 146, 147, 148, 149, 150, 151, 152, 153, 154, 155, 156, 157, 158, 159, 160, 161, 162, 163, 164, 165, 166, 167, 168, 169, 170, 171, 172, 173, 174, 175, 176, 177, 772, 773, 774, 775, 776, 777, 778, 817, 818, 819, 811, 812, 813, 814, 815, 816, 830, 831, 832, 833, 834, 835, 836] (by decide +kernel) (by decide +kernel)
set_option maxRecDepth 20000 in
theorem gL_law_X7_city : GoodIn wsL_law (wsV RL 13 RX7 yX7_city wsX7_city) := goodIn_app (goodIn_of _ (by decide +kernel)) ggL_law_X7_city
set_option maxRecDepth 20000 in
theorem ggL_law_X8_city : GoodIn wsL_law wsX8_city := goodIn_r _ [181, 182, 183, 184, 185, 186, 5, 187, 188, 189, 190, 191, 192, 193, 194, 195, 196, 197, 77, 78, 198, 199, 200, 201, 202, 203, 204, 205, 206, 207, 208, 209, 210, 211, 79, 212, 213, 214, 215, 216, 217, 218, 219, 220, 85, 221, 222, 223, 224, 86, 87, 88, 89, 225, 226, 227, 228, 229, 230, 80, 81, 82, 83, 84, 231, 232, 779, 780, 781, 782, 783, 784, 785, 786, 787, 788, 789, 790, 791, 792, 793, 794, 795, 796, 797, 798, 799, 800, 801, 802, 803, 804, 805, 806, 807, 808, 809, 810] (by decide +kernel) (by decide +kernel)
set_option maxRecDepth 20000 in
theorem gL_law_X8_city : GoodIn wsL_law (wsV RL 17 RX8 yX8_city wsX8_city) := goodIn_app (goodIn_of _ (by decide +kernel)) ggL_law_X8_city
set_option maxRecDepth 20000 in
theorem ggL_law_X7_ofArticle : GoodIn wsL_law wsX7_ofArticle := goodIn_r _ [236, 15, 237, 238, 239, 240, 241, 242, 243, 244, 245, 14, 246, 247, 248, 249, 250, 41, 251, 252, 253, 254, 255, 256, 257, 258, 2, 259, 772, 773, 774, 775, 776, 777, 778, 811, 812, 813, 814, 815, 816, 833, 834, 835, 836] (by decide +kernel) (by decide +kernel)
set_option maxRecDepth 20000 in
theorem gL_law_X7_ofArticle : GoodIn wsL_law (wsV RL 18 RX7 yX7_ofArticle wsX7_ofArticle) := goodIn_app (goodIn_of _ (by decide +kernel)) ggL_law_X7_ofArticle
set_option maxRecDepth 20000 in
theorem ggL_law_X8_ofArticle : GoodIn wsL_law wsX8_ofArticle := goodIn_r _ [263, 81, 82, 83, 84, 231, 264, 265, 266, 5, 267, 184, 268, 269, 270, 271, 779, 780, 781, 782, 783, 784, 785, 786, 787, 788, 789, 790, 791, 792, 793, 794, 795, 796, 797, 798, 799, 800, 801, 802, 803, 804, 805, 806, 807, 808, 809, 810] (by decide +kernel) (by decide +kernel)
set_option maxRecDepth 20000 in
theorem gL_law_X8_ofArticle : GoodIn wsL_law (wsV RL 22 RX8 yX8_ofArticle wsX8_ofArticle) := goodIn_app (goodIn_of _ (by decide +kernel)) ggL_law_X8_ofArticle
set_option maxRecDepth 20000 in
theorem ggL_law_X7_space : GoodIn wsL_law wsX7_space := goodIn_r _ [275, 15, 276, 277, 278, 279, 14, 280, 281, 772, 773, 774, 775, 776, 777, 778, 811, 812, 813, 814, 815, 816] (by decide +kernel) (by decide +kernel)
set_option maxRecDepth 20000 in
theorem gL_law_X7_space : GoodIn wsL_law (wsV RL 23 RX7 yX7_space wsX7_space) := goodIn_app (goodIn_of _ (by decide +kernel)) ggL_law_X7_space
set_option maxRecDepth 20000 in
theorem ggL_law_X8_space : GoodIn wsL_law wsX8_space := goodIn_r _ [285, 80, 286, 287, 288, 5, 289, 230, 779, 780, 781, 782, 783, 784, 785, 786, 787, 788, 789, 790, 791, 792, 793, 794, 795, 796, 797, 798, 799, 800, 801, 802, 803, 804, 805, 806, 807, 808, 809, 810] (by decide +kernel) (by decide +kernel)
set_option maxRecDepth 20000 in
theorem gL_law_X8_space : GoodIn wsL_law (wsV RL 27 RX8 yX8_space wsX8_space) := goodIn_app (goodIn_of _ (by decide +kernel)) ggL_law_X8_space
set_option maxRecDepth 20000 in
theorem ggL_law_X7_cheer : GoodIn wsL_law wsX7_cheer := goodIn_r _ [293, 15, 237, 240, 243, 244, 245, 14, 246, 247, 104, 105, 2, 106, 772, 773, 774, 775, 776, 777, 778, 811, 812, 813, 814, 815, 816, 833, 834, 835, 836] (by decide +kernel) (by decide +kernel)
set_option maxRecDepth 20000 in
theorem gL_law_X7_cheer : GoodIn wsL_law (wsV RL 28 RX7 yX7_cheer wsX7_cheer) := goodIn_app (goodIn_of _ (by decide +kernel)) ggL_law_X7_cheer
set_option maxRecDepth 20000 in
theorem ggL_law_X8_cheer : GoodIn wsL_law wsX8_cheer := goodIn_r _ [297, 83, 264, 265, 266, 5, 267, 184, 188, 189, 190, 779, 780, 781, 782, 783, 784, 785, 786, 787, 788, 789, 790, 791, 792, 793, 794, 795, 796, 797, 798, 799, 800, 801, 802, 803, 804, 805, 806, 807, 808, 809, 810] (by decide +kernel) (by decide +kernel)
set_option maxRecDepth 20000 in
theorem gL_law_X8_cheer : GoodIn wsL_law (wsV RL 31 RX8 yX8_cheer wsX8_cheer) := goodIn_app (goodIn_of _ (by decide +kernel)) ggL_law_X8_cheer
set_option maxRecDepth 20000 in
theorem ggL_law_X7_miss : GoodIn wsL_law wsX7_miss := goodIn_r _ [301, 15, 237, 241, 243, 244, 245, 14, 246, 247, 104, 105, 2, 106, 772, 773, 774, 775, 776, 777, 778, 811, 812, 813, 814, 815, 816, 833, 834, 835, 836] (by decide +kernel) (by decide +kernel)
set_option maxRecDepth 20000 in
theorem gL_law_X7_miss : GoodIn wsL_law (wsV RL 32 RX7 yX7_miss wsX7_miss) := goodIn_app (goodIn_of _ (by decide +kernel)) ggL_law_X7_miss
set_option maxRecDepth 20000 in
theorem ggL_law_X8_miss : GoodIn wsL_law wsX8_miss := goodIn_r _ [305, 84, 264, 265, 266, 5, 267, 184, 188, 189, 190, 779, 780, 781, 782, 783, 784, 785, 786, 787, 788, 789, 790, 791, 792, 793, 794, 795, 796, 797, 798, 799, 800, 801, 802, 803, 804, 805, 806, 807, 808, 809, 810] (by decide +kernel) (by decide +kernel)
set_option maxRecDepth 20000 in
theorem gL_law_X8_miss : GoodIn wsL_law (wsV RL 35 RX8 yX8_miss wsX8_miss) := goodIn_app (goodIn_of _ (by decide +kernel)) ggL_law_X8_miss
set_option maxRecDepth 20000 in
theorem ggL_law_X7_widen : GoodIn wsL_law wsX7_widen := goodIn_r _ [309, 15, 276, 277, 278, 279, 14, 280, 281, 104, 105, 2, 106, 772, 773, 774, 775, 776, 777, 778, 811, 812, 813, 814, 815, 816] (by decide +kernel) (by decide +kernel)
set_option maxRecDepth 20000 in
theorem gL_law_X7_widen : GoodIn wsL_law (wsV RL 36 RX7 yX7_widen wsX7_widen) := goodIn_app (goodIn_of _ (by decide +kernel)) ggL_law_X7_widen
set_option maxRecDepth 20000 in
theorem ggL_law_X8_widen : GoodIn wsL_law wsX8_widen := goodIn_r _ [313, 80, 286, 287, 288, 5, 289, 230, 188, 189, 190, 779, 780, 781, 782, 783, 784, 785, 786, 787, 788, 789, 790, 791, 792, 793, 794, 795, 796, 797, 798, 799, 800, 801, 802, 803, 804, 805, 806, 807, 808, 809, 810] (by decide +kernel) (by decide +kernel)
set_option maxRecDepth 20000 in
theorem gL_law_X8_widen : GoodIn wsL_law (wsV RL 39 RX8 yX8_widen wsX8_widen) := goodIn_app (goodIn_of _ (by decide +kernel)) ggL_law_X8_widen
set_option maxRecDepth 20000 in
theorem ggL_law_X7_shift : GoodIn wsL_law wsX7_shift := goodIn_r _ [317, 15, 318, 319, 320, 2, 321, 104, 105, 106, 322, 323, 324, 14, 325, 247, 772, 773, 774, 775, 776, 777, 778, 811, 812, 813, 814, 815, 816] (by decide +kernel) (by decide +kernel)
set_option maxRecDepth 20000 in
theorem gL_law_X7_shift : GoodIn wsL_law (wsV RL 40 RX7 yX7_shift wsX7_shift) := goodIn_app (goodIn_of _ (by decide +kernel)) ggL_law_X7_shift
set_option maxRecDepth 20000 in
theorem ggL_law_X8_shift : GoodIn wsL_law wsX8_shift := goodIn_r _ [329, 184, 229, 330, 331, 5, 332, 188, 189, 190, 779, 780, 781, 782, 783, 784, 785, 786, 787, 788, 789, 790, 791, 792, 793, 794, 795, 796, 797, 798, 799, 800, 801, 802, 803, 804, 805, 806, 807, 808, 809, 810] (by decide +kernel) (by decide +kernel)
set_option maxRecDepth 20000 in
theorem gL_law_X8_shift : GoodIn wsL_law (wsV RL 43 RX8 yX8_shift wsX8_shift) := goodIn_app (goodIn_of _ (by decide +kernel)) ggL_law_X8_shift
set_option maxRecDepth 20000 in
theorem ggL_law_X7_there : GoodIn wsL_law wsX7_there := goodIn_r _ [336, 15, 242, 322, 323, 324, 14, 325, 247, 772, 773, 774, 775, 776, 777, 778, 811, 812, 813, 814, 815, 816] (by decide +kernel) (by decide +kernel)
set_option maxRecDepth 20000 in
theorem gL_law_X7_there : GoodIn wsL_law (wsV RL 44 RX7 yX7_there wsX7_there) := goodIn_app (goodIn_of _ (by decide +kernel)) ggL_law_X7_there
set_option maxRecDepth 20000 in
theorem ggL_law_X8_there : GoodIn wsL_law wsX8_there := goodIn_r _ [340, 184, 231, 779, 780, 781, 782, 783, 784, 785, 786, 787, 788, 789, 790, 791, 792, 793, 794, 795, 796, 797, 798, 799, 800, 801, 802, 803, 804, 805, 806, 807, 808, 809, 810] (by decide +kernel) (by decide +kernel)
set_option maxRecDepth 20000 in
theorem gL_law_X8_there : GoodIn wsL_law (wsV RL 48 RX8 yX8_there wsX8_there) := goodIn_app (goodIn_of _ (by decide +kernel)) ggL_law_X8_there
set_option maxRecDepth 20000 in
theorem ggL_law_X7_company : GoodIn wsL_law wsX7_company := goodIn_r _ [344, 15, 322, 323, 324, 14, 325, 247, 345, 346, 347, 348, 349, 350, 351, 352, 353, 354, 355, 356, 39, 357, 358, 359, 360, 361, 258, 2, 259, 362, 249, 250, 41, 251, 252, 253, 254, 255, 256, 772, 773, 774, 775, 776, 777, 778, 811, 812, 813, 814, 815, 816, 833, 834, 835, 836] (by decide +kernel) (by decide +kernel)
set_option maxRecDepth 20000 in
theorem gL_law_X7_company : GoodIn wsL_law (wsV RL 49 RX7 yX7_company wsX7_company) := goodIn_app (goodIn_of _ (by decide +kernel)) ggL_law_X7_company
set_option maxRecDepth 20000 in
theorem ggL_law_X8_company : GoodIn wsL_law wsX8_company := goodIn_r _ [366, 184, 367, 368, 369, 5, 370, 371, 372, 373, 374, 84, 375, 376, 377, 378, 379, 380, 381, 268, 269, 270, 271, 81, 83, 779, 780, 781, 782, 783, 784, 785, 786, 787, 788, 789, 790, 791, 792, 793, 794, 795, 796, 797, 798, 799, 800, 801, 802, 803, 804, 805, 806, 807, 808, 809, 810] (by decide +kernel) (by decide +kernel)
set_option maxRecDepth 20000 in
theorem gL_law_X8_company : GoodIn wsL_law (wsV RL 52 RX8 yX8_company wsX8_company) := goodIn_app (goodIn_of _ (by decide +kernel)) ggL_law_X8_company
set_option maxRecDepth 20000 in
theorem ggL_law_X7_send : GoodIn wsL_law wsX7_send := goodIn_r _ [385, 15, 242, 243, 244, 245, 14, 246, 247, 257, 258, 2, 259, 386, 387, 388, 389, 390, 391, 350, 351, 352, 353, 354, 355, 356, 39, 357, 358, 359, 360, 361, 362, 249, 250, 41, 251, 252, 253, 254, 255, 256, 772, 773, 774, 775, 776, 777, 778, 811, 812, 813, 814, 815, 816, 833, 834, 835, 836] (by decide +kernel) (by decide +kernel)
set_option maxRecDepth 20000 in
theorem gL_law_X7_send : GoodIn wsL_law (wsV RL 53 RX7 yX7_send wsX7_send) := goodIn_app (goodIn_of _ (by decide +kernel)) ggL_law_X7_send
set_option maxRecDepth 20000 in
theorem ggL_law_X8_send : GoodIn wsL_law wsX8_send := goodIn_r _ [395, 231, 264, 265, 266, 5, 267, 184, 379, 380, 381, 396, 397, 398, 399, 371, 372, 373, 374, 84, 375, 376, 377, 378, 268, 269, 270, 271, 81, 83, 779, 780, 781, 782, 783, 784, 785, 786, 787, 788, 789, 790, 791, 792, 793, 794, 795, 796, 797, 798, 799, 800, 801, 802, 803, 804, 805, 806, 807, 808, 809, 810] (by decide +kernel) (by decide +kernel)
set_option maxRecDepth 20000 in
theorem gL_law_X8_send : GoodIn wsL_law (wsV RL 56 RX8 yX8_send wsX8_send) := goodIn_app (goodIn_of _ (by decide +kernel)) ggL_law_X8_send
set_option maxRecDepth 20000 in
theorem ggL_law_X7_call : GoodIn wsL_law wsX7_call := goodIn_r _ [403, 15, 242, 243, 244, 245, 14, 246, 247, 257, 258, 2, 259, 386, 387, 388, 389, 390, 391, 350, 351, 352, 353, 354, 355, 356, 39, 357, 358, 359, 360, 361, 362, 249, 250, 41, 251, 252, 253, 254, 255, 256, 772, 773, 774, 775, 776, 777, 778, 811, 812, 813, 814, 815, 816, 833, 834, 835, 836] (by decide +kernel) (by decide +kernel)
set_option maxRecDepth 20000 in
theorem gL_law_X7_call : GoodIn wsL_law (wsV RL 57 RX7 yX7_call wsX7_call) := goodIn_app (goodIn_of _ (by decide +kernel)) ggL_law_X7_call
set_option maxRecDepth 20000 in
theorem ggL_law_X8_call : GoodIn wsL_law wsX8_call := goodIn_r _ [407, 231, 264, 265, 266, 5, 267, 184, 379, 380, 381, 396, 397, 398, 399, 371, 372, 373, 374, 84, 375, 376, 377, 378, 268, 269, 270, 271, 81, 83, 779, 780, 781, 782, 783, 784, 785, 786, 787, 788, 789, 790, 791, 792, 793, 794, 795, 796, 797, 798, 799, 800, 801, 802, 803, 804, 805, 806, 807, 808, 809, 810] (by decide +kernel) (by decide +kernel)
set_option maxRecDepth 20000 in
theorem gL_law_X8_call : GoodIn wsL_law (wsV RL 60 RX8 yX8_call wsX8_call) := goodIn_app (goodIn_of _ (by decide +kernel)) ggL_law_X8_call
set_option maxRecDepth 20000 in
theorem ggL_law_X7_laughter : GoodIn wsL_law wsX7_laughter := goodIn_r _ [411, 15, 242, 322, 323, 324, 14, 325, 247, 412, 359, 360, 361, 39, 258, 2, 259, 362, 249, 250, 41, 251, 252, 253, 254, 255, 256, 772, 773, 774, 775, 776, 777, 778, 811, 812, 813, 814, 815, 816, 833, 834, 835, 836] (by decide +kernel) (by decide +kernel)
set_option maxRecDepth 20000 in
theorem gL_law_X7_laughter : GoodIn wsL_law (wsV RL 61 RX7 yX7_laughter wsX7_laughter) := goodIn_app (goodIn_of _ (by decide +kernel)) ggL_law_X7_laughter
set_option maxRecDepth 20000 in
theorem ggL_law_X8_laughter : GoodIn wsL_law wsX8_laughter := goodIn_r _ [416, 184, 231, 375, 376, 377, 5, 378, 379, 380, 381, 268, 269, 270, 271, 81, 83, 779, 780, 781, 782, 783, 784, 785, 786, 787, 788, 789, 790, 791, 792, 793, 794, 795, 796, 797, 798, 799, 800, 801, 802, 803, 804, 805, 806, 807, 808, 809, 810] (by decide +kernel) (by decide +kernel)
set_option maxRecDepth 20000 in
theorem gL_law_X8_laughter : GoodIn wsL_law (wsV RL 64 RX8 yX8_laughter wsX8_laughter) := goodIn_app (goodIn_of _ (by decide +kernel)) ggL_law_X8_laughter
set_option maxRecDepth 20000 in
theorem ggL_law_X7_heard : GoodIn wsL_law wsX7_heard := goodIn_r _ [420, 15, 242, 318, 319, 320, 2, 321, 104, 105, 106, 322, 323, 324, 14, 325, 247, 412, 359, 360, 361, 39, 258, 259, 362, 249, 250, 41, 251, 252, 253, 254, 255, 256, 421, 422, 423, 424, 425, 135, 426, 427, 138, 139, 772, 773, 774, 775, 776, 777, 778, 811, 812, 813, 814, 815, 816, 833, 834, 835, 836] (by decide +kernel) (by decide +kernel)
set_option maxRecDepth 20000 in
theorem gL_law_X7_heard : GoodIn wsL_law (wsV RL 65 RX7 yX7_heard wsX7_heard) := goodIn_app (goodIn_of _ (by decide +kernel)) ggL_law_X7_heard
set_option maxRecDepth 20000 in
theorem ggL_law_X8_heard : GoodIn wsL_law wsX8_heard := goodIn_r _ [431, 184, 330, 331, 5, 332, 188, 189, 190, 432, 433, 434, 435, 229, 231, 436, 437, 438, 375, 376, 377, 378, 379, 380, 381, 268, 269, 270, 271, 81, 83, 779, 780, 781, 782, 783, 784, 785, 786, 787, 788, 789, 790, 791, 792, 793, 794, 795, 796, 797, 798, 799, 800, 801, 802, 803, 804, 805, 806, 807, 808, 809, 810] (by decide +kernel) (by decide +kernel)
set_option maxRecDepth 20000 in
theorem gL_law_X8_heard : GoodIn wsL_law (wsV RL 68 RX8 yX8_heard wsX8_heard) := goodIn_app (goodIn_of _ (by decide +kernel)) ggL_law_X8_heard
set_option maxRecDepth 20000 in
theorem ggL_law_X7_year : GoodIn wsL_law wsX7_year := goodIn_r _ [442, 33, 29, 15, 27, 101, 102, 2, 103, 104, 105, 106, 107, 108, 109, 110, 111, 112, 31, 113, 71, 114, 115, 116, 117, 118, 119, 120, 121, 72, 122, 123, 124, 125, 322, 323, 324, 14, 325, 247, 443, 444, 445, 26, 446, 65, 447, 141, 142, 143, 70, 448, 244, 245, 246, 449, 450, 451, 452, 453, 454, 455, 456, 457, 258, 259, 458, 459, 460, 461, 462, 138, 135, 139, 463, 350, 351, 352, 353, 354, 355, 356, 39, 357, 358, 359, 360, 361, 362, 249, 250, 41, 251, 252, 253, 254, 255, 256, 464, 465, 466, 467, 468, 469, 470, 471, 472, 473, 474, 475, 772, 773, 774, 775, 776, 777, 778, 830, 831, 832, 811, 812, 813, 814, 815, 816, 825, 826, 827, 828, 829, 833, 834, 835, 836] (by decide +kernel) (by decide +kernel)
set_option maxRecDepth 20000 in
theorem gL_law_X7_year : GoodIn wsL_law (wsV RL 69 RX7 yX7_year wsX7_year) := goodIn_app (goodIn_of _ (by decide +kernel)) ggL_law_X7_year
set_option maxRecDepth 20000 in
theorem ggL_law_X8_year : GoodIn wsL_law wsX8_year := goodIn_r _ [479, 182, 184, 79, 231, 185, 186, 5, 187, 188, 189, 190, 191, 192, 193, 194, 195, 196, 197, 77, 78, 198, 199, 200, 201, 264, 265, 266, 267, 480, 481, 482, 483, 484, 485, 379, 380, 381, 396, 397, 398, 399, 371, 372, 373, 374, 84, 375, 376, 377, 378, 268, 269, 270, 271, 81, 83, 486, 487, 488, 489, 490, 491, 492, 779, 780, 781, 782, 783, 784, 785, 786, 787, 788, 789, 790, 791, 792, 793, 794, 795, 796, 797, 798, 799, 800, 801, 802, 803, 804, 805, 806, 807, 808, 809, 810] (by decide +kernel) (by decide +kernel)
set_option maxRecDepth 20000 in
theorem gL_law_X8_year : GoodIn wsL_law (wsV RL 73 RX8 yX8_year wsX8_year) := goodIn_app (goodIn_of _ (by decide +kernel)) ggL_law_X8_year
set_option maxRecDepth 20000 in
theorem ggL_law_X7_packs : GoodIn wsL_law wsX7_packs := goodIn_r _ [496, 15, 23, 497, 498, 322, 323, 324, 14, 325, 247, 345, 346, 347, 348, 104, 105, 2, 106, 499, 500, 501, 22, 502, 503, 58, 59, 60, 504, 505, 506, 507, 57, 508, 509, 510, 511, 512, 244, 245, 246, 513, 514, 515, 516, 258, 259, 772, 773, 774, 775, 776, 777, 778, 820, 821, 822, 823, 824, 811, 812, 813, 814, 815, 816, 833, 834, 835, 836] (by decide +kernel) (by decide +kernel)
set_option maxRecDepth 20000 in
theorem gL_law_X7_packs : GoodIn wsL_law (wsV RL 74 RX7 yX7_packs wsX7_packs) := goodIn_app (goodIn_of _ (by decide +kernel)) ggL_law_X7_packs
set_option maxRecDepth 20000 in
theorem ggL_law_X8_packs : GoodIn wsL_law wsX8_packs := goodIn_r _ [520, 184, 521, 91, 367, 368, 369, 5, 370, 188, 189, 190, 522, 523, 524, 525, 230, 90, 486, 487, 488, 526, 527, 528, 529, 92, 82, 80, 379, 380, 381, 264, 265, 266, 267, 779, 780, 781, 782, 783, 784, 785, 786, 787, 788, 789, 790, 791, 792, 793, 794, 795, 796, 797, 798, 799, 800, 801, 802, 803, 804, 805, 806, 807, 808, 809, 810] (by decide +kernel) (by decide +kernel)
set_option maxRecDepth 20000 in
theorem gL_law_X8_packs : GoodIn wsL_law (wsV RL 77 RX8 yX8_packs wsX8_packs) := goodIn_app (goodIn_of _ (by decide +kernel)) ggL_law_X8_packs
set_option maxRecDepth 20000 in
theorem ggL_law_X7_fetch : GoodIn wsL_law wsX7_fetch := goodIn_r _ [533, 15, 242, 322, 323, 324, 14, 325, 247, 345, 346, 347, 348, 534, 535, 536, 537, 390, 538, 465, 466, 467, 468, 469, 470, 391, 350, 351, 352, 353, 354, 355, 356, 39, 357, 358, 359, 360, 361, 258, 2, 259, 362, 249, 250, 41, 251, 252, 253, 254, 255, 256, 772, 773, 774, 775, 776, 777, 778, 811, 812, 813, 814, 815, 816, 833, 834, 835, 836] (by decide +kernel) (by decide +kernel)
set_option maxRecDepth 20000 in
theorem gL_law_X7_fetch : GoodIn wsL_law (wsV RL 78 RX7 yX7_fetch wsX7_fetch) := goodIn_app (goodIn_of _ (by decide +kernel)) ggL_law_X7_fetch
set_option maxRecDepth 20000 in
theorem ggL_law_X8_fetch : GoodIn wsL_law wsX8_fetch := goodIn_r _ [542, 184, 231, 367, 368, 369, 5, 370, 543, 544, 545, 546, 486, 487, 488, 371, 372, 373, 374, 84, 375, 376, 377, 378, 379, 380, 381, 268, 269, 270, 271, 81, 83, 779, 780, 781, 782, 783, 784, 785, 786, 787, 788, 789, 790, 791, 792, 793, 794, 795, 796, 797, 798, 799, 800, 801, 802, 803, 804, 805, 806, 807, 808, 809, 810] (by decide +kernel) (by decide +kernel)
set_option maxRecDepth 20000 in
theorem gL_law_X8_fetch : GoodIn wsL_law (wsV RL 81 RX8 yX8_fetch wsX8_fetch) := goodIn_app (goodIn_of _ (by decide +kernel)) ggL_law_X8_fetch
set_option maxRecDepth 20000 in
theorem ggL_law_X7_lure : GoodIn wsL_law wsX7_lure := goodIn_r _ [550, 15, 242, 243, 244, 245, 14, 246, 247, 257, 258, 2, 259, 534, 535, 536, 537, 390, 538, 465, 466, 467, 468, 469, 470, 391, 350, 351, 352, 353, 354, 355, 356, 39, 357, 358, 359, 360, 361, 362, 249, 250, 41, 251, 252, 253, 254, 255, 256, 772, 773, 774, 775, 776, 777, 778, 811, 812, 813, 814, 815, 816, 833, 834, 835, 836] (by decide +kernel) (by decide +kernel)
set_option maxRecDepth 20000 in
theorem gL_law_X7_lure : GoodIn wsL_law (wsV RL 82 RX7 yX7_lure wsX7_lure) := goodIn_app (goodIn_of _ (by decide +kernel)) ggL_law_X7_lure
set_option maxRecDepth 20000 in
theorem ggL_law_X8_lure : GoodIn wsL_law wsX8_lure := goodIn_r _ [554, 231, 264, 265, 266, 5, 267, 184, 379, 380, 381, 543, 544, 545, 546, 486, 487, 488, 371, 372, 373, 374, 84, 375, 376, 377, 378, 268, 269, 270, 271, 81, 83, 779, 780, 781, 782, 783, 784, 785, 786, 787, 788, 789, 790, 791, 792, 793, 794, 795, 796, 797, 798, 799, 800, 801, 802, 803, 804, 805, 806, 807, 808, 809, 810] (by decide +kernel) (by decide +kernel)
set_option maxRecDepth 20000 in
theorem gL_law_X8_lure : GoodIn wsL_law (wsV RL 85 RX8 yX8_lure wsX8_lure) := goodIn_app (goodIn_of _ (by decide +kernel)) ggL_law_X8_lure
set_option maxRecDepth 20000 in
theorem ggL_law_X7_reading : GoodIn wsL_law wsX7_reading := goodIn_r _ [558, 15, 19, 99, 319, 320, 2, 321, 104, 105, 106, 322, 323, 324, 14, 325, 247, 559, 560, 561, 18, 562, 563, 51, 52, 772, 773, 774, 775, 776, 777, 778, 817, 818, 819, 811, 812, 813, 814, 815, 816] (by decide +kernel) (by decide +kernel)
set_option maxRecDepth 20000 in
theorem gL_law_X7_reading : GoodIn wsL_law (wsV RL 86 RX7 yX7_reading wsX7_reading) := goodIn_app (goodIn_of _ (by decide +kernel)) ggL_law_X7_reading
set_option maxRecDepth 20000 in
theorem ggL_law_X8_reading : GoodIn wsL_law wsX8_reading := goodIn_r _ [567, 184, 232, 93, 94, 330, 331, 5, 332, 188, 189, 190, 779, 780, 781, 782, 783, 784, 785, 786, 787, 788, 789, 790, 791, 792, 793, 794, 795, 796, 797, 798, 799, 800, 801, 802, 803, 804, 805, 806, 807, 808, 809, 810] (by decide +kernel) (by decide +kernel)
set_option maxRecDepth 20000 in
theorem gL_law_X8_reading : GoodIn wsL_law (wsV RL 89 RX8 yX8_reading wsX8_reading) := goodIn_app (goodIn_of _ (by decide +kernel)) ggL_law_X8_reading
set_option maxRecDepth 20000 in
theorem ggL_law_X7_back : GoodIn wsL_law wsX7_back := goodIn_r _ [571, 19, 99, 104, 105, 2, 106, 772, 773, 774, 775, 776, 777, 778, 817, 818, 819] (by decide +kernel) (by decide +kernel)
set_option maxRecDepth 20000 in
theorem gL_law_X7_back : GoodIn wsL_law (wsV RL 90 RX7 yX7_back wsX7_back) := goodIn_app (goodIn_of _ (by decide +kernel)) ggL_law_X7_back
set_option maxRecDepth 20000 in
theorem ggL_law_X8_back : GoodIn wsL_law wsX8_back := goodIn_r _ [575, 232, 188, 189, 5, 190, 779, 780, 781, 782, 783, 784, 785, 786, 787, 788, 789, 790, 791, 792, 793, 794, 795, 796, 797, 798, 799, 800, 801, 802, 803, 804, 805, 806, 807, 808, 809, 810] (by decide +kernel) (by decide +kernel)
set_option maxRecDepth 20000 in
theorem gL_law_X8_back : GoodIn wsL_law (wsV RL 93 RX8 yX8_back wsX8_back) := goodIn_app (goodIn_of _ (by decide +kernel)) ggL_law_X8_back
set_option maxRecDepth 20000 in
theorem ggL_law_X7_gaieties : GoodIn wsL_law wsX7_gaieties := goodIn_r _ [579, 15, 237, 238, 19, 318, 243, 244, 245, 14, 246, 247, 580, 581, 582, 583, 390, 358, 359, 360, 361, 39, 258, 2, 259, 362, 249, 250, 41, 251, 252, 253, 254, 255, 256, 584, 585, 586, 587, 18, 588, 563, 51, 52, 422, 423, 424, 425, 135, 426, 427, 138, 139, 772, 773, 774, 775, 776, 777, 778, 811, 812, 813, 814, 815, 816, 833, 834, 835, 836, 817, 818, 819] (by decide +kernel) (by decide +kernel)
set_option maxRecDepth 20000 in
theorem gL_law_X7_gaieties : GoodIn wsL_law (wsV RL 94 RX7 yX7_gaieties wsX7_gaieties) := goodIn_app (goodIn_of _ (by decide +kernel)) ggL_law_X7_gaieties
set_option maxRecDepth 20000 in
theorem ggL_law_X8_gaieties : GoodIn wsL_law wsX8_gaieties := goodIn_r _ [592, 83, 264, 265, 266, 5, 267, 184, 593, 594, 595, 596, 232, 93, 94, 432, 433, 434, 435, 229, 231, 436, 437, 438, 375, 376, 377, 378, 379, 380, 381, 268, 269, 270, 271, 81, 779, 780, 781, 782, 783, 784, 785, 786, 787, 788, 789, 790, 791, 792, 793, 794, 795, 796, 797, 798, 799, 800, 801, 802, 803, 804, 805, 806, 807, 808, 809, 810] (by decide +kernel) (by decide +kernel)
set_option maxRecDepth 20000 in
theorem gL_law_X8_gaieties : GoodIn wsL_law (wsV RL 97 RX8 yX8_gaieties wsX8_gaieties) := goodIn_app (goodIn_of _ (by decide +kernel)) ggL_law_X8_gaieties
set_option maxRecDepth 20000 in
theorem ggL_law_X7_kinds : GoodIn wsL_law wsX7_kinds := goodIn_r _ [600, 15, 237, 240, 19, 318, 243, 244, 245, 14, 246, 247, 580, 581, 582, 583, 390, 358, 359, 360, 361, 39, 258, 2, 259, 362, 249, 250, 41, 251, 252, 253, 254, 255, 256, 584, 585, 586, 587, 18, 588, 563, 51, 52, 422, 423, 424, 425, 135, 426, 427, 138, 139, 772, 773, 774, 775, 776, 777, 778, 811, 812, 813, 814, 815, 816, 833, 834, 835, 836, 817, 818, 819] (by decide +kernel) (by decide +kernel)
set_option maxRecDepth 20000 in
theorem gL_law_X7_kinds : GoodIn wsL_law (wsV RL 98 RX7 yX7_kinds wsX7_kinds) := goodIn_app (goodIn_of _ (by decide +kernel)) ggL_law_X7_kinds
set_option maxRecDepth 20000 in
theorem ggL_law_X8_kinds : GoodIn wsL_law wsX8_kinds := goodIn_r _ [604, 81, 264, 265, 266, 5, 267, 184, 593, 594, 595, 596, 232, 93, 94, 432, 433, 434, 435, 229, 231, 436, 437, 438, 375, 376, 377, 378, 379, 380, 381, 268, 269, 270, 271, 83, 779, 780, 781, 782, 783, 784, 785, 786, 787, 788, 789, 790, 791, 792, 793, 794, 795, 796, 797, 798, 799, 800, 801, 802, 803, 804, 805, 806, 807, 808, 809, 810] (by decide +kernel) (by decide +kernel)
set_option maxRecDepth 20000 in
theorem gL_law_X8_kinds : GoodIn wsL_law (wsV RL 101 RX8 yX8_kinds wsX8_kinds) := goodIn_app (goodIn_of _ (by decide +kernel)) ggL_law_X8_kinds
set_option maxRecDepth 20000 in
theorem ggL_law_X7_wheres : GoodIn wsL_law wsX7_wheres := goodIn_r _ [608, 15, 609, 242, 19, 104, 105, 2, 106, 322, 323, 324, 14, 325, 247, 412, 359, 360, 361, 39, 258, 259, 362, 249, 250, 41, 251, 252, 253, 254, 255, 256, 585, 586, 587, 18, 588, 563, 51, 52, 422, 423, 424, 425, 135, 426, 427, 138, 139, 772, 773, 774, 775, 776, 777, 778, 811, 812, 813, 814, 815, 816, 833, 834, 835, 836, 817, 818, 819] (by decide +kernel) (by decide +kernel)
set_option maxRecDepth 20000 in
theorem gL_law_X7_wheres : GoodIn wsL_law (wsV RL 102 RX7 yX7_wheres wsX7_wheres) := goodIn_app (goodIn_of _ (by decide +kernel)) ggL_law_X7_wheres
set_option maxRecDepth 20000 in
theorem ggL_law_X8_wheres : GoodIn wsL_law wsX8_wheres := goodIn_r _ [613, 184, 614, 229, 188, 189, 5, 190, 593, 594, 595, 596, 232, 93, 94, 432, 433, 434, 435, 231, 436, 437, 438, 375, 376, 377, 378, 379, 380, 381, 268, 269, 270, 271, 81, 83, 779, 780, 781, 782, 783, 784, 785, 786, 787, 788, 789, 790, 791, 792, 793, 794, 795, 796, 797, 798, 799, 800, 801, 802, 803, 804, 805, 806, 807, 808, 809, 810] (by decide +kernel) (by decide +kernel)
set_option maxRecDepth 20000 in
theorem gL_law_X8_wheres : GoodIn wsL_law (wsV RL 106 RX8 yX8_wheres wsX8_wheres) := goodIn_app (goodIn_of _ (by decide +kernel)) ggL_law_X8_wheres
set_option maxRecDepth 20000 in
theorem ggL_law_X7_odds : GoodIn wsL_law wsX7_odds := goodIn_r _ [618, 15, 242, 609, 243, 244, 245, 14, 246, 247, 104, 105, 2, 106, 257, 258, 259, 619, 620, 621, 622, 390, 391, 350, 351, 352, 353, 354, 355, 356, 39, 357, 358, 359, 360, 361, 362, 249, 250, 41, 251, 252, 253, 254, 255, 256, 623, 465, 466, 467, 468, 469, 470, 772, 773, 774, 775, 776, 777, 778, 811, 812, 813, 814, 815, 816, 833, 834, 835, 836] (by decide +kernel) (by decide +kernel)
set_option maxRecDepth 20000 in
theorem gL_law_X7_odds : GoodIn wsL_law (wsV RL 107 RX7 yX7_odds wsX7_odds) := goodIn_app (goodIn_of _ (by decide +kernel)) ggL_law_X7_odds
set_option maxRecDepth 20000 in
theorem ggL_law_X8_odds : GoodIn wsL_law wsX8_odds := goodIn_r _ [627, 231, 614, 184, 264, 265, 266, 5, 267, 188, 189, 190, 379, 380, 381, 371, 372, 373, 374, 84, 375, 376, 377, 378, 268, 269, 270, 271, 81, 83, 628, 629, 630, 779, 780, 781, 782, 783, 784, 785, 786, 787, 788, 789, 790, 791, 792, 793, 794, 795, 796, 797, 798, 799, 800, 801, 802, 803, 804, 805, 806, 807, 808, 809, 810] (by decide +kernel) (by decide +kernel)
set_option maxRecDepth 20000 in
theorem gL_law_X8_odds : GoodIn wsL_law (wsV RL 111 RX8 yX8_odds wsX8_odds) := goodIn_app (goodIn_of _ (by decide +kernel)) ggL_law_X8_odds
set_option maxRecDepth 20000 in
theorem ggL_law_X7_sheet : GoodIn wsL_law wsX7_sheet := goodIn_r _ [634, 33, 29, 101, 102, 2, 103, 104, 105, 106, 107, 108, 109, 122, 123, 124, 125, 635, 636, 637, 31, 638, 71, 639, 134, 135, 136, 640, 138, 139, 72, 70, 772, 773, 774, 775, 776, 777, 778, 830, 831, 832] (by decide +kernel) (by decide +kernel)
set_option maxRecDepth 20000 in
theorem gL_law_X7_sheet : GoodIn wsL_law (wsV RL 112 RX7 yX7_sheet wsX7_sheet) := goodIn_app (goodIn_of _ (by decide +kernel)) ggL_law_X7_sheet
set_option maxRecDepth 20000 in
theorem ggL_law_X8_sheet : GoodIn wsL_law wsX8_sheet := goodIn_r _ [644, 182, 77, 78, 79, 185, 186, 5, 187, 188, 189, 190, 191, 192, 193, 198, 199, 200, 201, 779, 780, 781, 782, 783, 784, 785, 786, 787, 788, 789, 790, 791, 792, 793, 794, 795, 796, 797, 798, 799, 800, 801, 802, 803, 804, 805, 806, 807, 808, 809, 810] (by decide +kernel) (by decide +kernel)
set_option maxRecDepth 20000 in
theorem gL_law_X8_sheet : GoodIn wsL_law (wsV RL 116 RX8 yX8_sheet wsX8_sheet) := goodIn_app (goodIn_of _ (by decide +kernel)) ggL_law_X8_sheet
set_option maxRecDepth 20000 in
theorem ggL_law_X7_lose : GoodIn wsL_law wsX7_lose := goodIn_r _ [648, 29, 101, 102, 2, 103, 104, 105, 106, 649, 115, 116, 31, 117, 71, 650, 651, 652, 653, 72, 772, 773, 774, 775, 776, 777, 778, 830, 831, 832] (by decide +kernel) (by decide +kernel)
set_option maxRecDepth 20000 in
theorem gL_law_X7_lose : GoodIn wsL_law (wsV RL 117 RX7 yX7_lose wsX7_lose) := goodIn_app (goodIn_of _ (by decide +kernel)) ggL_law_X7_lose
set_option maxRecDepth 20000 in
theorem ggL_law_X8_lose : GoodIn wsL_law wsX8_lose := goodIn_r _ [657, 77, 185, 186, 5, 187, 188, 189, 190, 779, 780, 781, 782, 783, 784, 785, 786, 787, 788, 789, 790, 791, 792, 793, 794, 795, 796, 797, 798, 799, 800, 801, 802, 803, 804, 805, 806, 807, 808, 809, 810] (by decide +kernel) (by decide +kernel)
set_option maxRecDepth 20000 in
theorem gL_law_X8_lose : GoodIn wsL_law (wsV RL 120 RX8 yX8_lose wsX8_lose) := goodIn_app (goodIn_of _ (by decide +kernel)) ggL_law_X8_lose
set_option maxRecDepth 20000 in
theorem ggL_law_X7_put : GoodIn wsL_law wsX7_put := goodIn_r _ [661, 33, 29, 101, 102, 2, 103, 104, 105, 106, 649, 115, 116, 31, 117, 71, 122, 123, 124, 125, 662, 119, 120, 121, 72, 663, 664, 665, 666, 70, 667, 668, 669, 670, 772, 773, 774, 775, 776, 777, 778, 830, 831, 832] (by decide +kernel) (by decide +kernel)
set_option maxRecDepth 20000 in
theorem gL_law_X7_put : GoodIn wsL_law (wsV RL 121 RX7 yX7_put wsX7_put) := goodIn_app (goodIn_of _ (by decide +kernel)) ggL_law_X7_put
set_option maxRecDepth 20000 in
theorem ggL_law_X8_put : GoodIn wsL_law wsX8_put := goodIn_r _ [674, 182, 77, 78, 79, 185, 186, 5, 187, 188, 189, 190, 198, 199, 200, 201, 779, 780, 781, 782, 783, 784, 785, 786, 787, 788, 789, 790, 791, 792, 793, 794, 795, 796, 797, 798, 799, 800, 801, 802, 803, 804, 805, 806, 807, 808, 809, 810] (by decide +kernel) (by decide +kernel)
set_option maxRecDepth 20000 in
theorem gL_law_X8_put : GoodIn wsL_law (wsV RL 124 RX8 yX8_put wsX8_put) := goodIn_app (goodIn_of _ (by decide +kernel)) ggL_law_X8_put
set_option maxRecDepth 20000 in
theorem ggL_law_X7_cell : GoodIn wsL_law wsX7_cell := goodIn_r _ [678, 33, 609, 29, 101, 102, 2, 103, 104, 105, 106, 107, 108, 109, 110, 111, 112, 31, 113, 71, 114, 115, 116, 117, 118, 119, 120, 121, 72, 679, 141, 142, 143, 70, 772, 773, 774, 775, 776, 777, 778, 830, 831, 832] (by decide +kernel) (by decide +kernel)
set_option maxRecDepth 20000 in
theorem gL_law_X7_cell : GoodIn wsL_law (wsV RL 125 RX7 yX7_cell wsX7_cell) := goodIn_app (goodIn_of _ (by decide +kernel)) ggL_law_X7_cell
set_option maxRecDepth 20000 in
theorem ggL_law_X8_cell : GoodIn wsL_law wsX8_cell := goodIn_r _ [683, 182, 614, 77, 78, 79, 185, 186, 5, 187, 188, 189, 190, 191, 192, 193, 684, 685, 686, 687, 779, 780, 781, 782, 783, 784, 785, 786, 787, 788, 789, 790, 791, 792, 793, 794, 795, 796, 797, 798, 799, 800, 801, 802, 803, 804, 805, 806, 807, 808, 809, 810] (by decide +kernel) (by decide +kernel)
set_option maxRecDepth 20000 in
theorem gL_law_X8_cell : GoodIn wsL_law (wsV RL 129 RX8 yX8_cell wsX8_cell) := goodIn_app (goodIn_of _ (by decide +kernel)) ggL_law_X8_cell
set_option maxRecDepth 20000 in
theorem ggL_law_X7_copy : GoodIn wsL_law wsX7_copy := goodIn_r _ [691, 33, 29, 692, 693, 694, 695, 696, 697, 101, 102, 2, 103, 104, 105, 106, 649, 115, 116, 31, 117, 71, 122, 123, 124, 125, 662, 119, 120, 121, 72, 772, 773, 774, 775, 776, 777, 778, 830, 831, 832] (by decide +kernel) (by decide +kernel)
set_option maxRecDepth 20000 in
theorem gL_law_X7_copy : GoodIn wsL_law (wsV RL 130 RX7 yX7_copy wsX7_copy) := goodIn_app (goodIn_of _ (by decide +kernel)) ggL_law_X7_copy
set_option maxRecDepth 20000 in
theorem ggL_law_X8_copy : GoodIn wsL_law wsX8_copy := goodIn_r _ [701, 182, 77, 78, 79, 185, 186, 5, 187, 188, 189, 190, 198, 199, 200, 201, 779, 780, 781, 782, 783, 784, 785, 786, 787, 788, 789, 790, 791, 792, 793, 794, 795, 796, 797, 798, 799, 800, 801, 802, 803, 804, 805, 806, 807, 808, 809, 810] (by decide +kernel) (by decide +kernel)
set_option maxRecDepth 20000 in
theorem gL_law_X8_copy : GoodIn wsL_law (wsV RL 133 RX8 yX8_copy wsX8_copy) := goodIn_app (goodIn_of _ (by decide +kernel)) ggL_law_X8_copy
set_option maxRecDepth 20000 in
theorem ggL_law_X7_tell : GoodIn wsL_law wsX7_tell := goodIn_r _ [705, 15, 237, 238, 243, 244, 245, 14, 246, 247, 706, 707, 708, 2, 709, 710, 711, 712, 713, 32, 714, 715, 716, 717, 718, 719, 720, 721, 240, 772, 773, 774, 775, 776, 777, 778, 811, 812, 813, 814, 815, 816, 833, 834, 835, 836] (by decide +kernel) (by decide +kernel)
set_option maxRecDepth 20000 in
theorem gL_law_X7_tell : GoodIn wsL_law (wsV RL 134 RX7 yX7_tell wsX7_tell) := goodIn_app (goodIn_of _ (by decide +kernel)) ggL_law_X7_tell
set_option maxRecDepth 20000 in
theorem ggL_law_X8_tell : GoodIn wsL_law wsX8_tell := goodIn_r _ [725, 83, 81, 264, 265, 266, 5, 267, 184, 726, 727, 728, 729, 730, 779, 780, 781, 782, 783, 784, 785, 786, 787, 788, 789, 790, 791, 792, 793, 794, 795, 796, 797, 798, 799, 800, 801, 802, 803, 804, 805, 806, 807, 808, 809, 810] (by decide +kernel) (by decide +kernel)
set_option maxRecDepth 20000 in
theorem gL_law_X8_tell : GoodIn wsL_law (wsV RL 137 RX8 yX8_tell wsX8_tell) := goodIn_app (goodIn_of _ (by decide +kernel)) ggL_law_X8_tell
set_option maxRecDepth 20000 in
theorem ggL_law_X7_announce : GoodIn wsL_law wsX7_announce := goodIn_r _ [734, 15, 237, 238, 243, 244, 245, 14, 246, 247, 710, 711, 712, 2, 713, 32, 772, 773, 774, 775, 776, 777, 778, 811, 812, 813, 814, 815, 816, 833, 834, 835, 836] (by decide +kernel) (by decide +kernel)
set_option maxRecDepth 20000 in
theorem gL_law_X7_announce : GoodIn wsL_law (wsV RL 138 RX7 yX7_announce wsX7_announce) := goodIn_app (goodIn_of _ (by decide +kernel)) ggL_law_X7_announce
set_option maxRecDepth 20000 in
theorem ggL_law_X8_announce : GoodIn wsL_law wsX8_announce := goodIn_r _ [738, 81, 264, 265, 266, 5, 267, 184, 726, 727, 728, 729, 730, 779, 780, 781, 782, 783, 784, 785, 786, 787, 788, 789, 790, 791, 792, 793, 794, 795, 796, 797, 798, 799, 800, 801, 802, 803, 804, 805, 806, 807, 808, 809, 810] (by decide +kernel) (by decide +kernel)
set_option maxRecDepth 20000 in
theorem gL_law_X8_announce : GoodIn wsL_law (wsV RL 141 RX8 yX8_announce wsX8_announce) := goodIn_app (goodIn_of _ (by decide +kernel)) ggL_law_X8_announce
set_option maxRecDepth 20000 in
theorem ggL_law_X7_as : GoodIn wsL_law wsX7_as := goodIn_r _ [742, 33, 15, 237, 238, 243, 244, 245, 14, 246, 247, 104, 105, 2, 106, 122, 123, 124, 125, 772, 773, 774, 775, 776, 777, 778, 811, 812, 813, 814, 815, 816, 833, 834, 835, 836] (by decide +kernel) (by decide +kernel)
set_option maxRecDepth 20000 in
theorem gL_law_X7_as : GoodIn wsL_law (wsV RL 142 RX7 yX7_as wsX7_as) := goodIn_app (goodIn_of _ (by decide +kernel)) ggL_law_X7_as
set_option maxRecDepth 20000 in
theorem ggL_law_X8_as : GoodIn wsL_law wsX8_as := goodIn_r _ [746, 182, 81, 264, 265, 266, 5, 267, 184, 188, 189, 190, 198, 199, 200, 201, 779, 780, 781, 782, 783, 784, 785, 786, 787, 788, 789, 790, 791, 792, 793, 794, 795, 796, 797, 798, 799, 800, 801, 802, 803, 804, 805, 806, 807, 808, 809, 810] (by decide +kernel) (by decide +kernel)
set_option maxRecDepth 20000 in
theorem gL_law_X8_as : GoodIn wsL_law (wsV RL 145 RX8 yX8_as wsX8_as) := goodIn_app (goodIn_of _ (by decide +kernel)) ggL_law_X8_as
set_option maxRecDepth 20000 in
theorem ggL_law_X7_trace : GoodIn wsL_law wsX7_trace := goodIn_r _ [750, 32, 772, 773, 774, 775, 776, 777, 778] (by decide +kernel) (by decide +kernel)
set_option maxRecDepth 20000 in
theorem gL_law_X7_trace : GoodIn wsL_law (wsV RL 146 RX7 yX7_trace wsX7_trace) := goodIn_app (goodIn_of _ (by decide +kernel)) ggL_law_X7_trace
set_option maxRecDepth 20000 in
theorem ggL_law_X8_trace : GoodIn wsL_law wsX8_trace := goodIn_r _ [754, 730, 779, 780, 781, 782, 783, 784, 785, 786, 787, 788, 789, 790, 791, 792, 793, 794, 795, 796, 797, 798, 799, 800, 801, 802, 803, 804, 805, 806, 807, 808, 809, 810] (by decide +kernel) (by decide +kernel)
set_option maxRecDepth 20000 in
theorem gL_law_X8_trace : GoodIn wsL_law (wsV RL 149 RX8 yX8_trace wsX8_trace) := goodIn_app (goodIn_of _ (by decide +kernel)) ggL_law_X8_trace
set_option maxRecDepth 20000 in
theorem ggL_law_X7_fault : GoodIn wsL_law wsX7_fault := goodIn_r _ [758, 33, 772, 773, 774, 775, 776, 777, 778] (by decide +kernel) (by decide +kernel)
set_option maxRecDepth 20000 in
theorem gL_law_X7_fault : GoodIn wsL_law (wsV RL 150 RX7 yX7_fault wsX7_fault) := goodIn_app (goodIn_of _ (by decide +kernel)) ggL_law_X7_fault
set_option maxRecDepth 20000 in
theorem ggL_law_X8_fault : GoodIn wsL_law wsX8_fault := goodIn_r _ [762, 182, 779, 780, 781, 782, 783, 784, 785, 786, 787, 788, 789, 790, 791, 792, 793, 794, 795, 796, 797, 798, 799, 800, 801, 802, 803, 804, 805, 806, 807, 808, 809, 810] (by decide +kernel) (by decide +kernel)
set_option maxRecDepth 20000 in
theorem gL_law_X8_fault : GoodIn wsL_law (wsV RL 153 RX8 yX8_fault wsX8_fault) := goodIn_app (goodIn_of _ (by decide +kernel)) ggL_law_X8_fault
set_option maxRecDepth 20000 in
theorem ggL_law_X7_many : GoodIn wsL_law wsX7_many := goodIn_r _ [766, 15, 100, 767, 242, 318, 19, 99, 623, 465, 466, 467, 468, 469, 470, 772, 773, 774, 775, 776, 777, 778, 811, 812, 813, 814, 815, 816, 817, 818, 819] (by decide +kernel) (by decide +kernel)
set_option maxRecDepth 20000 in
theorem gL_law_X7_many : GoodIn wsL_law (wsV RL 154 RX7 yX7_many wsX7_many) := goodIn_app (goodIn_of _ (by decide +kernel)) ggL_law_X7_many
set_option maxRecDepth 20000 in
theorem ggL_law_X8_many : GoodIn wsL_law wsX8_many := goodIn_r _ [771, 184, 230, 231, 229, 232, 486, 487, 5, 488, 779, 780, 781, 782, 783, 784, 785, 786, 787, 788, 789, 790, 791, 792, 793, 794, 795, 796, 797, 798, 799, 800, 801, 802, 803, 804, 805, 806, 807, 808, 809, 810] (by decide +kernel) (by decide +kernel)
set_option maxRecDepth 20000 in
theorem gL_law_X8_many : GoodIn wsL_law (wsV RL 157 RX8 yX8_many wsX8_many) := goodIn_app (goodIn_of _ (by decide +kernel)) ggL_law_X8_many
theorem dL_law_0 : decode cL_law 0 = .ok (.new 7, 3) := by decide +kernel
theorem dL_law_3 : decode cL_law 3 = .ok (.dup, 1) := by decide +kernel
theorem dL_law_4 : decode cL_law 4 = .ok (.invokespecial 9, 3) := by decide +kernel
theorem dL_law_7 : decode cL_law 7 = .ok (.astore_n 1, 1) := by decide +kernel
theorem dL_law_8 : decode cL_law 8 = .ok (.new 10, 3) := by decide +kernel
theorem dL_law_11 : decode cL_law 11 = .ok (.dup, 1) := by decide +kernel
theorem dL_law_12 : decode cL_law 12 = .ok (.invokespecial 12, 3) := by decide +kernel
theorem dL_law_15 : decode cL_law 15 = .ok (.astore_n 2, 1) := by decide +kernel
theorem dL_law_16 : decode cL_law 16 = .ok (.iconst 0, 1) := by decide +kernel
theorem dL_law_17 : decode cL_law 17 = .ok (.istore_n 3, 1) := by decide +kernel
theorem dL_law_18 : decode cL_law 18 = .ok (.iload_n 3, 1) := by decide +kernel
theorem dL_law_19 : decode cL_law 19 = .ok (.aload_n 0, 1) := by decide +kernel
theorem dL_law_20 : decode cL_law 20 = .ok (.arraylength, 1) := by decide +kernel
theorem dL_law_21 : decode cL_law 21 = .ok (.bipush 6, 2) := by decide +kernel
theorem dL_law_23 : decode cL_law 23 = .ok (.isub, 1) := by decide +kernel
theorem dL_law_24 : decode cL_law 24 = .ok (.if_icmp .gt 1161, 3) := by decide +kernel
theorem dL_law_27 : decode cL_law 27 = .ok (.aload_n 0, 1) := by decide +kernel
theorem dL_law_28 : decode cL_law 28 = .ok (.iload_n 3, 1) := by decide +kernel
theorem dL_law_29 : decode cL_law 29 = .ok (.iaload, 1) := by decide +kernel
theorem dL_law_30 : decode cL_law 30 = .ok (.bipush 63, 2) := by decide +kernel
theorem dL_law_32 : decode cL_law 32 = .ok (.iand, 1) := by decide +kernel
theorem dL_law_33 : decode cL_law 33 = .ok (.tableswitch 1146 0 33 #[151, 204, 237, 260, 293, 326, 359, 382, 395, 418, 441, 464, 477, 500, 563, 596, 619, 642, 675, 698, 721, 744, 768, 802, 845, 868, 911, 955, 1018, 1041, 1064, 1097, 1110, 1123], 151) := by decide +kernel
theorem dL_law_184 : decode cL_law 184 = .ok (.aload_n 1, 1) := by decide +kernel
theorem dL_law_185 : decode cL_law 185 = .ok (.aload_n 0, 1) := by decide +kernel
theorem dL_law_186 : decode cL_law 186 = .ok (.iload_n 3, 1) := by decide +kernel
theorem dL_law_187 : decode cL_law 187 = .ok (.iconst 1, 1) := by decide +kernel
theorem dL_law_188 : decode cL_law 188 = .ok (.iadd, 1) := by decide +kernel
theorem dL_law_189 : decode cL_law 189 = .ok (.iaload, 1) := by decide +kernel
theorem dL_law_190 : decode cL_law 190 = .ok (.aload_n 0, 1) := by decide +kernel
theorem dL_law_191 : decode cL_law 191 = .ok (.iload_n 3, 1) := by decide +kernel
theorem dL_law_192 : decode cL_law 192 = .ok (.iconst 2, 1) := by decide +kernel
theorem dL_law_193 : decode cL_law 193 = .ok (.iadd, 1) := by decide +kernel
theorem dL_law_194 : decode cL_law 194 = .ok (.iaload, 1) := by decide +kernel
theorem dL_law_195 : decode cL_law 195 = .ok (.aload_n 0, 1) := by decide +kernel
theorem dL_law_196 : decode cL_law 196 = .ok (.iload_n 3, 1) := by decide +kernel
theorem dL_law_197 : decode cL_law 197 = .ok (.iconst 3, 1) := by decide +kernel
theorem dL_law_198 : decode cL_law 198 = .ok (.iadd, 1) := by decide +kernel
theorem dL_law_199 : decode cL_law 199 = .ok (.iaload, 1) := by decide +kernel
theorem dL_law_200 : decode cL_law 200 = .ok (.aload_n 0, 1) := by decide +kernel
theorem dL_law_201 : decode cL_law 201 = .ok (.iload_n 3, 1) := by decide +kernel
theorem dL_law_202 : decode cL_law 202 = .ok (.iconst 4, 1) := by decide +kernel
theorem dL_law_203 : decode cL_law 203 = .ok (.iadd, 1) := by decide +kernel
theorem dL_law_204 : decode cL_law 204 = .ok (.iaload, 1) := by decide +kernel
theorem dL_law_205 : decode cL_law 205 = .ok (.invokevirtual 13, 3) := by decide +kernel
theorem dL_law_208 : decode cL_law 208 = .ok (.aload_n 2, 1) := by decide +kernel
theorem dL_law_209 : decode cL_law 209 = .ok (.aload_n 0, 1) := by decide +kernel
theorem dL_law_210 : decode cL_law 210 = .ok (.iload_n 3, 1) := by decide +kernel
theorem dL_law_211 : decode cL_law 211 = .ok (.iconst 1, 1) := by decide +kernel
theorem dL_law_212 : decode cL_law 212 = .ok (.iadd, 1) := by decide +kernel
theorem dL_law_213 : decode cL_law 213 = .ok (.iaload, 1) := by decide +kernel
theorem dL_law_214 : decode cL_law 214 = .ok (.aload_n 0, 1) := by decide +kernel
theorem dL_law_215 : decode cL_law 215 = .ok (.iload_n 3, 1) := by decide +kernel
theorem dL_law_216 : decode cL_law 216 = .ok (.iconst 2, 1) := by decide +kernel
theorem dL_law_217 : decode cL_law 217 = .ok (.iadd, 1) := by decide +kernel
theorem dL_law_218 : decode cL_law 218 = .ok (.iaload, 1) := by decide +kernel
theorem dL_law_219 : decode cL_law 219 = .ok (.aload_n 0, 1) := by decide +kernel
theorem dL_law_220 : decode cL_law 220 = .ok (.iload_n 3, 1) := by decide +kernel
theorem dL_law_221 : decode cL_law 221 = .ok (.iconst 3, 1) := by decide +kernel
theorem dL_law_222 : decode cL_law 222 = .ok (.iadd, 1) := by decide +kernel
theorem dL_law_223 : decode cL_law 223 = .ok (.iaload, 1) := by decide +kernel
theorem dL_law_224 : decode cL_law 224 = .ok (.aload_n 0, 1) := by decide +kernel
theorem dL_law_225 : decode cL_law 225 = .ok (.iload_n 3, 1) := by decide +kernel
theorem dL_law_226 : decode cL_law 226 = .ok (.iconst 4, 1) := by decide +kernel
theorem dL_law_227 : decode cL_law 227 = .ok (.iadd, 1) := by decide +kernel
theorem dL_law_228 : decode cL_law 228 = .ok (.iaload, 1) := by decide +kernel
theorem dL_law_229 : decode cL_law 229 = .ok (.invokevirtual 17, 3) := by decide +kernel
theorem dL_law_232 : decode cL_law 232 = .ok (.if_icmp .eq 947, 3) := by decide +kernel
theorem dL_law_235 : decode cL_law 235 = .ok (.iconst 0, 1) := by decide +kernel
theorem dL_law_236 : decode cL_law 236 = .ok (.ireturn, 1) := by decide +kernel
theorem dL_law_237 : decode cL_law 237 = .ok (.aload_n 1, 1) := by decide +kernel
theorem dL_law_238 : decode cL_law 238 = .ok (.aload_n 0, 1) := by decide +kernel
theorem dL_law_239 : decode cL_law 239 = .ok (.iload_n 3, 1) := by decide +kernel
theorem dL_law_240 : decode cL_law 240 = .ok (.iconst 1, 1) := by decide +kernel
theorem dL_law_241 : decode cL_law 241 = .ok (.iadd, 1) := by decide +kernel
theorem dL_law_242 : decode cL_law 242 = .ok (.iaload, 1) := by decide +kernel
theorem dL_law_243 : decode cL_law 243 = .ok (.aload_n 0, 1) := by decide +kernel
theorem dL_law_244 : decode cL_law 244 = .ok (.iload_n 3, 1) := by decide +kernel
theorem dL_law_245 : decode cL_law 245 = .ok (.iconst 2, 1) := by decide +kernel
theorem dL_law_246 : decode cL_law 246 = .ok (.iadd, 1) := by decide +kernel
theorem dL_law_247 : decode cL_law 247 = .ok (.iaload, 1) := by decide +kernel
theorem dL_law_248 : decode cL_law 248 = .ok (.invokevirtual 18, 3) := by decide +kernel
theorem dL_law_251 : decode cL_law 251 = .ok (.aload_n 2, 1) := by decide +kernel
theorem dL_law_252 : decode cL_law 252 = .ok (.aload_n 0, 1) := by decide +kernel
theorem dL_law_253 : decode cL_law 253 = .ok (.iload_n 3, 1) := by decide +kernel
theorem dL_law_254 : decode cL_law 254 = .ok (.iconst 1, 1) := by decide +kernel
theorem dL_law_255 : decode cL_law 255 = .ok (.iadd, 1) := by decide +kernel
theorem dL_law_256 : decode cL_law 256 = .ok (.iaload, 1) := by decide +kernel
theorem dL_law_257 : decode cL_law 257 = .ok (.aload_n 0, 1) := by decide +kernel
theorem dL_law_258 : decode cL_law 258 = .ok (.iload_n 3, 1) := by decide +kernel
theorem dL_law_259 : decode cL_law 259 = .ok (.iconst 2, 1) := by decide +kernel
theorem dL_law_260 : decode cL_law 260 = .ok (.iadd, 1) := by decide +kernel
theorem dL_law_261 : decode cL_law 261 = .ok (.iaload, 1) := by decide +kernel
theorem dL_law_262 : decode cL_law 262 = .ok (.invokevirtual 22, 3) := by decide +kernel
theorem dL_law_265 : decode cL_law 265 = .ok (.if_icmp .eq 914, 3) := by decide +kernel
theorem dL_law_268 : decode cL_law 268 = .ok (.iconst 0, 1) := by decide +kernel
theorem dL_law_269 : decode cL_law 269 = .ok (.ireturn, 1) := by decide +kernel
theorem dL_law_270 : decode cL_law 270 = .ok (.aload_n 1, 1) := by decide +kernel
theorem dL_law_271 : decode cL_law 271 = .ok (.aload_n 0, 1) := by decide +kernel
theorem dL_law_272 : decode cL_law 272 = .ok (.iload_n 3, 1) := by decide +kernel
theorem dL_law_273 : decode cL_law 273 = .ok (.iconst 1, 1) := by decide +kernel
theorem dL_law_274 : decode cL_law 274 = .ok (.iadd, 1) := by decide +kernel
theorem dL_law_275 : decode cL_law 275 = .ok (.iaload, 1) := by decide +kernel
theorem dL_law_276 : decode cL_law 276 = .ok (.invokevirtual 23, 3) := by decide +kernel
theorem dL_law_279 : decode cL_law 279 = .ok (.aload_n 2, 1) := by decide +kernel
theorem dL_law_280 : decode cL_law 280 = .ok (.aload_n 0, 1) := by decide +kernel
theorem dL_law_281 : decode cL_law 281 = .ok (.iload_n 3, 1) := by decide +kernel
theorem dL_law_282 : decode cL_law 282 = .ok (.iconst 1, 1) := by decide +kernel
theorem dL_law_283 : decode cL_law 283 = .ok (.iadd, 1) := by decide +kernel
theorem dL_law_284 : decode cL_law 284 = .ok (.iaload, 1) := by decide +kernel
theorem dL_law_285 : decode cL_law 285 = .ok (.invokevirtual 27, 3) := by decide +kernel
theorem dL_law_288 : decode cL_law 288 = .ok (.if_icmp .eq 891, 3) := by decide +kernel
theorem dL_law_291 : decode cL_law 291 = .ok (.iconst 0, 1) := by decide +kernel
theorem dL_law_292 : decode cL_law 292 = .ok (.ireturn, 1) := by decide +kernel
theorem dL_law_293 : decode cL_law 293 = .ok (.aload_n 1, 1) := by decide +kernel
theorem dL_law_294 : decode cL_law 294 = .ok (.aload_n 0, 1) := by decide +kernel
theorem dL_law_295 : decode cL_law 295 = .ok (.iload_n 3, 1) := by decide +kernel
theorem dL_law_296 : decode cL_law 296 = .ok (.iconst 1, 1) := by decide +kernel
theorem dL_law_297 : decode cL_law 297 = .ok (.iadd, 1) := by decide +kernel
theorem dL_law_298 : decode cL_law 298 = .ok (.iaload, 1) := by decide +kernel
theorem dL_law_299 : decode cL_law 299 = .ok (.aload_n 0, 1) := by decide +kernel
theorem dL_law_300 : decode cL_law 300 = .ok (.iload_n 3, 1) := by decide +kernel
theorem dL_law_301 : decode cL_law 301 = .ok (.iconst 2, 1) := by decide +kernel
theorem dL_law_302 : decode cL_law 302 = .ok (.iadd, 1) := by decide +kernel
theorem dL_law_303 : decode cL_law 303 = .ok (.iaload, 1) := by decide +kernel
theorem dL_law_304 : decode cL_law 304 = .ok (.invokevirtual 28, 3) := by decide +kernel
theorem dL_law_307 : decode cL_law 307 = .ok (.aload_n 2, 1) := by decide +kernel
theorem dL_law_308 : decode cL_law 308 = .ok (.aload_n 0, 1) := by decide +kernel
theorem dL_law_309 : decode cL_law 309 = .ok (.iload_n 3, 1) := by decide +kernel
theorem dL_law_310 : decode cL_law 310 = .ok (.iconst 1, 1) := by decide +kernel
theorem dL_law_311 : decode cL_law 311 = .ok (.iadd, 1) := by decide +kernel
theorem dL_law_312 : decode cL_law 312 = .ok (.iaload, 1) := by decide +kernel
theorem dL_law_313 : decode cL_law 313 = .ok (.aload_n 0, 1) := by decide +kernel
theorem dL_law_314 : decode cL_law 314 = .ok (.iload_n 3, 1) := by decide +kernel
theorem dL_law_315 : decode cL_law 315 = .ok (.iconst 2, 1) := by decide +kernel
theorem dL_law_316 : decode cL_law 316 = .ok (.iadd, 1) := by decide +kernel
theorem dL_law_317 : decode cL_law 317 = .ok (.iaload, 1) := by decide +kernel
theorem dL_law_318 : decode cL_law 318 = .ok (.invokevirtual 31, 3) := by decide +kernel
theorem dL_law_321 : decode cL_law 321 = .ok (.if_icmp .eq 858, 3) := by decide +kernel
theorem dL_law_324 : decode cL_law 324 = .ok (.iconst 0, 1) := by decide +kernel
theorem dL_law_325 : decode cL_law 325 = .ok (.ireturn, 1) := by decide +kernel
theorem dL_law_326 : decode cL_law 326 = .ok (.aload_n 1, 1) := by decide +kernel
theorem dL_law_327 : decode cL_law 327 = .ok (.aload_n 0, 1) := by decide +kernel
theorem dL_law_328 : decode cL_law 328 = .ok (.iload_n 3, 1) := by decide +kernel
theorem dL_law_329 : decode cL_law 329 = .ok (.iconst 1, 1) := by decide +kernel
theorem dL_law_330 : decode cL_law 330 = .ok (.iadd, 1) := by decide +kernel
theorem dL_law_331 : decode cL_law 331 = .ok (.iaload, 1) := by decide +kernel
theorem dL_law_332 : decode cL_law 332 = .ok (.aload_n 0, 1) := by decide +kernel
theorem dL_law_333 : decode cL_law 333 = .ok (.iload_n 3, 1) := by decide +kernel
theorem dL_law_334 : decode cL_law 334 = .ok (.iconst 2, 1) := by decide +kernel
theorem dL_law_335 : decode cL_law 335 = .ok (.iadd, 1) := by decide +kernel
theorem dL_law_336 : decode cL_law 336 = .ok (.iaload, 1) := by decide +kernel
theorem dL_law_337 : decode cL_law 337 = .ok (.invokevirtual 32, 3) := by decide +kernel
theorem dL_law_340 : decode cL_law 340 = .ok (.aload_n 2, 1) := by decide +kernel
theorem dL_law_341 : decode cL_law 341 = .ok (.aload_n 0, 1) := by decide +kernel
theorem dL_law_342 : decode cL_law 342 = .ok (.iload_n 3, 1) := by decide +kernel
theorem dL_law_343 : decode cL_law 343 = .ok (.iconst 1, 1) := by decide +kernel
theorem dL_law_344 : decode cL_law 344 = .ok (.iadd, 1) := by decide +kernel
theorem dL_law_345 : decode cL_law 345 = .ok (.iaload, 1) := by decide +kernel
theorem dL_law_346 : decode cL_law 346 = .ok (.aload_n 0, 1) := by decide +kernel
theorem dL_law_347 : decode cL_law 347 = .ok (.iload_n 3, 1) := by decide +kernel
theorem dL_law_348 : decode cL_law 348 = .ok (.iconst 2, 1) := by decide +kernel
theorem dL_law_349 : decode cL_law 349 = .ok (.iadd, 1) := by decide +kernel
theorem dL_law_350 : decode cL_law 350 = .ok (.iaload, 1) := by decide +kernel
theorem dL_law_351 : decode cL_law 351 = .ok (.invokevirtual 35, 3) := by decide +kernel
theorem dL_law_354 : decode cL_law 354 = .ok (.if_icmp .eq 825, 3) := by decide +kernel
theorem dL_law_357 : decode cL_law 357 = .ok (.iconst 0, 1) := by decide +kernel
theorem dL_law_358 : decode cL_law 358 = .ok (.ireturn, 1) := by decide +kernel
theorem dL_law_359 : decode cL_law 359 = .ok (.aload_n 1, 1) := by decide +kernel
theorem dL_law_360 : decode cL_law 360 = .ok (.aload_n 0, 1) := by decide +kernel
theorem dL_law_361 : decode cL_law 361 = .ok (.iload_n 3, 1) := by decide +kernel
theorem dL_law_362 : decode cL_law 362 = .ok (.iconst 1, 1) := by decide +kernel
theorem dL_law_363 : decode cL_law 363 = .ok (.iadd, 1) := by decide +kernel
theorem dL_law_364 : decode cL_law 364 = .ok (.iaload, 1) := by decide +kernel
theorem dL_law_365 : decode cL_law 365 = .ok (.aload_n 0, 1) := by decide +kernel
theorem dL_law_366 : decode cL_law 366 = .ok (.iload_n 3, 1) := by decide +kernel
theorem dL_law_367 : decode cL_law 367 = .ok (.iconst 2, 1) := by decide +kernel
theorem dL_law_368 : decode cL_law 368 = .ok (.iadd, 1) := by decide +kernel
theorem dL_law_369 : decode cL_law 369 = .ok (.iaload, 1) := by decide +kernel
theorem dL_law_370 : decode cL_law 370 = .ok (.invokevirtual 36, 3) := by decide +kernel
theorem dL_law_373 : decode cL_law 373 = .ok (.aload_n 2, 1) := by decide +kernel
theorem dL_law_374 : decode cL_law 374 = .ok (.aload_n 0, 1) := by decide +kernel
theorem dL_law_375 : decode cL_law 375 = .ok (.iload_n 3, 1) := by decide +kernel
theorem dL_law_376 : decode cL_law 376 = .ok (.iconst 1, 1) := by decide +kernel
theorem dL_law_377 : decode cL_law 377 = .ok (.iadd, 1) := by decide +kernel
theorem dL_law_378 : decode cL_law 378 = .ok (.iaload, 1) := by decide +kernel
theorem dL_law_379 : decode cL_law 379 = .ok (.aload_n 0, 1) := by decide +kernel
theorem dL_law_380 : decode cL_law 380 = .ok (.iload_n 3, 1) := by decide +kernel
theorem dL_law_381 : decode cL_law 381 = .ok (.iconst 2, 1) := by decide +kernel
theorem dL_law_382 : decode cL_law 382 = .ok (.iadd, 1) := by decide +kernel
theorem dL_law_383 : decode cL_law 383 = .ok (.iaload, 1) := by decide +kernel
theorem dL_law_384 : decode cL_law 384 = .ok (.invokevirtual 39, 3) := by decide +kernel
theorem dL_law_387 : decode cL_law 387 = .ok (.if_icmp .eq 792, 3) := by decide +kernel
theorem dL_law_390 : decode cL_law 390 = .ok (.iconst 0, 1) := by decide +kernel
theorem dL_law_391 : decode cL_law 391 = .ok (.ireturn, 1) := by decide +kernel
theorem dL_law_392 : decode cL_law 392 = .ok (.aload_n 1, 1) := by decide +kernel
theorem dL_law_393 : decode cL_law 393 = .ok (.aload_n 0, 1) := by decide +kernel
theorem dL_law_394 : decode cL_law 394 = .ok (.iload_n 3, 1) := by decide +kernel
theorem dL_law_395 : decode cL_law 395 = .ok (.iconst 1, 1) := by decide +kernel
theorem dL_law_396 : decode cL_law 396 = .ok (.iadd, 1) := by decide +kernel
theorem dL_law_397 : decode cL_law 397 = .ok (.iaload, 1) := by decide +kernel
theorem dL_law_398 : decode cL_law 398 = .ok (.invokevirtual 40, 3) := by decide +kernel
theorem dL_law_401 : decode cL_law 401 = .ok (.aload_n 2, 1) := by decide +kernel
theorem dL_law_402 : decode cL_law 402 = .ok (.aload_n 0, 1) := by decide +kernel
theorem dL_law_403 : decode cL_law 403 = .ok (.iload_n 3, 1) := by decide +kernel
theorem dL_law_404 : decode cL_law 404 = .ok (.iconst 1, 1) := by decide +kernel
theorem dL_law_405 : decode cL_law 405 = .ok (.iadd, 1) := by decide +kernel
theorem dL_law_406 : decode cL_law 406 = .ok (.iaload, 1) := by decide +kernel
theorem dL_law_407 : decode cL_law 407 = .ok (.invokevirtual 43, 3) := by decide +kernel
theorem dL_law_410 : decode cL_law 410 = .ok (.if_icmp .eq 769, 3) := by decide +kernel
theorem dL_law_413 : decode cL_law 413 = .ok (.iconst 0, 1) := by decide +kernel
theorem dL_law_414 : decode cL_law 414 = .ok (.ireturn, 1) := by decide +kernel
theorem dL_law_415 : decode cL_law 415 = .ok (.aload_n 1, 1) := by decide +kernel
theorem dL_law_416 : decode cL_law 416 = .ok (.invokevirtual 44, 3) := by decide +kernel
theorem dL_law_419 : decode cL_law 419 = .ok (.aload_n 2, 1) := by decide +kernel
theorem dL_law_420 : decode cL_law 420 = .ok (.invokevirtual 48, 3) := by decide +kernel
theorem dL_law_423 : decode cL_law 423 = .ok (.if_icmp .eq 756, 3) := by decide +kernel
theorem dL_law_426 : decode cL_law 426 = .ok (.iconst 0, 1) := by decide +kernel
theorem dL_law_427 : decode cL_law 427 = .ok (.ireturn, 1) := by decide +kernel
theorem dL_law_428 : decode cL_law 428 = .ok (.aload_n 1, 1) := by decide +kernel
theorem dL_law_429 : decode cL_law 429 = .ok (.aload_n 0, 1) := by decide +kernel
theorem dL_law_430 : decode cL_law 430 = .ok (.iload_n 3, 1) := by decide +kernel
theorem dL_law_431 : decode cL_law 431 = .ok (.iconst 1, 1) := by decide +kernel
theorem dL_law_432 : decode cL_law 432 = .ok (.iadd, 1) := by decide +kernel
theorem dL_law_433 : decode cL_law 433 = .ok (.iaload, 1) := by decide +kernel
theorem dL_law_434 : decode cL_law 434 = .ok (.invokevirtual 49, 3) := by decide +kernel
theorem dL_law_437 : decode cL_law 437 = .ok (.aload_n 2, 1) := by decide +kernel
theorem dL_law_438 : decode cL_law 438 = .ok (.aload_n 0, 1) := by decide +kernel
theorem dL_law_439 : decode cL_law 439 = .ok (.iload_n 3, 1) := by decide +kernel
theorem dL_law_440 : decode cL_law 440 = .ok (.iconst 1, 1) := by decide +kernel
theorem dL_law_441 : decode cL_law 441 = .ok (.iadd, 1) := by decide +kernel
theorem dL_law_442 : decode cL_law 442 = .ok (.iaload, 1) := by decide +kernel
theorem dL_law_443 : decode cL_law 443 = .ok (.invokevirtual 52, 3) := by decide +kernel
theorem dL_law_446 : decode cL_law 446 = .ok (.if_icmp .eq 733, 3) := by decide +kernel
theorem dL_law_449 : decode cL_law 449 = .ok (.iconst 0, 1) := by decide +kernel
theorem dL_law_450 : decode cL_law 450 = .ok (.ireturn, 1) := by decide +kernel
theorem dL_law_451 : decode cL_law 451 = .ok (.aload_n 1, 1) := by decide +kernel
theorem dL_law_452 : decode cL_law 452 = .ok (.aload_n 0, 1) := by decide +kernel
theorem dL_law_453 : decode cL_law 453 = .ok (.iload_n 3, 1) := by decide +kernel
theorem dL_law_454 : decode cL_law 454 = .ok (.iconst 1, 1) := by decide +kernel
theorem dL_law_455 : decode cL_law 455 = .ok (.iadd, 1) := by decide +kernel
theorem dL_law_456 : decode cL_law 456 = .ok (.iaload, 1) := by decide +kernel
theorem dL_law_457 : decode cL_law 457 = .ok (.invokevirtual 53, 3) := by decide +kernel
theorem dL_law_460 : decode cL_law 460 = .ok (.aload_n 2, 1) := by decide +kernel
theorem dL_law_461 : decode cL_law 461 = .ok (.aload_n 0, 1) := by decide +kernel
theorem dL_law_462 : decode cL_law 462 = .ok (.iload_n 3, 1) := by decide +kernel
theorem dL_law_463 : decode cL_law 463 = .ok (.iconst 1, 1) := by decide +kernel
theorem dL_law_464 : decode cL_law 464 = .ok (.iadd, 1) := by decide +kernel
theorem dL_law_465 : decode cL_law 465 = .ok (.iaload, 1) := by decide +kernel
theorem dL_law_466 : decode cL_law 466 = .ok (.invokevirtual 56, 3) := by decide +kernel
theorem dL_law_469 : decode cL_law 469 = .ok (.if_icmp .eq 710, 3) := by decide +kernel
theorem dL_law_472 : decode cL_law 472 = .ok (.iconst 0, 1) := by decide +kernel
theorem dL_law_473 : decode cL_law 473 = .ok (.ireturn, 1) := by decide +kernel
theorem dL_law_474 : decode cL_law 474 = .ok (.aload_n 1, 1) := by decide +kernel
theorem dL_law_475 : decode cL_law 475 = .ok (.aload_n 0, 1) := by decide +kernel
theorem dL_law_476 : decode cL_law 476 = .ok (.iload_n 3, 1) := by decide +kernel
theorem dL_law_477 : decode cL_law 477 = .ok (.iconst 1, 1) := by decide +kernel
theorem dL_law_478 : decode cL_law 478 = .ok (.iadd, 1) := by decide +kernel
theorem dL_law_479 : decode cL_law 479 = .ok (.iaload, 1) := by decide +kernel
theorem dL_law_480 : decode cL_law 480 = .ok (.invokevirtual 57, 3) := by decide +kernel
theorem dL_law_483 : decode cL_law 483 = .ok (.aload_n 2, 1) := by decide +kernel
theorem dL_law_484 : decode cL_law 484 = .ok (.aload_n 0, 1) := by decide +kernel
theorem dL_law_485 : decode cL_law 485 = .ok (.iload_n 3, 1) := by decide +kernel
theorem dL_law_486 : decode cL_law 486 = .ok (.iconst 1, 1) := by decide +kernel
theorem dL_law_487 : decode cL_law 487 = .ok (.iadd, 1) := by decide +kernel
theorem dL_law_488 : decode cL_law 488 = .ok (.iaload, 1) := by decide +kernel
theorem dL_law_489 : decode cL_law 489 = .ok (.invokevirtual 60, 3) := by decide +kernel
theorem dL_law_492 : decode cL_law 492 = .ok (.if_icmp .eq 687, 3) := by decide +kernel
theorem dL_law_495 : decode cL_law 495 = .ok (.iconst 0, 1) := by decide +kernel
