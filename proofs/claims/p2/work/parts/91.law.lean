set_option maxRecDepth 20000 in
theorem ggL_law_X10_init : GoodIn wsL_law wsX10_init := goodIn_r _ [8, 9, 10, 11, 12, 13, 14, 15, 16, 17, 18, 19, 20, 21, 22, 23, 24, 25, 26, 27, 28, 29, 30, 31, 32, 33, 34, 35, 36, 37, 38, 39, 40, 41, 42, 43, 44, 45, 46, 47, 48, 49, 50, 51, 52, 53, 54, 55, 56, 57, 58, 59, 60, 61, 62, 63, 64, 65, 66, 67, 68, 69, 70, 71, 72, 73, 74, 75, 76, 77, 78, 79, 80, 81, 82, 83, 84, 85, 86, 87, 88, 89, 90, 91, 92, 93, 94, 95, 96, 97, 98, 99, 100, 101, 102, 103, 104, 105, 106, 795, 796, 797, 798, 799, 800, 801, 802, 803, 804, 843, 844, 845, 846, 847, 848, 849, 850, 851, 852, 853, 854, 855, 856, 857, 858, 859] (by decide +kernel) (by decide +kernel)
set_option maxRecDepth 20000 in
theorem gL_law_X10_init : GoodIn wsL_law (wsX10_init) := ggL_law_X10_init
set_option maxRecDepth 20000 in
theorem ggL_law_X11_init : GoodIn wsL_law wsX11_init := goodIn_r _ [109, 110, 10, 11, 111, 112, 113, 28, 114, 115, 116, 117, 118, 119, 120, 121, 122, 123, 124, 125, 126, 127, 128, 129, 130, 131, 132, 133, 134, 135, 136, 5, 137, 138, 805, 806, 807, 808, 809, 810, 811, 812, 813, 814, 815, 816, 817, 818, 819, 820, 821, 822, 823, 824, 825, 826, 827, 828, 829, 830, 831, 832, 833, 834, 835, 836, 837, 838, 839, 840, 841, 842] (by decide +kernel) (by decide +kernel)
set_option maxRecDepth 20000 in
theorem gL_law_X11_init : GoodIn wsL_law (wsX11_init) := ggL_law_X11_init
set_option maxRecDepth 20000 in
theorem ggL_law_X10_feed : GoodIn wsL_law wsX10_feed := goodIn_r _ [142, 23, 143, 144, 145, 146, 2, 147, 30, 148, 149, 150, 22, 151, 152, 62, 795, 796, 797, 798, 799, 800, 801, 802, 803, 804, 853, 854, 855, 856, 857, 858] (by decide +kernel) (by decide +kernel)
set_option maxRecDepth 20000 in
theorem gL_law_X10_feed : GoodIn wsL_law (wsV RL 13 RX10 yX10_feed wsX10_feed) := goodIn_app (goodIn_of _ (by decide +kernel)) ggL_law_X10_feed
set_option maxRecDepth 20000 in
theorem ggL_law_X11_feed : GoodIn wsL_law wsX11_feed := goodIn_r _ [156, 133, 157, 123, 158, 159, 160, 5, 161, 117, 805, 806, 807, 808, 809, 810, 811, 812, 813, 814, 815, 816, 817, 818, 819, 820, 821, 822, 823, 824, 825, 826, 827, 828, 829, 830, 831, 832, 833, 834, 835, 836, 837, 838, 839, 840, 841, 842] (by decide +kernel) (by decide +kernel)
set_option maxRecDepth 20000 in
theorem gL_law_X11_feed : GoodIn wsL_law (wsV RL 17 RX11 yX11_feed wsX11_feed) := goodIn_app (goodIn_of _ (by decide +kernel)) ggL_law_X11_feed
set_option maxRecDepth 20000 in
theorem ggL_law_X10_row : GoodIn wsL_law wsX10_row := goodIn_r _ [165, 23, 18, 17, 143, 166, 167, 168, 22, 169, 170, 152, 171, 172, 173, 174, 175, 176, 177, 178, 179, 180, 62, 181, 182, 183, 184, 185, 186, 187, 188, 189, 190, 73, 74, 75, 191, 192, 193, 194, 195, 196, 197, 198, 199, 200, 201, 202, 203, 204, 16, 205, 100, 101, 102, 206, 207, 208, 55, 209, 210, 211, 212, 56, 57, 58, 213, 214, 215, 2, 216, 217, 218, 219, 220, 221, 222, 223, 224, 225, 226, 51, 96, 97, 98, 99, 103, 104, 105, 106, 227, 228, 229, 230, 231, 232, 233, 234, 235, 236, 237, 238, 239, 240, 241, 242, 243, 244, 245, 246, 247, 248, 795, 796, 797, 798, 799, 800, 801, 802, 803, 804, 853, 854, 855, 856, 857, 858, 843, 844, 845, 846, 847, 848, 849, 850, 851, 852] (by decide +kernel) (by decide +kernel)
set_option maxRecDepth 20000 in
theorem gL_law_X10_row : GoodIn wsL_law (wsV RL 18 RX10 yX10_row wsX10_row) := goodIn_app (goodIn_of _ (by decide +kernel)) ggL_law_X10_row
set_option maxRecDepth 20000 in
theorem ggL_law_X11_row : GoodIn wsL_law wsX11_row := goodIn_r _ [252, 133, 253, 254, 255, 157, 124, 256, 257, 258, 5, 259, 125, 126, 127, 260, 261, 262, 263, 123, 264, 265, 266, 267, 268, 269, 270, 271, 272, 273, 274, 275, 276, 277, 278, 279, 280, 281, 282, 283, 284, 120, 285, 286, 287, 288, 289, 290, 291, 111, 112, 138, 292, 113, 293, 114, 115, 116, 294, 295, 296, 297, 298, 299, 300, 301, 302, 134, 135, 136, 137, 303, 304, 305, 306, 307, 308, 309, 310, 311, 312, 313, 314, 805, 806, 807, 808, 809, 810, 811, 812, 813, 814, 815, 816, 817, 818, 819, 820, 821, 822, 823, 824, 825, 826, 827, 828, 829, 830, 831, 832, 833, 834, 835, 836, 837, 838, 839, 840, 841, 842] (by decide +kernel) (by decide +kernel)
set_option maxRecDepth 20000 in
theorem gL_law_X11_row : GoodIn wsL_law (wsV RL 22 RX11 yX11_row wsX11_row) := goodIn_app (goodIn_of _ (by decide +kernel)) ggL_law_X11_row
set_option maxRecDepth 20000 in
theorem ggL_law_X10_set : GoodIn wsL_law wsX10_set := goodIn_r _ [318, 144, 145, 146, 2, 147, 30, 319, 320, 321, 322, 17, 226, 227, 228, 229, 323, 324, 325, 326, 51, 795, 796, 797, 798, 799, 800, 801, 802, 803, 804, 843, 844, 845, 846, 847, 848, 849, 850, 851, 852] (by decide +kernel) (by decide +kernel)
set_option maxRecDepth 20000 in
theorem gL_law_X10_set : GoodIn wsL_law (wsV RL 23 RX10 yX10_set wsX10_set) := goodIn_app (goodIn_of _ (by decide +kernel)) ggL_law_X10_set
set_option maxRecDepth 20000 in
theorem ggL_law_X11_set : GoodIn wsL_law wsX11_set := goodIn_r _ [330, 133, 292, 113, 274, 275, 5, 276, 158, 159, 160, 161, 117, 805, 806, 807, 808, 809, 810, 811, 812, 813, 814, 815, 816, 817, 818, 819, 820, 821, 822, 823, 824, 825, 826, 827, 828, 829, 830, 831, 832, 833, 834, 835, 836, 837, 838, 839, 840, 841, 842] (by decide +kernel) (by decide +kernel)
set_option maxRecDepth 20000 in
theorem gL_law_X11_set : GoodIn wsL_law (wsV RL 27 RX11 yX11_set wsX11_set) := goodIn_app (goodIn_of _ (by decide +kernel)) ggL_law_X11_set
set_option maxRecDepth 20000 in
theorem ggL_law_X10_step : GoodIn wsL_law wsX10_step := goodIn_r _ [334, 17, 335, 144, 145, 146, 2, 147, 30, 233, 234, 235, 16, 236, 208, 55, 231, 232, 795, 796, 797, 798, 799, 800, 801, 802, 803, 804, 843, 844, 845, 846, 847, 848, 849, 850, 851, 852] (by decide +kernel) (by decide +kernel)
set_option maxRecDepth 20000 in
theorem gL_law_X10_step : GoodIn wsL_law (wsV RL 28 RX10 yX10_step wsX10_step) := goodIn_app (goodIn_of _ (by decide +kernel)) ggL_law_X10_step
set_option maxRecDepth 20000 in
theorem ggL_law_X11_step : GoodIn wsL_law wsX11_step := goodIn_r _ [339, 133, 293, 114, 158, 159, 160, 5, 161, 117, 805, 806, 807, 808, 809, 810, 811, 812, 813, 814, 815, 816, 817, 818, 819, 820, 821, 822, 823, 824, 825, 826, 827, 828, 829, 830, 831, 832, 833, 834, 835, 836, 837, 838, 839, 840, 841, 842] (by decide +kernel) (by decide +kernel)
set_option maxRecDepth 20000 in
theorem gL_law_X11_step : GoodIn wsL_law (wsV RL 31 RX11 yX11_step wsX11_step) := goodIn_app (goodIn_of _ (by decide +kernel)) ggL_law_X11_step
set_option maxRecDepth 20000 in
theorem ggL_law_X10_swap : GoodIn wsL_law wsX10_swap := goodIn_r _ [343, 17, 344, 242, 243, 16, 244, 100, 144, 145, 146, 2, 147, 30, 237, 238, 239, 240, 102, 56, 241, 245, 246, 247, 248, 101, 795, 796, 797, 798, 799, 800, 801, 802, 803, 804, 843, 844, 845, 846, 847, 848, 849, 850, 851, 852] (by decide +kernel) (by decide +kernel)
set_option maxRecDepth 20000 in
theorem gL_law_X10_swap : GoodIn wsL_law (wsV RL 32 RX10 yX10_swap wsX10_swap) := goodIn_app (goodIn_of _ (by decide +kernel)) ggL_law_X10_swap
set_option maxRecDepth 20000 in
theorem ggL_law_X11_swap : GoodIn wsL_law wsX11_swap := goodIn_r _ [348, 133, 138, 303, 304, 305, 5, 306, 111, 274, 275, 276, 158, 159, 160, 161, 117, 307, 308, 309, 310, 112, 115, 805, 806, 807, 808, 809, 810, 811, 812, 813, 814, 815, 816, 817, 818, 819, 820, 821, 822, 823, 824, 825, 826, 827, 828, 829, 830, 831, 832, 833, 834, 835, 836, 837, 838, 839, 840, 841, 842] (by decide +kernel) (by decide +kernel)
set_option maxRecDepth 20000 in
theorem gL_law_X11_swap : GoodIn wsL_law (wsV RL 35 RX11 yX11_swap wsX11_swap) := goodIn_app (goodIn_of _ (by decide +kernel)) ggL_law_X11_swap
set_option maxRecDepth 20000 in
theorem ggL_law_X10_next : GoodIn wsL_law wsX10_next := goodIn_r _ [352, 17, 226, 353, 354, 355, 356, 2, 357, 13, 227, 228, 229, 358, 359, 360, 361, 32, 362, 363, 364, 365, 366, 50, 367, 368, 369, 35, 370, 371, 372, 73, 74, 75, 373, 374, 375, 16, 376, 101, 56, 377, 378, 379, 380, 38, 381, 382, 383, 384, 44, 385, 386, 387, 388, 389, 390, 795, 796, 797, 798, 799, 800, 801, 802, 803, 804, 843, 844, 845, 846, 847, 848, 849, 850, 851, 852] (by decide +kernel) (by decide +kernel)
set_option maxRecDepth 20000 in
theorem gL_law_X10_next : GoodIn wsL_law (wsV RL 36 RX10 yX10_next wsX10_next) := goodIn_app (goodIn_of _ (by decide +kernel)) ggL_law_X10_next
set_option maxRecDepth 20000 in
theorem ggL_law_X11_next : GoodIn wsL_law wsX11_next := goodIn_r _ [394, 133, 138, 395, 396, 397, 5, 398, 292, 293, 114, 113, 112, 115, 805, 806, 807, 808, 809, 810, 811, 812, 813, 814, 815, 816, 817, 818, 819, 820, 821, 822, 823, 824, 825, 826, 827, 828, 829, 830, 831, 832, 833, 834, 835, 836, 837, 838, 839, 840, 841, 842] (by decide +kernel) (by decide +kernel)
set_option maxRecDepth 20000 in
theorem gL_law_X11_next : GoodIn wsL_law (wsV RL 39 RX11 yX11_next wsX11_next) := goodIn_app (goodIn_of _ (by decide +kernel)) ggL_law_X11_next
set_option maxRecDepth 20000 in
theorem ggL_law_X10_round : GoodIn wsL_law wsX10_round := goodIn_r _ [402, 17, 353, 226, 144, 145, 146, 2, 147, 30, 354, 355, 356, 357, 13, 227, 228, 229, 403, 404, 405, 16, 406, 102, 407, 359, 360, 361, 32, 362, 363, 364, 365, 366, 50, 367, 368, 369, 35, 370, 371, 372, 73, 74, 75, 373, 374, 375, 376, 101, 56, 408, 378, 379, 380, 38, 381, 382, 383, 384, 44, 385, 386, 387, 388, 389, 390, 409, 410, 411, 412, 413, 414, 415, 416, 47, 417, 418, 419, 420, 421, 422, 423, 424, 425, 426, 427, 428, 41, 429, 430, 431, 432, 433, 434, 435, 436, 437, 438, 439, 440, 441, 442, 443, 58, 57, 444, 445, 446, 447, 100, 448, 449, 450, 451, 795, 796, 797, 798, 799, 800, 801, 802, 803, 804, 843, 844, 845, 846, 847, 848, 849, 850, 851, 852] (by decide +kernel) (by decide +kernel)
set_option maxRecDepth 20000 in
theorem gL_law_X10_round : GoodIn wsL_law (wsV RL 40 RX10 yX10_round wsX10_round) := goodIn_app (goodIn_of _ (by decide +kernel)) ggL_law_X10_round
set_option maxRecDepth 20000 in
theorem ggL_law_X11_round : GoodIn wsL_law wsX11_round := goodIn_r _ [455, 133, 138, 158, 159, 160, 5, 161, 117, 456, 457, 458, 459, 292, 395, 396, 397, 398, 293, 114, 113, 112, 115, 460, 461, 462, 463, 118, 116, 805, 806, 807, 808, 809, 810, 811, 812, 813, 814, 815, 816, 817, 818, 819, 820, 821, 822, 823, 824, 825, 826, 827, 828, 829, 830, 831, 832, 833, 834, 835, 836, 837, 838, 839, 840, 841, 842] (by decide +kernel) (by decide +kernel)
set_option maxRecDepth 20000 in
theorem gL_law_X11_round : GoodIn wsL_law (wsV RL 43 RX11 yX11_round wsX11_round) := goodIn_app (goodIn_of _ (by decide +kernel)) ggL_law_X11_round
set_option maxRecDepth 20000 in
theorem ggL_law_X10_left : GoodIn wsL_law wsX10_left := goodIn_r _ [467, 17, 144, 145, 146, 2, 147, 30, 468, 374, 375, 16, 376, 101, 56, 795, 796, 797, 798, 799, 800, 801, 802, 803, 804, 843, 844, 845, 846, 847, 848, 849, 850, 851, 852] (by decide +kernel) (by decide +kernel)
set_option maxRecDepth 20000 in
theorem gL_law_X10_left : GoodIn wsL_law (wsV RL 44 RX10 yX10_left wsX10_left) := goodIn_app (goodIn_of _ (by decide +kernel)) ggL_law_X10_left
set_option maxRecDepth 20000 in
theorem ggL_law_X11_left : GoodIn wsL_law wsX11_left := goodIn_r _ [472, 133, 112, 115, 158, 159, 160, 5, 161, 117, 805, 806, 807, 808, 809, 810, 811, 812, 813, 814, 815, 816, 817, 818, 819, 820, 821, 822, 823, 824, 825, 826, 827, 828, 829, 830, 831, 832, 833, 834, 835, 836, 837, 838, 839, 840, 841, 842] (by decide +kernel) (by decide +kernel)
set_option maxRecDepth 20000 in
theorem gL_law_X11_left : GoodIn wsL_law (wsV RL 47 RX11 yX11_left wsX11_left) := goodIn_app (goodIn_of _ (by decide +kernel)) ggL_law_X11_left
set_option maxRecDepth 20000 in
theorem ggL_law_X10_place : GoodIn wsL_law wsX10_place := goodIn_r _ [476, 17, 344, 242, 243, 16, 244, 100, 144, 145, 146, 2, 147, 30, 477, 246, 247, 248, 101, 56, 795, 796, 797, 798, 799, 800, 801, 802, 803, 804, 843, 844, 845, 846, 847, 848, 849, 850, 851, 852] (by decide +kernel) (by decide +kernel)
set_option maxRecDepth 20000 in
theorem gL_law_X10_place : GoodIn wsL_law (wsV RL 48 RX10 yX10_place wsX10_place) := goodIn_app (goodIn_of _ (by decide +kernel)) ggL_law_X10_place
set_option maxRecDepth 20000 in
theorem ggL_law_X11_place : GoodIn wsL_law wsX11_place := goodIn_r _ [481, 133, 303, 304, 305, 5, 306, 111, 274, 275, 276, 482, 483, 484, 485, 112, 115, 158, 159, 160, 161, 117, 805, 806, 807, 808, 809, 810, 811, 812, 813, 814, 815, 816, 817, 818, 819, 820, 821, 822, 823, 824, 825, 826, 827, 828, 829, 830, 831, 832, 833, 834, 835, 836, 837, 838, 839, 840, 841, 842] (by decide +kernel) (by decide +kernel)
set_option maxRecDepth 20000 in
theorem gL_law_X11_place : GoodIn wsL_law (wsV RL 51 RX11 yX11_place wsX11_place) := goodIn_app (goodIn_of _ (by decide +kernel)) ggL_law_X11_place
set_option maxRecDepth 20000 in
theorem ggL_law_X10_when : GoodIn wsL_law wsX10_when := goodIn_r _ [489, 17, 18, 490, 344, 242, 243, 16, 244, 100, 144, 145, 146, 2, 147, 30, 491, 492, 493, 494, 226, 202, 203, 204, 205, 101, 102, 206, 207, 208, 55, 209, 210, 211, 212, 56, 57, 58, 354, 355, 356, 357, 13, 227, 228, 229, 495, 496, 497, 498, 499, 500, 501, 502, 32, 503, 504, 505, 506, 507, 508, 509, 510, 511, 512, 44, 513, 386, 514, 73, 74, 75, 515, 404, 405, 406, 407, 359, 360, 361, 362, 363, 364, 365, 366, 50, 367, 368, 369, 35, 370, 371, 372, 373, 374, 375, 376, 408, 378, 379, 380, 38, 381, 382, 383, 384, 385, 387, 388, 389, 390, 409, 410, 411, 412, 413, 414, 415, 416, 47, 417, 418, 419, 420, 421, 422, 423, 424, 425, 426, 427, 428, 41, 429, 430, 431, 432, 433, 434, 435, 436, 437, 438, 439, 440, 441, 442, 443, 444, 445, 446, 447, 448, 449, 450, 451, 516, 517, 518, 519, 241, 795, 796, 797, 798, 799, 800, 801, 802, 803, 804, 843, 844, 845, 846, 847, 848, 849, 850, 851, 852] (by decide +kernel) (by decide +kernel)
set_option maxRecDepth 20000 in
theorem gL_law_X10_when : GoodIn wsL_law (wsV RL 52 RX10 yX10_when wsX10_when) := goodIn_app (goodIn_of _ (by decide +kernel)) ggL_law_X10_when
set_option maxRecDepth 20000 in
theorem ggL_law_X11_when : GoodIn wsL_law wsX11_when := goodIn_r _ [523, 133, 116, 122, 303, 304, 305, 5, 306, 111, 274, 275, 276, 158, 159, 160, 161, 117, 524, 525, 526, 527, 112, 528, 121, 115, 529, 119, 281, 282, 283, 284, 120, 285, 286, 287, 288, 289, 290, 291, 138, 292, 113, 293, 114, 294, 295, 296, 297, 530, 531, 532, 533, 118, 456, 457, 458, 459, 395, 396, 397, 398, 460, 461, 462, 463, 311, 312, 313, 314, 534, 535, 536, 537, 805, 806, 807, 808, 809, 810, 811, 812, 813, 814, 815, 816, 817, 818, 819, 820, 821, 822, 823, 824, 825, 826, 827, 828, 829, 830, 831, 832, 833, 834, 835, 836, 837, 838, 839, 840, 841, 842] (by decide +kernel) (by decide +kernel)
set_option maxRecDepth 20000 in
theorem gL_law_X11_when : GoodIn wsL_law (wsV RL 55 RX11 yX11_when wsX11_when) := goodIn_app (goodIn_of _ (by decide +kernel)) ggL_law_X11_when
set_option maxRecDepth 20000 in
theorem ggL_law_X10_behind : GoodIn wsL_law wsX10_behind := goodIn_r _ [541, 17, 18, 226, 344, 242, 243, 16, 244, 100, 144, 145, 146, 2, 147, 30, 202, 203, 204, 205, 101, 102, 206, 207, 208, 55, 209, 210, 211, 212, 56, 57, 58, 354, 355, 356, 357, 13, 227, 228, 229, 403, 404, 405, 406, 407, 359, 360, 361, 32, 362, 363, 364, 365, 366, 50, 367, 368, 369, 35, 370, 371, 372, 73, 74, 75, 373, 374, 375, 376, 408, 378, 379, 380, 38, 381, 382, 383, 384, 44, 385, 386, 387, 388, 389, 390, 409, 410, 411, 412, 413, 414, 415, 416, 47, 417, 418, 419, 420, 421, 422, 423, 424, 425, 426, 427, 428, 41, 429, 430, 431, 432, 433, 434, 435, 436, 437, 438, 439, 440, 441, 442, 443, 444, 445, 446, 447, 448, 449, 450, 451, 477, 246, 247, 248, 795, 796, 797, 798, 799, 800, 801, 802, 803, 804, 843, 844, 845, 846, 847, 848, 849, 850, 851, 852] (by decide +kernel) (by decide +kernel)
set_option maxRecDepth 20000 in
theorem gL_law_X10_behind : GoodIn wsL_law (wsV RL 56 RX10 yX10_behind wsX10_behind) := goodIn_app (goodIn_of _ (by decide +kernel)) ggL_law_X10_behind
set_option maxRecDepth 20000 in
theorem ggL_law_X11_behind : GoodIn wsL_law wsX11_behind := goodIn_r _ [545, 133, 303, 304, 305, 5, 306, 111, 274, 275, 276, 158, 159, 160, 161, 117, 281, 282, 283, 284, 120, 285, 286, 287, 288, 289, 290, 291, 112, 138, 292, 113, 293, 114, 115, 116, 294, 295, 296, 297, 456, 457, 458, 459, 395, 396, 397, 398, 460, 461, 462, 463, 118, 482, 483, 484, 485, 311, 312, 313, 314, 805, 806, 807, 808, 809, 810, 811, 812, 813, 814, 815, 816, 817, 818, 819, 820, 821, 822, 823, 824, 825, 826, 827, 828, 829, 830, 831, 832, 833, 834, 835, 836, 837, 838, 839, 840, 841, 842] (by decide +kernel) (by decide +kernel)
set_option maxRecDepth 20000 in
theorem gL_law_X11_behind : GoodIn wsL_law (wsV RL 59 RX11 yX11_behind wsX11_behind) := goodIn_app (goodIn_of _ (by decide +kernel)) ggL_law_X11_behind
set_option maxRecDepth 20000 in
theorem ggL_law_X10_rounds : GoodIn wsL_law wsX10_rounds := goodIn_r _ [549, 491, 492, 493, 2, 494, 18, 17, 226, 202, 203, 204, 16, 205, 100, 101, 102, 206, 207, 208, 55, 209, 210, 211, 212, 56, 57, 58, 354, 355, 356, 357, 13, 227, 228, 229, 495, 496, 497, 498, 499, 500, 501, 502, 32, 503, 504, 505, 506, 507, 508, 509, 510, 511, 512, 44, 513, 386, 514, 73, 74, 75, 515, 404, 405, 406, 407, 359, 360, 361, 362, 363, 364, 365, 366, 50, 367, 368, 369, 35, 370, 371, 372, 373, 374, 375, 376, 408, 378, 379, 380, 38, 381, 382, 383, 384, 385, 387, 388, 389, 390, 409, 410, 411, 412, 413, 414, 415, 416, 47, 417, 418, 419, 420, 421, 422, 423, 424, 425, 426, 427, 428, 41, 429, 430, 431, 432, 433, 434, 435, 436, 437, 438, 439, 440, 441, 442, 443, 444, 445, 446, 447, 448, 449, 450, 451, 795, 796, 797, 798, 799, 800, 801, 802, 803, 804, 843, 844, 845, 846, 847, 848, 849, 850, 851, 852] (by decide +kernel) (by decide +kernel)
set_option maxRecDepth 20000 in
theorem gL_law_X10_rounds : GoodIn wsL_law (wsV RL 60 RX10 yX10_rounds wsX10_rounds) := goodIn_app (goodIn_of _ (by decide +kernel)) ggL_law_X10_rounds
set_option maxRecDepth 20000 in
theorem ggL_law_X11_rounds : GoodIn wsL_law wsX11_rounds := goodIn_r _ [553, 133, 524, 525, 526, 5, 527, 112, 528, 121, 115, 529, 122, 119, 116, 281, 282, 283, 284, 120, 285, 286, 287, 288, 289, 290, 291, 111, 138, 292, 113, 293, 114, 294, 295, 296, 297, 530, 531, 532, 533, 118, 456, 457, 458, 459, 395, 396, 397, 398, 460, 461, 462, 463, 311, 312, 313, 314, 805, 806, 807, 808, 809, 810, 811, 812, 813, 814, 815, 816, 817, 818, 819, 820, 821, 822, 823, 824, 825, 826, 827, 828, 829, 830, 831, 832, 833, 834, 835, 836, 837, 838, 839, 840, 841, 842] (by decide +kernel) (by decide +kernel)
set_option maxRecDepth 20000 in
theorem gL_law_X11_rounds : GoodIn wsL_law (wsV RL 63 RX11 yX11_rounds wsX11_rounds) := goodIn_app (goodIn_of _ (by decide +kernel)) ggL_law_X11_rounds
set_option maxRecDepth 20000 in
theorem ggL_law_X10_stays : GoodIn wsL_law wsX10_stays := goodIn_r _ [557, 18, 144, 145, 146, 2, 147, 30, 491, 492, 493, 494, 17, 226, 202, 203, 204, 16, 205, 100, 101, 102, 206, 207, 208, 55, 209, 210, 211, 212, 56, 57, 58, 354, 355, 356, 357, 13, 227, 228, 229, 495, 496, 497, 498, 499, 500, 501, 502, 32, 503, 504, 505, 506, 507, 508, 509, 510, 511, 512, 44, 513, 386, 514, 73, 74, 75, 515, 404, 405, 406, 407, 359, 360, 361, 362, 363, 364, 365, 366, 50, 367, 368, 369, 35, 370, 371, 372, 373, 374, 375, 376, 408, 378, 379, 380, 38, 381, 382, 383, 384, 385, 387, 388, 389, 390, 409, 410, 411, 412, 413, 414, 415, 416, 47, 417, 418, 419, 420, 421, 422, 423, 424, 425, 426, 427, 428, 41, 429, 430, 431, 432, 433, 434, 435, 436, 437, 438, 439, 440, 441, 442, 443, 444, 445, 446, 447, 448, 449, 450, 451, 468, 795, 796, 797, 798, 799, 800, 801, 802, 803, 804, 843, 844, 845, 846, 847, 848, 849, 850, 851, 852] (by decide +kernel) (by decide +kernel)
set_option maxRecDepth 20000 in
theorem gL_law_X10_stays : GoodIn wsL_law (wsV RL 64 RX10 yX10_stays wsX10_stays) := goodIn_app (goodIn_of _ (by decide +kernel)) ggL_law_X10_stays
set_option maxRecDepth 20000 in
theorem ggL_law_X11_stays : GoodIn wsL_law wsX11_stays := goodIn_r _ [561, 133, 528, 121, 158, 159, 160, 5, 161, 117, 524, 525, 526, 527, 112, 115, 529, 122, 119, 116, 281, 282, 283, 284, 120, 285, 286, 287, 288, 289, 290, 291, 111, 138, 292, 113, 293, 114, 294, 295, 296, 297, 530, 531, 532, 533, 118, 456, 457, 458, 459, 395, 396, 397, 398, 460, 461, 462, 463, 311, 312, 313, 314, 805, 806, 807, 808, 809, 810, 811, 812, 813, 814, 815, 816, 817, 818, 819, 820, 821, 822, 823, 824, 825, 826, 827, 828, 829, 830, 831, 832, 833, 834, 835, 836, 837, 838, 839, 840, 841, 842] (by decide +kernel) (by decide +kernel)
set_option maxRecDepth 20000 in
theorem gL_law_X11_stays : GoodIn wsL_law (wsV RL 67 RX11 yX11_stays wsX11_stays) := goodIn_app (goodIn_of _ (by decide +kernel)) ggL_law_X11_stays
set_option maxRecDepth 20000 in
theorem ggL_law_X10_goes : GoodIn wsL_law wsX10_goes := goodIn_r _ [565, 17, 566, 18, 567, 144, 145, 146, 2, 147, 30, 491, 492, 493, 494, 226, 202, 203, 204, 16, 205, 100, 101, 102, 206, 207, 208, 55, 209, 210, 211, 212, 56, 57, 58, 354, 355, 356, 357, 13, 227, 228, 229, 495, 496, 497, 498, 499, 500, 501, 502, 32, 503, 504, 505, 506, 507, 508, 509, 510, 511, 512, 44, 513, 386, 514, 73, 74, 75, 515, 404, 405, 406, 407, 359, 360, 361, 362, 363, 364, 365, 366, 50, 367, 368, 369, 35, 370, 371, 372, 373, 374, 375, 376, 408, 378, 379, 380, 38, 381, 382, 383, 384, 385, 387, 388, 389, 390, 409, 410, 411, 412, 413, 414, 415, 416, 47, 417, 418, 419, 420, 421, 422, 423, 424, 425, 426, 427, 428, 41, 429, 430, 431, 432, 433, 434, 435, 436, 437, 438, 439, 440, 441, 442, 443, 444, 445, 446, 447, 448, 449, 450, 451, 568, 795, 796, 797, 798, 799, 800, 801, 802, 803, 804, 843, 844, 845, 846, 847, 848, 849, 850, 851, 852] (by decide +kernel) (by decide +kernel)
set_option maxRecDepth 20000 in
theorem gL_law_X10_goes : GoodIn wsL_law (wsV RL 68 RX10 yX10_goes wsX10_goes) := goodIn_app (goodIn_of _ (by decide +kernel)) ggL_law_X10_goes
set_option maxRecDepth 20000 in
theorem ggL_law_X11_goes : GoodIn wsL_law wsX11_goes := goodIn_r _ [572, 133, 529, 119, 158, 159, 160, 5, 161, 117, 524, 525, 526, 527, 112, 528, 121, 115, 122, 116, 281, 282, 283, 284, 120, 285, 286, 287, 288, 289, 290, 291, 111, 138, 292, 113, 293, 114, 294, 295, 296, 297, 530, 531, 532, 533, 118, 456, 457, 458, 459, 395, 396, 397, 398, 460, 461, 462, 463, 311, 312, 313, 314, 805, 806, 807, 808, 809, 810, 811, 812, 813, 814, 815, 816, 817, 818, 819, 820, 821, 822, 823, 824, 825, 826, 827, 828, 829, 830, 831, 832, 833, 834, 835, 836, 837, 838, 839, 840, 841, 842] (by decide +kernel) (by decide +kernel)
set_option maxRecDepth 20000 in
theorem gL_law_X11_goes : GoodIn wsL_law (wsV RL 71 RX11 yX11_goes wsX11_goes) := goodIn_app (goodIn_of _ (by decide +kernel)) ggL_law_X11_goes
set_option maxRecDepth 20000 in
theorem ggL_law_X10_beside : GoodIn wsL_law wsX10_beside := goodIn_r _ [576, 17, 18, 344, 242, 243, 16, 244, 100, 144, 145, 146, 2, 147, 30, 491, 492, 493, 494, 226, 202, 203, 204, 205, 101, 102, 206, 207, 208, 55, 209, 210, 211, 212, 56, 57, 58, 354, 355, 356, 357, 13, 227, 228, 229, 495, 496, 497, 498, 499, 500, 501, 502, 32, 503, 504, 505, 506, 507, 508, 509, 510, 511, 512, 44, 513, 386, 514, 73, 74, 75, 515, 404, 405, 406, 407, 359, 360, 361, 362, 363, 364, 365, 366, 50, 367, 368, 369, 35, 370, 371, 372, 373, 374, 375, 376, 408, 378, 379, 380, 38, 381, 382, 383, 384, 385, 387, 388, 389, 390, 409, 410, 411, 412, 413, 414, 415, 416, 47, 417, 418, 419, 420, 421, 422, 423, 424, 425, 426, 427, 428, 41, 429, 430, 431, 432, 433, 434, 435, 436, 437, 438, 439, 440, 441, 442, 443, 444, 445, 446, 447, 448, 449, 450, 451, 477, 246, 247, 248, 468, 795, 796, 797, 798, 799, 800, 801, 802, 803, 804, 843, 844, 845, 846, 847, 848, 849, 850, 851, 852] (by decide +kernel) (by decide +kernel)
set_option maxRecDepth 20000 in
theorem gL_law_X10_beside : GoodIn wsL_law (wsV RL 72 RX10 yX10_beside wsX10_beside) := goodIn_app (goodIn_of _ (by decide +kernel)) ggL_law_X10_beside
set_option maxRecDepth 20000 in
theorem ggL_law_X11_beside : GoodIn wsL_law wsX11_beside := goodIn_r _ [580, 133, 528, 121, 303, 304, 305, 5, 306, 111, 274, 275, 276, 158, 159, 160, 161, 117, 524, 525, 526, 527, 112, 115, 529, 122, 119, 116, 281, 282, 283, 284, 120, 285, 286, 287, 288, 289, 290, 291, 138, 292, 113, 293, 114, 294, 295, 296, 297, 530, 531, 532, 533, 118, 456, 457, 458, 459, 395, 396, 397, 398, 460, 461, 462, 463, 311, 312, 313, 314, 805, 806, 807, 808, 809, 810, 811, 812, 813, 814, 815, 816, 817, 818, 819, 820, 821, 822, 823, 824, 825, 826, 827, 828, 829, 830, 831, 832, 833, 834, 835, 836, 837, 838, 839, 840, 841, 842] (by decide +kernel) (by decide +kernel)
set_option maxRecDepth 20000 in
theorem gL_law_X11_beside : GoodIn wsL_law (wsV RL 75 RX11 yX11_beside wsX11_beside) := goodIn_app (goodIn_of _ (by decide +kernel)) ggL_law_X11_beside
set_option maxRecDepth 20000 in
theorem ggL_law_X10_gap : GoodIn wsL_law wsX10_gap := goodIn_r _ [584, 18, 566, 585, 586, 587, 74, 588, 144, 145, 146, 2, 147, 30, 491, 492, 493, 494, 17, 226, 202, 203, 204, 16, 205, 100, 101, 102, 206, 207, 208, 55, 209, 210, 211, 212, 56, 57, 58, 354, 355, 356, 357, 13, 227, 228, 229, 495, 496, 497, 498, 499, 500, 501, 502, 32, 503, 504, 505, 506, 507, 508, 509, 510, 511, 512, 44, 513, 386, 514, 73, 75, 515, 404, 405, 406, 407, 359, 360, 361, 362, 363, 364, 365, 366, 50, 367, 368, 369, 35, 370, 371, 372, 373, 374, 375, 376, 408, 378, 379, 380, 38, 381, 382, 383, 384, 385, 387, 388, 389, 390, 409, 410, 411, 412, 413, 414, 415, 416, 47, 417, 418, 419, 420, 421, 422, 423, 424, 425, 426, 427, 428, 41, 429, 430, 431, 432, 433, 434, 435, 436, 437, 438, 439, 440, 441, 442, 443, 444, 445, 446, 447, 448, 449, 450, 451, 795, 796, 797, 798, 799, 800, 801, 802, 803, 804, 843, 844, 845, 846, 847, 848, 849, 850, 851, 852] (by decide +kernel) (by decide +kernel)
set_option maxRecDepth 20000 in
theorem gL_law_X10_gap : GoodIn wsL_law (wsV RL 76 RX10 yX10_gap wsX10_gap) := goodIn_app (goodIn_of _ (by decide +kernel)) ggL_law_X10_gap
set_option maxRecDepth 20000 in
theorem ggL_law_X11_gap : GoodIn wsL_law wsX11_gap := goodIn_r _ [592, 133, 528, 121, 274, 275, 5, 276, 158, 159, 160, 161, 117, 524, 525, 526, 527, 112, 115, 529, 122, 119, 116, 281, 282, 283, 284, 120, 285, 286, 287, 288, 289, 290, 291, 111, 138, 292, 113, 293, 114, 294, 295, 296, 297, 530, 531, 532, 533, 118, 456, 457, 458, 459, 395, 396, 397, 398, 460, 461, 462, 463, 311, 312, 313, 314, 805, 806, 807, 808, 809, 810, 811, 812, 813, 814, 815, 816, 817, 818, 819, 820, 821, 822, 823, 824, 825, 826, 827, 828, 829, 830, 831, 832, 833, 834, 835, 836, 837, 838, 839, 840, 841, 842] (by decide +kernel) (by decide +kernel)
set_option maxRecDepth 20000 in
theorem gL_law_X11_gap : GoodIn wsL_law (wsV RL 79 RX11 yX11_gap wsX11_gap) := goodIn_app (goodIn_of _ (by decide +kernel)) ggL_law_X11_gap
set_option maxRecDepth 20000 in
theorem ggL_law_X10_near : GoodIn wsL_law wsX10_near := goodIn_r _ [596, 18, 566, 585, 144, 145, 146, 2, 147, 30, 491, 492, 493, 494, 17, 226, 202, 203, 204, 16, 205, 100, 101, 102, 206, 207, 208, 55, 209, 210, 211, 212, 56, 57, 58, 354, 355, 356, 357, 13, 227, 228, 229, 495, 496, 497, 498, 499, 500, 501, 502, 32, 503, 504, 505, 506, 507, 508, 509, 510, 511, 512, 44, 513, 386, 514, 73, 74, 75, 515, 404, 405, 406, 407, 359, 360, 361, 362, 363, 364, 365, 366, 50, 367, 368, 369, 35, 370, 371, 372, 373, 374, 375, 376, 408, 378, 379, 380, 38, 381, 382, 383, 384, 385, 387, 388, 389, 390, 409, 410, 411, 412, 413, 414, 415, 416, 47, 417, 418, 419, 420, 421, 422, 423, 424, 425, 426, 427, 428, 41, 429, 430, 431, 432, 433, 434, 435, 436, 437, 438, 439, 440, 441, 442, 443, 444, 445, 446, 447, 448, 449, 450, 451, 795, 796, 797, 798, 799, 800, 801, 802, 803, 804, 843, 844, 845, 846, 847, 848, 849, 850, 851, 852] (by decide +kernel) (by decide +kernel)
set_option maxRecDepth 20000 in
theorem gL_law_X10_near : GoodIn wsL_law (wsV RL 80 RX10 yX10_near wsX10_near) := goodIn_app (goodIn_of _ (by decide +kernel)) ggL_law_X10_near
set_option maxRecDepth 20000 in
theorem ggL_law_X11_near : GoodIn wsL_law wsX11_near := goodIn_r _ [600, 133, 528, 121, 158, 159, 160, 5, 161, 117, 524, 525, 526, 527, 112, 115, 529, 122, 119, 116, 281, 282, 283, 284, 120, 285, 286, 287, 288, 289, 290, 291, 111, 138, 292, 113, 293, 114, 294, 295, 296, 297, 530, 531, 532, 533, 118, 456, 457, 458, 459, 395, 396, 397, 398, 460, 461, 462, 463, 311, 312, 313, 314, 805, 806, 807, 808, 809, 810, 811, 812, 813, 814, 815, 816, 817, 818, 819, 820, 821, 822, 823, 824, 825, 826, 827, 828, 829, 830, 831, 832, 833, 834, 835, 836, 837, 838, 839, 840, 841, 842] (by decide +kernel) (by decide +kernel)
set_option maxRecDepth 20000 in
theorem gL_law_X11_near : GoodIn wsL_law (wsV RL 83 RX11 yX11_near wsX11_near) := goodIn_app (goodIn_of _ (by decide +kernel)) ggL_law_X11_near
set_option maxRecDepth 20000 in
theorem ggL_law_X10_friends : GoodIn wsL_law wsX10_friends := goodIn_r _ [604, 17, 566, 18, 585, 491, 492, 493, 2, 494, 226, 202, 203, 204, 16, 205, 100, 101, 102, 206, 207, 208, 55, 209, 210, 211, 212, 56, 57, 58, 354, 355, 356, 357, 13, 227, 228, 229, 495, 496, 497, 498, 499, 500, 501, 502, 32, 503, 504, 505, 506, 507, 508, 509, 510, 511, 512, 44, 513, 386, 514, 73, 74, 75, 515, 404, 405, 406, 407, 359, 360, 361, 362, 363, 364, 365, 366, 50, 367, 368, 369, 35, 370, 371, 372, 373, 374, 375, 376, 408, 378, 379, 380, 38, 381, 382, 383, 384, 385, 387, 388, 389, 390, 409, 410, 411, 412, 413, 414, 415, 416, 47, 417, 418, 419, 420, 421, 422, 423, 424, 425, 426, 427, 428, 41, 429, 430, 431, 432, 433, 434, 435, 436, 437, 438, 439, 440, 441, 442, 443, 444, 445, 446, 447, 448, 449, 450, 451, 516, 517, 518, 519, 241, 242, 243, 244, 795, 796, 797, 798, 799, 800, 801, 802, 803, 804, 843, 844, 845, 846, 847, 848, 849, 850, 851, 852] (by decide +kernel) (by decide +kernel)
set_option maxRecDepth 20000 in
theorem gL_law_X10_friends : GoodIn wsL_law (wsV RL 84 RX10 yX10_friends wsX10_friends) := goodIn_app (goodIn_of _ (by decide +kernel)) ggL_law_X10_friends
set_option maxRecDepth 20000 in
theorem ggL_law_X11_friends : GoodIn wsL_law wsX11_friends := goodIn_r _ [608, 133, 112, 115, 524, 525, 526, 5, 527, 528, 121, 529, 122, 119, 116, 281, 282, 283, 284, 120, 285, 286, 287, 288, 289, 290, 291, 111, 138, 292, 113, 293, 114, 294, 295, 296, 297, 530, 531, 532, 533, 118, 456, 457, 458, 459, 395, 396, 397, 398, 460, 461, 462, 463, 311, 312, 313, 314, 534, 535, 536, 537, 805, 806, 807, 808, 809, 810, 811, 812, 813, 814, 815, 816, 817, 818, 819, 820, 821, 822, 823, 824, 825, 826, 827, 828, 829, 830, 831, 832, 833, 834, 835, 836, 837, 838, 839, 840, 841, 842] (by decide +kernel) (by decide +kernel)
set_option maxRecDepth 20000 in
theorem gL_law_X11_friends : GoodIn wsL_law (wsV RL 87 RX11 yX11_friends wsX11_friends) := goodIn_app (goodIn_of _ (by decide +kernel)) ggL_law_X11_friends
set_option maxRecDepth 20000 in
theorem ggL_law_X10_byOther : GoodIn wsL_law wsX10_byOther := goodIn_r _ [612, 18, 17, 566, 227, 228, 2, 229, 144, 145, 146, 147, 30, 202, 203, 204, 16, 205, 100, 101, 102, 206, 207, 208, 55, 209, 210, 211, 212, 56, 57, 58, 354, 355, 356, 357, 13, 495, 496, 497, 498, 499, 500, 501, 502, 32, 503, 504, 505, 506, 507, 508, 509, 510, 511, 512, 44, 513, 386, 514, 73, 74, 75, 515, 404, 405, 406, 407, 359, 360, 361, 362, 363, 364, 365, 366, 50, 367, 368, 369, 35, 370, 371, 372, 373, 374, 375, 376, 408, 378, 379, 380, 38, 381, 382, 383, 384, 385, 387, 388, 389, 390, 409, 410, 411, 412, 413, 414, 415, 416, 47, 417, 418, 419, 420, 421, 422, 423, 424, 425, 426, 427, 428, 41, 429, 430, 431, 432, 433, 434, 435, 436, 437, 438, 439, 440, 441, 442, 443, 444, 445, 446, 447, 448, 449, 450, 451, 795, 796, 797, 798, 799, 800, 801, 802, 803, 804, 843, 844, 845, 846, 847, 848, 849, 850, 851, 852] (by decide +kernel) (by decide +kernel)
set_option maxRecDepth 20000 in
theorem gL_law_X10_byOther : GoodIn wsL_law (wsV RL 88 RX10 yX10_byOther wsX10_byOther) := goodIn_app (goodIn_of _ (by decide +kernel)) ggL_law_X10_byOther
set_option maxRecDepth 20000 in
theorem ggL_law_X11_byOther : GoodIn wsL_law wsX11_byOther := goodIn_r _ [616, 133, 617, 292, 528, 274, 275, 5, 276, 158, 159, 160, 161, 117, 524, 525, 526, 527, 112, 121, 115, 529, 122, 119, 116, 281, 282, 283, 284, 120, 285, 286, 287, 288, 289, 290, 291, 111, 138, 113, 293, 114, 294, 295, 296, 297, 530, 531, 532, 533, 118, 456, 457, 458, 459, 395, 396, 397, 398, 460, 461, 462, 463, 311, 312, 313, 314, 805, 806, 807, 808, 809, 810, 811, 812, 813, 814, 815, 816, 817, 818, 819, 820, 821, 822, 823, 824, 825, 826, 827, 828, 829, 830, 831, 832, 833, 834, 835, 836, 837, 838, 839, 840, 841, 842] (by decide +kernel) (by decide +kernel)
set_option maxRecDepth 20000 in
theorem gL_law_X11_byOther : GoodIn wsL_law (wsV RL 91 RX11 yX11_byOther wsX11_byOther) := goodIn_app (goodIn_of _ (by decide +kernel)) ggL_law_X11_byOther
set_option maxRecDepth 20000 in
theorem ggL_law_X10_endless : GoodIn wsL_law wsX10_endless := goodIn_r _ [621, 27, 17, 51, 144, 145, 146, 2, 147, 30, 622, 623, 624, 26, 625, 68, 69, 70, 71, 72, 73, 74, 75, 76, 77, 78, 79, 67, 80, 795, 796, 797, 798, 799, 800, 801, 802, 803, 804, 843, 844, 845, 846, 847, 848, 849, 850, 851, 852, 859] (by decide +kernel) (by decide +kernel)
set_option maxRecDepth 20000 in
theorem gL_law_X10_endless : GoodIn wsL_law (wsV RL 92 RX10 yX10_endless wsX10_endless) := goodIn_app (goodIn_of _ (by decide +kernel)) ggL_law_X10_endless
set_option maxRecDepth 20000 in
theorem ggL_law_X11_endless : GoodIn wsL_law wsX11_endless := goodIn_r _ [629, 133, 113, 128, 630, 631, 5, 632, 633, 274, 275, 276, 158, 159, 160, 161, 117, 634, 635, 636, 637, 638, 129, 805, 806, 807, 808, 809, 810, 811, 812, 813, 814, 815, 816, 817, 818, 819, 820, 821, 822, 823, 824, 825, 826, 827, 828, 829, 830, 831, 832, 833, 834, 835, 836, 837, 838, 839, 840, 841, 842] (by decide +kernel) (by decide +kernel)
set_option maxRecDepth 20000 in
theorem gL_law_X11_endless : GoodIn wsL_law (wsV RL 95 RX11 yX11_endless wsX11_endless) := goodIn_app (goodIn_of _ (by decide +kernel)) ggL_law_X11_endless
set_option maxRecDepth 20000 in
theorem ggL_law_X10_endlessWhen : GoodIn wsL_law wsX10_endlessWhen := goodIn_r _ [642, 27, 17, 51, 144, 145, 146, 2, 147, 30, 643, 644, 645, 26, 646, 76, 77, 78, 79, 67, 80, 795, 796, 797, 798, 799, 800, 801, 802, 803, 804, 843, 844, 845, 846, 847, 848, 849, 850, 851, 852, 859] (by decide +kernel) (by decide +kernel)
set_option maxRecDepth 20000 in
theorem gL_law_X10_endlessWhen : GoodIn wsL_law (wsV RL 96 RX10 yX10_endlessWhen wsX10_endlessWhen) := goodIn_app (goodIn_of _ (by decide +kernel)) ggL_law_X10_endlessWhen
set_option maxRecDepth 20000 in
theorem ggL_law_X11_endlessWhen : GoodIn wsL_law wsX11_endlessWhen := goodIn_r _ [650, 133, 129, 113, 630, 631, 5, 632, 633, 274, 275, 276, 158, 159, 160, 161, 117, 634, 635, 636, 637, 638, 128, 805, 806, 807, 808, 809, 810, 811, 812, 813, 814, 815, 816, 817, 818, 819, 820, 821, 822, 823, 824, 825, 826, 827, 828, 829, 830, 831, 832, 833, 834, 835, 836, 837, 838, 839, 840, 841, 842] (by decide +kernel) (by decide +kernel)
set_option maxRecDepth 20000 in
theorem gL_law_X11_endlessWhen : GoodIn wsL_law (wsV RL 99 RX11 yX11_endlessWhen wsX11_endlessWhen) := goodIn_app (goodIn_of _ (by decide +kernel)) ggL_law_X11_endlessWhen
set_option maxRecDepth 20000 in
theorem ggL_law_X10_powers : GoodIn wsL_law wsX10_powers := goodIn_r _ [654, 144, 145, 146, 2, 147, 30, 795, 796, 797, 798, 799, 800, 801, 802, 803, 804] (by decide +kernel) (by decide +kernel)
set_option maxRecDepth 20000 in
theorem gL_law_X10_powers : GoodIn wsL_law (wsV RL 100 RX10 yX10_powers wsX10_powers) := goodIn_app (goodIn_of _ (by decide +kernel)) ggL_law_X10_powers
set_option maxRecDepth 20000 in
theorem ggL_law_X11_powers : GoodIn wsL_law wsX11_powers := goodIn_r _ [658, 133, 130, 158, 159, 160, 5, 161, 117, 805, 806, 807, 808, 809, 810, 811, 812, 813, 814, 815, 816, 817, 818, 819, 820, 821, 822, 823, 824, 825, 826, 827, 828, 829, 830, 831, 832, 833, 834, 835, 836, 837, 838, 839, 840, 841, 842] (by decide +kernel) (by decide +kernel)
set_option maxRecDepth 20000 in
theorem gL_law_X11_powers : GoodIn wsL_law (wsV RL 103 RX11 yX11_powers wsX11_powers) := goodIn_app (goodIn_of _ (by decide +kernel)) ggL_law_X11_powers
set_option maxRecDepth 20000 in
theorem ggL_law_X10_throwsBy : GoodIn wsL_law wsX10_throwsBy := goodIn_r _ [662, 17, 226, 663, 664, 665, 2, 666, 667, 144, 145, 146, 147, 30, 668, 669, 670, 671, 353, 354, 355, 356, 357, 13, 227, 228, 229, 358, 359, 360, 361, 32, 362, 363, 364, 365, 366, 50, 367, 368, 369, 35, 370, 371, 372, 73, 74, 75, 373, 374, 375, 16, 376, 101, 56, 377, 378, 379, 380, 38, 381, 382, 383, 384, 44, 385, 386, 387, 388, 389, 390, 672, 673, 674, 675, 676, 677, 678, 679, 680, 795, 796, 797, 798, 799, 800, 801, 802, 803, 804, 843, 844, 845, 846, 847, 848, 849, 850, 851, 852] (by decide +kernel) (by decide +kernel)
set_option maxRecDepth 20000 in
theorem gL_law_X10_throwsBy : GoodIn wsL_law (wsV RL 104 RX10 yX10_throwsBy wsX10_throwsBy) := goodIn_app (goodIn_of _ (by decide +kernel)) ggL_law_X10_throwsBy
set_option maxRecDepth 20000 in
theorem ggL_law_X11_throwsBy : GoodIn wsL_law wsX11_throwsBy := goodIn_r _ [684, 133, 292, 685, 138, 274, 275, 5, 276, 158, 159, 160, 161, 117, 395, 396, 397, 398, 293, 114, 113, 112, 115, 805, 806, 807, 808, 809, 810, 811, 812, 813, 814, 815, 816, 817, 818, 819, 820, 821, 822, 823, 824, 825, 826, 827, 828, 829, 830, 831, 832, 833, 834, 835, 836, 837, 838, 839, 840, 841, 842] (by decide +kernel) (by decide +kernel)
set_option maxRecDepth 20000 in
theorem gL_law_X11_throwsBy : GoodIn wsL_law (wsV RL 108 RX11 yX11_throwsBy wsX11_throwsBy) := goodIn_app (goodIn_of _ (by decide +kernel)) ggL_law_X11_throwsBy
set_option maxRecDepth 20000 in
theorem ggL_law_X10_tell : GoodIn wsL_law wsX10_tell := goodIn_r _ [689, 690, 29, 144, 145, 146, 2, 147, 30, 795, 796, 797, 798, 799, 800, 801, 802, 803, 804] (by decide +kernel) (by decide +kernel)
set_option maxRecDepth 20000 in
theorem gL_law_X10_tell : GoodIn wsL_law (wsV RL 109 RX10 yX10_tell wsX10_tell) := goodIn_app (goodIn_of _ (by decide +kernel)) ggL_law_X10_tell
set_option maxRecDepth 20000 in
theorem ggL_law_X11_tell : GoodIn wsL_law wsX11_tell := goodIn_r _ [694, 133, 695, 131, 158, 159, 160, 5, 161, 117, 805, 806, 807, 808, 809, 810, 811, 812, 813, 814, 815, 816, 817, 818, 819, 820, 821, 822, 823, 824, 825, 826, 827, 828, 829, 830, 831, 832, 833, 834, 835, 836, 837, 838, 839, 840, 841, 842] (by decide +kernel) (by decide +kernel)
set_option maxRecDepth 20000 in
theorem gL_law_X11_tell : GoodIn wsL_law (wsV RL 112 RX11 yX11_tell wsX11_tell) := goodIn_app (goodIn_of _ (by decide +kernel)) ggL_law_X11_tell
set_option maxRecDepth 20000 in
theorem ggL_law_X10_judge : GoodIn wsL_law wsX10_judge := goodIn_r _ [699, 690, 17, 566, 700, 701, 74, 702, 29, 585, 795, 796, 797, 798, 799, 800, 801, 802, 803, 804, 843, 844, 845, 846, 847, 848, 849, 850, 851, 852] (by decide +kernel) (by decide +kernel)
set_option maxRecDepth 20000 in
theorem gL_law_X10_judge : GoodIn wsL_law (wsV RL 113 RX10 yX10_judge wsX10_judge) := goodIn_app (goodIn_of _ (by decide +kernel)) ggL_law_X10_judge
set_option maxRecDepth 20000 in
theorem ggL_law_X11_judge : GoodIn wsL_law wsX11_judge := goodIn_r _ [706, 133, 695, 112, 131, 115, 805, 806, 807, 808, 809, 810, 811, 812, 813, 814, 815, 816, 817, 818, 819, 820, 821, 822, 823, 824, 825, 826, 827, 828, 829, 830, 831, 832, 833, 834, 835, 836, 837, 838, 839, 840, 841, 842] (by decide +kernel) (by decide +kernel)
set_option maxRecDepth 20000 in
theorem gL_law_X11_judge : GoodIn wsL_law (wsV RL 116 RX11 yX11_judge wsX11_judge) := goodIn_app (goodIn_of _ (by decide +kernel)) ggL_law_X11_judge
set_option maxRecDepth 20000 in
theorem ggL_law_X10_find : GoodIn wsL_law wsX10_find := goodIn_r _ [710, 18, 17, 202, 203, 204, 16, 205, 100, 101, 102, 206, 207, 208, 55, 209, 210, 211, 212, 56, 57, 58, 711, 712, 713, 2, 714, 51, 715, 716, 717, 718, 719, 96, 97, 98, 99, 103, 104, 105, 106, 237, 238, 239, 240, 241, 242, 243, 244, 245, 246, 247, 248, 354, 355, 356, 357, 13, 227, 228, 229, 495, 496, 497, 498, 499, 500, 501, 502, 32, 503, 504, 505, 506, 507, 508, 509, 510, 511, 512, 44, 513, 386, 514, 73, 74, 75, 515, 404, 405, 406, 407, 359, 360, 361, 362, 363, 364, 365, 366, 50, 367, 368, 369, 35, 370, 371, 372, 373, 374, 375, 376, 408, 378, 379, 380, 38, 381, 382, 383, 384, 385, 387, 388, 389, 390, 409, 410, 411, 412, 413, 414, 415, 416, 47, 417, 418, 419, 420, 421, 422, 423, 424, 425, 426, 427, 428, 41, 429, 430, 431, 432, 433, 434, 435, 436, 437, 438, 439, 440, 441, 442, 443, 444, 445, 446, 447, 448, 449, 450, 451, 720, 721, 722, 723, 566, 690, 585, 29, 795, 796, 797, 798, 799, 800, 801, 802, 803, 804, 843, 844, 845, 846, 847, 848, 849, 850, 851, 852] (by decide +kernel) (by decide +kernel)
set_option maxRecDepth 20000 in
theorem gL_law_X10_find : GoodIn wsL_law (wsV RL 117 RX10 yX10_find wsX10_find) := goodIn_app (goodIn_of _ (by decide +kernel)) ggL_law_X10_find
set_option maxRecDepth 20000 in
theorem ggL_law_X11_find : GoodIn wsL_law wsX11_find := goodIn_r _ [727, 133, 111, 292, 113, 281, 282, 283, 5, 284, 120, 285, 286, 287, 288, 289, 290, 291, 112, 138, 293, 114, 115, 116, 294, 295, 296, 297, 134, 135, 136, 137, 728, 729, 730, 731, 695, 131, 530, 531, 532, 533, 529, 119, 118, 456, 457, 458, 459, 395, 396, 397, 398, 460, 461, 462, 463, 311, 312, 313, 314, 805, 806, 807, 808, 809, 810, 811, 812, 813, 814, 815, 816, 817, 818, 819, 820, 821, 822, 823, 824, 825, 826, 827, 828, 829, 830, 831, 832, 833, 834, 835, 836, 837, 838, 839, 840, 841, 842] (by decide +kernel) (by decide +kernel)
set_option maxRecDepth 20000 in
theorem gL_law_X11_find : GoodIn wsL_law (wsV RL 120 RX11 yX11_find wsX11_find) := goodIn_app (goodIn_of _ (by decide +kernel)) ggL_law_X11_find
set_option maxRecDepth 20000 in
theorem ggL_law_X10_seen : GoodIn wsL_law wsX10_seen := goodIn_r _ [735, 17, 719, 18, 226, 144, 145, 146, 2, 147, 30, 202, 203, 204, 16, 205, 100, 101, 102, 206, 207, 208, 55, 209, 210, 211, 212, 56, 57, 58, 715, 716, 717, 718, 96, 97, 98, 99, 103, 104, 105, 106, 237, 238, 239, 240, 241, 242, 243, 244, 245, 246, 247, 248, 354, 355, 356, 357, 13, 227, 228, 229, 495, 496, 497, 498, 499, 500, 501, 502, 32, 503, 504, 505, 506, 507, 508, 509, 510, 511, 512, 44, 513, 386, 514, 73, 74, 75, 515, 404, 405, 406, 407, 359, 360, 361, 362, 363, 364, 365, 366, 50, 367, 368, 369, 35, 370, 371, 372, 373, 374, 375, 376, 408, 378, 379, 380, 38, 381, 382, 383, 384, 385, 387, 388, 389, 390, 409, 410, 411, 412, 413, 414, 415, 416, 47, 417, 418, 419, 420, 421, 422, 423, 424, 425, 426, 427, 428, 41, 429, 430, 431, 432, 433, 434, 435, 436, 437, 438, 439, 440, 441, 442, 443, 444, 445, 446, 447, 448, 449, 450, 451, 736, 737, 738, 739, 720, 721, 722, 723, 566, 690, 585, 29, 795, 796, 797, 798, 799, 800, 801, 802, 803, 804, 843, 844, 845, 846, 847, 848, 849, 850, 851, 852] (by decide +kernel) (by decide +kernel)
set_option maxRecDepth 20000 in
theorem gL_law_X10_seen : GoodIn wsL_law (wsV RL 121 RX10 yX10_seen wsX10_seen) := goodIn_app (goodIn_of _ (by decide +kernel)) ggL_law_X10_seen
set_option maxRecDepth 20000 in
theorem ggL_law_X11_seen : GoodIn wsL_law wsX11_seen := goodIn_r _ [743, 133, 111, 115, 274, 275, 5, 276, 158, 159, 160, 161, 117, 281, 282, 283, 284, 120, 285, 286, 287, 288, 289, 290, 291, 112, 138, 292, 113, 293, 114, 116, 294, 295, 296, 297, 134, 135, 136, 137, 728, 729, 730, 731, 695, 131, 530, 531, 532, 533, 529, 119, 118, 456, 457, 458, 459, 395, 396, 397, 398, 460, 461, 462, 463, 311, 312, 313, 314, 805, 806, 807, 808, 809, 810, 811, 812, 813, 814, 815, 816, 817, 818, 819, 820, 821, 822, 823, 824, 825, 826, 827, 828, 829, 830, 831, 832, 833, 834, 835, 836, 837, 838, 839, 840, 841, 842] (by decide +kernel) (by decide +kernel)
set_option maxRecDepth 20000 in
theorem gL_law_X11_seen : GoodIn wsL_law (wsV RL 124 RX11 yX11_seen wsX11_seen) := goodIn_app (goodIn_of _ (by decide +kernel)) ggL_law_X11_seen
set_option maxRecDepth 20000 in
theorem ggL_law_X10_clear : GoodIn wsL_law wsX10_clear := goodIn_r _ [747, 690, 795, 796, 797, 798, 799, 800, 801, 802, 803, 804] (by decide +kernel) (by decide +kernel)
set_option maxRecDepth 20000 in
theorem gL_law_X10_clear : GoodIn wsL_law (wsV RL 125 RX10 yX10_clear wsX10_clear) := goodIn_app (goodIn_of _ (by decide +kernel)) ggL_law_X10_clear
set_option maxRecDepth 20000 in
theorem ggL_law_X11_clear : GoodIn wsL_law wsX11_clear := goodIn_r _ [751, 133, 695, 805, 806, 807, 808, 809, 810, 811, 812, 813, 814, 815, 816, 817, 818, 819, 820, 821, 822, 823, 824, 825, 826, 827, 828, 829, 830, 831, 832, 833, 834, 835, 836, 837, 838, 839, 840, 841, 842] (by decide +kernel) (by decide +kernel)
set_option maxRecDepth 20000 in
theorem gL_law_X11_clear : GoodIn wsL_law (wsV RL 128 RX11 yX11_clear wsX11_clear) := goodIn_app (goodIn_of _ (by decide +kernel)) ggL_law_X11_clear
set_option maxRecDepth 20000 in
theorem ggL_law_X10_seeds : GoodIn wsL_law wsX10_seeds := goodIn_r _ [755, 18, 17, 756, 757, 758, 566, 144, 145, 146, 2, 147, 30, 202, 203, 204, 16, 205, 100, 101, 102, 206, 207, 208, 55, 209, 210, 211, 212, 56, 57, 58, 759, 440, 441, 442, 443, 73, 74, 75, 444, 445, 446, 447, 448, 449, 450, 451, 795, 796, 797, 798, 799, 800, 801, 802, 803, 804, 843, 844, 845, 846, 847, 848, 849, 850, 851, 852] (by decide +kernel) (by decide +kernel)
set_option maxRecDepth 20000 in
theorem gL_law_X10_seeds : GoodIn wsL_law (wsV RL 129 RX10 yX10_seeds wsX10_seeds) := goodIn_app (goodIn_of _ (by decide +kernel)) ggL_law_X10_seeds
set_option maxRecDepth 20000 in
theorem ggL_law_X11_seeds : GoodIn wsL_law wsX11_seeds := goodIn_r _ [763, 133, 764, 765, 766, 112, 158, 159, 160, 5, 161, 117, 281, 282, 283, 284, 120, 285, 286, 287, 288, 289, 290, 291, 111, 138, 292, 113, 293, 114, 115, 116, 294, 295, 296, 297, 460, 461, 462, 463, 118, 311, 312, 313, 314, 805, 806, 807, 808, 809, 810, 811, 812, 813, 814, 815, 816, 817, 818, 819, 820, 821, 822, 823, 824, 825, 826, 827, 828, 829, 830, 831, 832, 833, 834, 835, 836, 837, 838, 839, 840, 841, 842] (by decide +kernel) (by decide +kernel)
set_option maxRecDepth 20000 in
theorem gL_law_X11_seeds : GoodIn wsL_law (wsV RL 132 RX11 yX11_seeds wsX11_seeds) := goodIn_app (goodIn_of _ (by decide +kernel)) ggL_law_X11_seeds
set_option maxRecDepth 20000 in
theorem ggL_law_X10_image : GoodIn wsL_law wsX10_image := goodIn_r _ [770, 19, 17, 771, 566, 202, 203, 204, 16, 205, 100, 101, 102, 206, 207, 208, 55, 209, 210, 211, 212, 56, 57, 58, 795, 796, 797, 798, 799, 800, 801, 802, 803, 804, 843, 844, 845, 846, 847, 848, 849, 850, 851, 852] (by decide +kernel) (by decide +kernel)
set_option maxRecDepth 20000 in
theorem gL_law_X10_image : GoodIn wsL_law (wsV RL 133 RX10 yX10_image wsX10_image) := goodIn_app (goodIn_of _ (by decide +kernel)) ggL_law_X10_image
set_option maxRecDepth 20000 in
theorem ggL_law_X11_image : GoodIn wsL_law wsX11_image := goodIn_r _ [775, 133, 776, 132, 112, 285, 286, 287, 5, 288, 289, 290, 291, 111, 138, 292, 113, 293, 114, 115, 116, 294, 295, 296, 297, 805, 806, 807, 808, 809, 810, 811, 812, 813, 814, 815, 816, 817, 818, 819, 820, 821, 822, 823, 824, 825, 826, 827, 828, 829, 830, 831, 832, 833, 834, 835, 836, 837, 838, 839, 840, 841, 842] (by decide +kernel) (by decide +kernel)
set_option maxRecDepth 20000 in
theorem gL_law_X11_image : GoodIn wsL_law (wsV RL 136 RX11 yX11_image wsX11_image) := goodIn_app (goodIn_of _ (by decide +kernel)) ggL_law_X11_image
set_option maxRecDepth 20000 in
theorem ggL_law_X10_restore : GoodIn wsL_law wsX10_restore := goodIn_r _ [780, 771, 17, 19, 566, 144, 145, 146, 2, 147, 30, 202, 203, 204, 16, 205, 100, 101, 102, 206, 207, 208, 55, 209, 210, 211, 212, 56, 57, 58, 795, 796, 797, 798, 799, 800, 801, 802, 803, 804, 843, 844, 845, 846, 847, 848, 849, 850, 851, 852] (by decide +kernel) (by decide +kernel)
set_option maxRecDepth 20000 in
theorem gL_law_X10_restore : GoodIn wsL_law (wsV RL 137 RX10 yX10_restore wsX10_restore) := goodIn_app (goodIn_of _ (by decide +kernel)) ggL_law_X10_restore
set_option maxRecDepth 20000 in
theorem ggL_law_X11_restore : GoodIn wsL_law wsX11_restore := goodIn_r _ [784, 133, 776, 132, 112, 158, 159, 160, 5, 161, 117, 285, 286, 287, 288, 289, 290, 291, 111, 138, 292, 113, 293, 114, 115, 116, 294, 295, 296, 297, 805, 806, 807, 808, 809, 810, 811, 812, 813, 814, 815, 816, 817, 818, 819, 820, 821, 822, 823, 824, 825, 826, 827, 828, 829, 830, 831, 832, 833, 834, 835, 836, 837, 838, 839, 840, 841, 842] (by decide +kernel) (by decide +kernel)
set_option maxRecDepth 20000 in
theorem gL_law_X11_restore : GoodIn wsL_law (wsV RL 140 RX11 yX11_restore wsX11_restore) := goodIn_app (goodIn_of _ (by decide +kernel)) ggL_law_X11_restore
set_option maxRecDepth 20000 in
theorem ggL_law_X10_count : GoodIn wsL_law wsX10_count := goodIn_r _ [788, 30, 17, 719, 566, 353, 226, 51, 335, 23, 143, 690, 18, 491, 492, 493, 2, 494, 202, 203, 204, 16, 205, 100, 101, 102, 206, 207, 208, 55, 209, 210, 211, 212, 56, 57, 58, 354, 355, 356, 357, 13, 227, 228, 229, 495, 496, 497, 498, 499, 500, 501, 502, 32, 503, 504, 505, 506, 507, 508, 509, 510, 511, 512, 44, 513, 386, 514, 73, 74, 75, 515, 404, 405, 406, 407, 359, 360, 361, 362, 363, 364, 365, 366, 50, 367, 368, 369, 35, 370, 371, 372, 373, 374, 375, 376, 408, 378, 379, 380, 38, 381, 382, 383, 384, 385, 387, 388, 389, 390, 409, 410, 411, 412, 413, 414, 415, 416, 47, 417, 418, 419, 420, 421, 422, 423, 424, 425, 426, 427, 428, 41, 429, 430, 431, 432, 433, 434, 435, 436, 437, 438, 439, 440, 441, 442, 443, 444, 445, 446, 447, 448, 449, 450, 451, 795, 796, 797, 798, 799, 800, 801, 802, 803, 804, 843, 844, 845, 846, 847, 848, 849, 850, 851, 852, 853, 854, 855, 856, 857, 858] (by decide +kernel) (by decide +kernel)
set_option maxRecDepth 20000 in
theorem gL_law_X10_count : GoodIn wsL_law (wsV RL 141 RX10 yX10_count wsX10_count) := goodIn_app (goodIn_of _ (by decide +kernel)) ggL_law_X10_count
set_option maxRecDepth 20000 in
theorem ggL_law_X11_count : GoodIn wsL_law wsX11_count := goodIn_r _ [792, 133, 111, 112, 138, 292, 113, 293, 157, 695, 528, 793, 794, 117, 524, 525, 526, 5, 527, 121, 115, 529, 122, 119, 116, 281, 282, 283, 284, 120, 285, 286, 287, 288, 289, 290, 291, 114, 294, 295, 296, 297, 530, 531, 532, 533, 118, 456, 457, 458, 459, 395, 396, 397, 398, 460, 461, 462, 463, 311, 312, 313, 314, 274, 275, 276, 805, 806, 807, 808, 809, 810, 811, 812, 813, 814, 815, 816, 817, 818, 819, 820, 821, 822, 823, 824, 825, 826, 827, 828, 829, 830, 831, 832, 833, 834, 835, 836, 837, 838, 839, 840, 841, 842] (by decide +kernel) (by decide +kernel)
set_option maxRecDepth 20000 in
theorem gL_law_X11_count : GoodIn wsL_law (wsV RL 144 RX11 yX11_count wsX11_count) := goodIn_app (goodIn_of _ (by decide +kernel)) ggL_law_X11_count
theorem dL_law_0 : decode cL_law 0 = .ok (.new 7, 3) := by decide +kernel
theorem dL_law_3 : decode cL_law 3 = .ok (.dup, 1) := by decide +kernel
theorem dL_law_4 : decode cL_law 4 = .ok (.invokespecial 9, 3) := by decide +kernel
theorem dL_law_7 : decode cL_law 7 = .ok (.astore_n 1, 1) := by decide +kernel
theorem dL_law_8 : decode cL_law 8 = .ok (.new 10, 3) := by decide +kernel
theorem dL_law_11 : decode cL_law 11 = .ok (.dup, 1) := by decide +kernel
theorem dL_law_12 : decode cL_law 12 = .ok (.invokespecial 12, 3) := by decide +kernel
theorem dL_law_15 : decode cL_law 15 = .ok (.astore_n 2, 1) := by decide +kernel
theorem dL_law_16 : decode cL_law 16 = .ok (.iconst 0, 1) := by decide +kernel
theorem dL_law_17 : decode cL_law 17 = .ok (.istore_n 3, 1) := by decide +kernel
theorem dL_law_18 : decode cL_law 18 = .ok (.iload_n 3, 1) := by decide +kernel
theorem dL_law_19 : decode cL_law 19 = .ok (.aload_n 0, 1) := by decide +kernel
theorem dL_law_20 : decode cL_law 20 = .ok (.arraylength, 1) := by decide +kernel
theorem dL_law_21 : decode cL_law 21 = .ok (.iconst 3, 1) := by decide +kernel
theorem dL_law_22 : decode cL_law 22 = .ok (.isub, 1) := by decide +kernel
theorem dL_law_23 : decode cL_law 23 = .ok (.if_icmp .gt 875, 3) := by decide +kernel
theorem dL_law_26 : decode cL_law 26 = .ok (.aload_n 0, 1) := by decide +kernel
theorem dL_law_27 : decode cL_law 27 = .ok (.iload_n 3, 1) := by decide +kernel
theorem dL_law_28 : decode cL_law 28 = .ok (.iaload, 1) := by decide +kernel
theorem dL_law_29 : decode cL_law 29 = .ok (.bipush 31, 2) := by decide +kernel
theorem dL_law_31 : decode cL_law 31 = .ok (.iand, 1) := by decide +kernel
theorem dL_law_32 : decode cL_law 32 = .ok (.tableswitch 860 0 31 #[144, 167, 180, 213, 236, 269, 282, 295, 318, 341, 364, 397, 410, 433, 456, 479, 502, 525, 538, 561, 594, 627, 660, 693, 716, 729, 742, 765, 778, 811, 824, 837], 144) := by decide +kernel
theorem dL_law_176 : decode cL_law 176 = .ok (.aload_n 1, 1) := by decide +kernel
theorem dL_law_177 : decode cL_law 177 = .ok (.aload_n 0, 1) := by decide +kernel
theorem dL_law_178 : decode cL_law 178 = .ok (.iload_n 3, 1) := by decide +kernel
theorem dL_law_179 : decode cL_law 179 = .ok (.iconst 1, 1) := by decide +kernel
theorem dL_law_180 : decode cL_law 180 = .ok (.iadd, 1) := by decide +kernel
theorem dL_law_181 : decode cL_law 181 = .ok (.iaload, 1) := by decide +kernel
theorem dL_law_182 : decode cL_law 182 = .ok (.invokevirtual 13, 3) := by decide +kernel
theorem dL_law_185 : decode cL_law 185 = .ok (.aload_n 2, 1) := by decide +kernel
theorem dL_law_186 : decode cL_law 186 = .ok (.aload_n 0, 1) := by decide +kernel
theorem dL_law_187 : decode cL_law 187 = .ok (.iload_n 3, 1) := by decide +kernel
theorem dL_law_188 : decode cL_law 188 = .ok (.iconst 1, 1) := by decide +kernel
theorem dL_law_189 : decode cL_law 189 = .ok (.iadd, 1) := by decide +kernel
theorem dL_law_190 : decode cL_law 190 = .ok (.iaload, 1) := by decide +kernel
theorem dL_law_191 : decode cL_law 191 = .ok (.invokevirtual 17, 3) := by decide +kernel
theorem dL_law_194 : decode cL_law 194 = .ok (.if_icmp .eq 698, 3) := by decide +kernel
theorem dL_law_197 : decode cL_law 197 = .ok (.iconst 0, 1) := by decide +kernel
theorem dL_law_198 : decode cL_law 198 = .ok (.ireturn, 1) := by decide +kernel
theorem dL_law_199 : decode cL_law 199 = .ok (.aload_n 1, 1) := by decide +kernel
theorem dL_law_200 : decode cL_law 200 = .ok (.invokevirtual 18, 3) := by decide +kernel
theorem dL_law_203 : decode cL_law 203 = .ok (.pop, 1) := by decide +kernel
theorem dL_law_204 : decode cL_law 204 = .ok (.aload_n 2, 1) := by decide +kernel
theorem dL_law_205 : decode cL_law 205 = .ok (.invokevirtual 22, 3) := by decide +kernel
theorem dL_law_208 : decode cL_law 208 = .ok (.pop, 1) := by decide +kernel
theorem dL_law_209 : decode cL_law 209 = .ok (.goto 683, 3) := by decide +kernel
theorem dL_law_212 : decode cL_law 212 = .ok (.aload_n 1, 1) := by decide +kernel
theorem dL_law_213 : decode cL_law 213 = .ok (.aload_n 0, 1) := by decide +kernel
theorem dL_law_214 : decode cL_law 214 = .ok (.iload_n 3, 1) := by decide +kernel
theorem dL_law_215 : decode cL_law 215 = .ok (.iconst 1, 1) := by decide +kernel
theorem dL_law_216 : decode cL_law 216 = .ok (.iadd, 1) := by decide +kernel
theorem dL_law_217 : decode cL_law 217 = .ok (.iaload, 1) := by decide +kernel
theorem dL_law_218 : decode cL_law 218 = .ok (.aload_n 0, 1) := by decide +kernel
theorem dL_law_219 : decode cL_law 219 = .ok (.iload_n 3, 1) := by decide +kernel
theorem dL_law_220 : decode cL_law 220 = .ok (.iconst 2, 1) := by decide +kernel
theorem dL_law_221 : decode cL_law 221 = .ok (.iadd, 1) := by decide +kernel
theorem dL_law_222 : decode cL_law 222 = .ok (.iaload, 1) := by decide +kernel
theorem dL_law_223 : decode cL_law 223 = .ok (.invokevirtual 23, 3) := by decide +kernel
theorem dL_law_226 : decode cL_law 226 = .ok (.pop, 1) := by decide +kernel
theorem dL_law_227 : decode cL_law 227 = .ok (.aload_n 2, 1) := by decide +kernel
theorem dL_law_228 : decode cL_law 228 = .ok (.aload_n 0, 1) := by decide +kernel
theorem dL_law_229 : decode cL_law 229 = .ok (.iload_n 3, 1) := by decide +kernel
theorem dL_law_230 : decode cL_law 230 = .ok (.iconst 1, 1) := by decide +kernel
theorem dL_law_231 : decode cL_law 231 = .ok (.iadd, 1) := by decide +kernel
theorem dL_law_232 : decode cL_law 232 = .ok (.iaload, 1) := by decide +kernel
theorem dL_law_233 : decode cL_law 233 = .ok (.aload_n 0, 1) := by decide +kernel
theorem dL_law_234 : decode cL_law 234 = .ok (.iload_n 3, 1) := by decide +kernel
theorem dL_law_235 : decode cL_law 235 = .ok (.iconst 2, 1) := by decide +kernel
theorem dL_law_236 : decode cL_law 236 = .ok (.iadd, 1) := by decide +kernel
theorem dL_law_237 : decode cL_law 237 = .ok (.iaload, 1) := by decide +kernel
theorem dL_law_238 : decode cL_law 238 = .ok (.invokevirtual 27, 3) := by decide +kernel
theorem dL_law_241 : decode cL_law 241 = .ok (.pop, 1) := by decide +kernel
theorem dL_law_242 : decode cL_law 242 = .ok (.goto 650, 3) := by decide +kernel
theorem dL_law_245 : decode cL_law 245 = .ok (.aload_n 1, 1) := by decide +kernel
theorem dL_law_246 : decode cL_law 246 = .ok (.aload_n 0, 1) := by decide +kernel
theorem dL_law_247 : decode cL_law 247 = .ok (.iload_n 3, 1) := by decide +kernel
theorem dL_law_248 : decode cL_law 248 = .ok (.iconst 1, 1) := by decide +kernel
theorem dL_law_249 : decode cL_law 249 = .ok (.iadd, 1) := by decide +kernel
theorem dL_law_250 : decode cL_law 250 = .ok (.iaload, 1) := by decide +kernel
theorem dL_law_251 : decode cL_law 251 = .ok (.invokevirtual 28, 3) := by decide +kernel
theorem dL_law_254 : decode cL_law 254 = .ok (.pop, 1) := by decide +kernel
theorem dL_law_255 : decode cL_law 255 = .ok (.aload_n 2, 1) := by decide +kernel
theorem dL_law_256 : decode cL_law 256 = .ok (.aload_n 0, 1) := by decide +kernel
theorem dL_law_257 : decode cL_law 257 = .ok (.iload_n 3, 1) := by decide +kernel
theorem dL_law_258 : decode cL_law 258 = .ok (.iconst 1, 1) := by decide +kernel
theorem dL_law_259 : decode cL_law 259 = .ok (.iadd, 1) := by decide +kernel
theorem dL_law_260 : decode cL_law 260 = .ok (.iaload, 1) := by decide +kernel
theorem dL_law_261 : decode cL_law 261 = .ok (.invokevirtual 31, 3) := by decide +kernel
theorem dL_law_264 : decode cL_law 264 = .ok (.pop, 1) := by decide +kernel
theorem dL_law_265 : decode cL_law 265 = .ok (.goto 627, 3) := by decide +kernel
theorem dL_law_268 : decode cL_law 268 = .ok (.aload_n 1, 1) := by decide +kernel
theorem dL_law_269 : decode cL_law 269 = .ok (.aload_n 0, 1) := by decide +kernel
theorem dL_law_270 : decode cL_law 270 = .ok (.iload_n 3, 1) := by decide +kernel
theorem dL_law_271 : decode cL_law 271 = .ok (.iconst 1, 1) := by decide +kernel
theorem dL_law_272 : decode cL_law 272 = .ok (.iadd, 1) := by decide +kernel
theorem dL_law_273 : decode cL_law 273 = .ok (.iaload, 1) := by decide +kernel
theorem dL_law_274 : decode cL_law 274 = .ok (.aload_n 0, 1) := by decide +kernel
theorem dL_law_275 : decode cL_law 275 = .ok (.iload_n 3, 1) := by decide +kernel
theorem dL_law_276 : decode cL_law 276 = .ok (.iconst 2, 1) := by decide +kernel
theorem dL_law_277 : decode cL_law 277 = .ok (.iadd, 1) := by decide +kernel
theorem dL_law_278 : decode cL_law 278 = .ok (.iaload, 1) := by decide +kernel
theorem dL_law_279 : decode cL_law 279 = .ok (.invokevirtual 32, 3) := by decide +kernel
theorem dL_law_282 : decode cL_law 282 = .ok (.pop, 1) := by decide +kernel
theorem dL_law_283 : decode cL_law 283 = .ok (.aload_n 2, 1) := by decide +kernel
theorem dL_law_284 : decode cL_law 284 = .ok (.aload_n 0, 1) := by decide +kernel
theorem dL_law_285 : decode cL_law 285 = .ok (.iload_n 3, 1) := by decide +kernel
theorem dL_law_286 : decode cL_law 286 = .ok (.iconst 1, 1) := by decide +kernel
theorem dL_law_287 : decode cL_law 287 = .ok (.iadd, 1) := by decide +kernel
theorem dL_law_288 : decode cL_law 288 = .ok (.iaload, 1) := by decide +kernel
theorem dL_law_289 : decode cL_law 289 = .ok (.aload_n 0, 1) := by decide +kernel
theorem dL_law_290 : decode cL_law 290 = .ok (.iload_n 3, 1) := by decide +kernel
theorem dL_law_291 : decode cL_law 291 = .ok (.iconst 2, 1) := by decide +kernel
theorem dL_law_292 : decode cL_law 292 = .ok (.iadd, 1) := by decide +kernel
theorem dL_law_293 : decode cL_law 293 = .ok (.iaload, 1) := by decide +kernel
theorem dL_law_294 : decode cL_law 294 = .ok (.invokevirtual 35, 3) := by decide +kernel
theorem dL_law_297 : decode cL_law 297 = .ok (.pop, 1) := by decide +kernel
theorem dL_law_298 : decode cL_law 298 = .ok (.goto 594, 3) := by decide +kernel
theorem dL_law_301 : decode cL_law 301 = .ok (.aload_n 1, 1) := by decide +kernel
theorem dL_law_302 : decode cL_law 302 = .ok (.invokevirtual 36, 3) := by decide +kernel
theorem dL_law_305 : decode cL_law 305 = .ok (.pop, 1) := by decide +kernel
theorem dL_law_306 : decode cL_law 306 = .ok (.aload_n 2, 1) := by decide +kernel
theorem dL_law_307 : decode cL_law 307 = .ok (.invokevirtual 39, 3) := by decide +kernel
theorem dL_law_310 : decode cL_law 310 = .ok (.pop, 1) := by decide +kernel
theorem dL_law_311 : decode cL_law 311 = .ok (.goto 581, 3) := by decide +kernel
theorem dL_law_314 : decode cL_law 314 = .ok (.aload_n 1, 1) := by decide +kernel
theorem dL_law_315 : decode cL_law 315 = .ok (.invokevirtual 40, 3) := by decide +kernel
theorem dL_law_318 : decode cL_law 318 = .ok (.pop, 1) := by decide +kernel
theorem dL_law_319 : decode cL_law 319 = .ok (.aload_n 2, 1) := by decide +kernel
theorem dL_law_320 : decode cL_law 320 = .ok (.invokevirtual 43, 3) := by decide +kernel
theorem dL_law_323 : decode cL_law 323 = .ok (.pop, 1) := by decide +kernel
theorem dL_law_324 : decode cL_law 324 = .ok (.goto 568, 3) := by decide +kernel
theorem dL_law_327 : decode cL_law 327 = .ok (.aload_n 1, 1) := by decide +kernel
theorem dL_law_328 : decode cL_law 328 = .ok (.aload_n 0, 1) := by decide +kernel
theorem dL_law_329 : decode cL_law 329 = .ok (.iload_n 3, 1) := by decide +kernel
theorem dL_law_330 : decode cL_law 330 = .ok (.iconst 1, 1) := by decide +kernel
theorem dL_law_331 : decode cL_law 331 = .ok (.iadd, 1) := by decide +kernel
theorem dL_law_332 : decode cL_law 332 = .ok (.iaload, 1) := by decide +kernel
theorem dL_law_333 : decode cL_law 333 = .ok (.invokevirtual 44, 3) := by decide +kernel
theorem dL_law_336 : decode cL_law 336 = .ok (.pop, 1) := by decide +kernel
theorem dL_law_337 : decode cL_law 337 = .ok (.aload_n 2, 1) := by decide +kernel
theorem dL_law_338 : decode cL_law 338 = .ok (.aload_n 0, 1) := by decide +kernel
theorem dL_law_339 : decode cL_law 339 = .ok (.iload_n 3, 1) := by decide +kernel
theorem dL_law_340 : decode cL_law 340 = .ok (.iconst 1, 1) := by decide +kernel
theorem dL_law_341 : decode cL_law 341 = .ok (.iadd, 1) := by decide +kernel
theorem dL_law_342 : decode cL_law 342 = .ok (.iaload, 1) := by decide +kernel
theorem dL_law_343 : decode cL_law 343 = .ok (.invokevirtual 47, 3) := by decide +kernel
theorem dL_law_346 : decode cL_law 346 = .ok (.pop, 1) := by decide +kernel
theorem dL_law_347 : decode cL_law 347 = .ok (.goto 545, 3) := by decide +kernel
theorem dL_law_350 : decode cL_law 350 = .ok (.aload_n 1, 1) := by decide +kernel
theorem dL_law_351 : decode cL_law 351 = .ok (.aload_n 0, 1) := by decide +kernel
theorem dL_law_352 : decode cL_law 352 = .ok (.iload_n 3, 1) := by decide +kernel
theorem dL_law_353 : decode cL_law 353 = .ok (.iconst 1, 1) := by decide +kernel
theorem dL_law_354 : decode cL_law 354 = .ok (.iadd, 1) := by decide +kernel
theorem dL_law_355 : decode cL_law 355 = .ok (.iaload, 1) := by decide +kernel
theorem dL_law_356 : decode cL_law 356 = .ok (.invokevirtual 48, 3) := by decide +kernel
theorem dL_law_359 : decode cL_law 359 = .ok (.pop, 1) := by decide +kernel
theorem dL_law_360 : decode cL_law 360 = .ok (.aload_n 2, 1) := by decide +kernel
theorem dL_law_361 : decode cL_law 361 = .ok (.aload_n 0, 1) := by decide +kernel
theorem dL_law_362 : decode cL_law 362 = .ok (.iload_n 3, 1) := by decide +kernel
theorem dL_law_363 : decode cL_law 363 = .ok (.iconst 1, 1) := by decide +kernel
theorem dL_law_364 : decode cL_law 364 = .ok (.iadd, 1) := by decide +kernel
theorem dL_law_365 : decode cL_law 365 = .ok (.iaload, 1) := by decide +kernel
theorem dL_law_366 : decode cL_law 366 = .ok (.invokevirtual 51, 3) := by decide +kernel
theorem dL_law_369 : decode cL_law 369 = .ok (.pop, 1) := by decide +kernel
theorem dL_law_370 : decode cL_law 370 = .ok (.goto 522, 3) := by decide +kernel
theorem dL_law_373 : decode cL_law 373 = .ok (.aload_n 1, 1) := by decide +kernel
theorem dL_law_374 : decode cL_law 374 = .ok (.aload_n 0, 1) := by decide +kernel
theorem dL_law_375 : decode cL_law 375 = .ok (.iload_n 3, 1) := by decide +kernel
theorem dL_law_376 : decode cL_law 376 = .ok (.iconst 1, 1) := by decide +kernel
theorem dL_law_377 : decode cL_law 377 = .ok (.iadd, 1) := by decide +kernel
theorem dL_law_378 : decode cL_law 378 = .ok (.iaload, 1) := by decide +kernel
theorem dL_law_379 : decode cL_law 379 = .ok (.invokevirtual 52, 3) := by decide +kernel
theorem dL_law_382 : decode cL_law 382 = .ok (.pop, 1) := by decide +kernel
theorem dL_law_383 : decode cL_law 383 = .ok (.aload_n 2, 1) := by decide +kernel
theorem dL_law_384 : decode cL_law 384 = .ok (.aload_n 0, 1) := by decide +kernel
theorem dL_law_385 : decode cL_law 385 = .ok (.iload_n 3, 1) := by decide +kernel
theorem dL_law_386 : decode cL_law 386 = .ok (.iconst 1, 1) := by decide +kernel
theorem dL_law_387 : decode cL_law 387 = .ok (.iadd, 1) := by decide +kernel
theorem dL_law_388 : decode cL_law 388 = .ok (.iaload, 1) := by decide +kernel
theorem dL_law_389 : decode cL_law 389 = .ok (.invokevirtual 55, 3) := by decide +kernel
theorem dL_law_392 : decode cL_law 392 = .ok (.pop, 1) := by decide +kernel
theorem dL_law_393 : decode cL_law 393 = .ok (.goto 499, 3) := by decide +kernel
theorem dL_law_396 : decode cL_law 396 = .ok (.aload_n 1, 1) := by decide +kernel
theorem dL_law_397 : decode cL_law 397 = .ok (.aload_n 0, 1) := by decide +kernel
theorem dL_law_398 : decode cL_law 398 = .ok (.iload_n 3, 1) := by decide +kernel
theorem dL_law_399 : decode cL_law 399 = .ok (.iconst 1, 1) := by decide +kernel
theorem dL_law_400 : decode cL_law 400 = .ok (.iadd, 1) := by decide +kernel
theorem dL_law_401 : decode cL_law 401 = .ok (.iaload, 1) := by decide +kernel
theorem dL_law_402 : decode cL_law 402 = .ok (.aload_n 0, 1) := by decide +kernel
theorem dL_law_403 : decode cL_law 403 = .ok (.iload_n 3, 1) := by decide +kernel
theorem dL_law_404 : decode cL_law 404 = .ok (.iconst 2, 1) := by decide +kernel
theorem dL_law_405 : decode cL_law 405 = .ok (.iadd, 1) := by decide +kernel
theorem dL_law_406 : decode cL_law 406 = .ok (.iaload, 1) := by decide +kernel
theorem dL_law_407 : decode cL_law 407 = .ok (.invokevirtual 56, 3) := by decide +kernel
theorem dL_law_410 : decode cL_law 410 = .ok (.pop, 1) := by decide +kernel
theorem dL_law_411 : decode cL_law 411 = .ok (.aload_n 2, 1) := by decide +kernel
theorem dL_law_412 : decode cL_law 412 = .ok (.aload_n 0, 1) := by decide +kernel
theorem dL_law_413 : decode cL_law 413 = .ok (.iload_n 3, 1) := by decide +kernel
theorem dL_law_414 : decode cL_law 414 = .ok (.iconst 1, 1) := by decide +kernel
theorem dL_law_415 : decode cL_law 415 = .ok (.iadd, 1) := by decide +kernel
theorem dL_law_416 : decode cL_law 416 = .ok (.iaload, 1) := by decide +kernel
theorem dL_law_417 : decode cL_law 417 = .ok (.aload_n 0, 1) := by decide +kernel
theorem dL_law_418 : decode cL_law 418 = .ok (.iload_n 3, 1) := by decide +kernel
theorem dL_law_419 : decode cL_law 419 = .ok (.iconst 2, 1) := by decide +kernel
theorem dL_law_420 : decode cL_law 420 = .ok (.iadd, 1) := by decide +kernel
theorem dL_law_421 : decode cL_law 421 = .ok (.iaload, 1) := by decide +kernel
theorem dL_law_422 : decode cL_law 422 = .ok (.invokevirtual 59, 3) := by decide +kernel
theorem dL_law_425 : decode cL_law 425 = .ok (.pop, 1) := by decide +kernel
theorem dL_law_426 : decode cL_law 426 = .ok (.goto 466, 3) := by decide +kernel
theorem dL_law_429 : decode cL_law 429 = .ok (.aload_n 1, 1) := by decide +kernel
theorem dL_law_430 : decode cL_law 430 = .ok (.invokevirtual 60, 3) := by decide +kernel
theorem dL_law_433 : decode cL_law 433 = .ok (.pop, 1) := by decide +kernel
theorem dL_law_434 : decode cL_law 434 = .ok (.aload_n 2, 1) := by decide +kernel
theorem dL_law_435 : decode cL_law 435 = .ok (.invokevirtual 63, 3) := by decide +kernel
theorem dL_law_438 : decode cL_law 438 = .ok (.pop, 1) := by decide +kernel
theorem dL_law_439 : decode cL_law 439 = .ok (.goto 453, 3) := by decide +kernel
theorem dL_law_442 : decode cL_law 442 = .ok (.aload_n 1, 1) := by decide +kernel
theorem dL_law_443 : decode cL_law 443 = .ok (.aload_n 0, 1) := by decide +kernel
theorem dL_law_444 : decode cL_law 444 = .ok (.iload_n 3, 1) := by decide +kernel
theorem dL_law_445 : decode cL_law 445 = .ok (.iconst 1, 1) := by decide +kernel
theorem dL_law_446 : decode cL_law 446 = .ok (.iadd, 1) := by decide +kernel
theorem dL_law_447 : decode cL_law 447 = .ok (.iaload, 1) := by decide +kernel
theorem dL_law_448 : decode cL_law 448 = .ok (.invokevirtual 64, 3) := by decide +kernel
theorem dL_law_451 : decode cL_law 451 = .ok (.pop, 1) := by decide +kernel
theorem dL_law_452 : decode cL_law 452 = .ok (.aload_n 2, 1) := by decide +kernel
theorem dL_law_453 : decode cL_law 453 = .ok (.aload_n 0, 1) := by decide +kernel
theorem dL_law_454 : decode cL_law 454 = .ok (.iload_n 3, 1) := by decide +kernel
theorem dL_law_455 : decode cL_law 455 = .ok (.iconst 1, 1) := by decide +kernel
theorem dL_law_456 : decode cL_law 456 = .ok (.iadd, 1) := by decide +kernel
theorem dL_law_457 : decode cL_law 457 = .ok (.iaload, 1) := by decide +kernel
theorem dL_law_458 : decode cL_law 458 = .ok (.invokevirtual 67, 3) := by decide +kernel
theorem dL_law_461 : decode cL_law 461 = .ok (.pop, 1) := by decide +kernel
theorem dL_law_462 : decode cL_law 462 = .ok (.goto 430, 3) := by decide +kernel
theorem dL_law_465 : decode cL_law 465 = .ok (.aload_n 1, 1) := by decide +kernel
theorem dL_law_466 : decode cL_law 466 = .ok (.aload_n 0, 1) := by decide +kernel
theorem dL_law_467 : decode cL_law 467 = .ok (.iload_n 3, 1) := by decide +kernel
theorem dL_law_468 : decode cL_law 468 = .ok (.iconst 1, 1) := by decide +kernel
theorem dL_law_469 : decode cL_law 469 = .ok (.iadd, 1) := by decide +kernel
theorem dL_law_470 : decode cL_law 470 = .ok (.iaload, 1) := by decide +kernel
theorem dL_law_471 : decode cL_law 471 = .ok (.invokevirtual 68, 3) := by decide +kernel
theorem dL_law_474 : decode cL_law 474 = .ok (.pop, 1) := by decide +kernel
theorem dL_law_475 : decode cL_law 475 = .ok (.aload_n 2, 1) := by decide +kernel
theorem dL_law_476 : decode cL_law 476 = .ok (.aload_n 0, 1) := by decide +kernel
theorem dL_law_477 : decode cL_law 477 = .ok (.iload_n 3, 1) := by decide +kernel
theorem dL_law_478 : decode cL_law 478 = .ok (.iconst 1, 1) := by decide +kernel
theorem dL_law_479 : decode cL_law 479 = .ok (.iadd, 1) := by decide +kernel
theorem dL_law_480 : decode cL_law 480 = .ok (.iaload, 1) := by decide +kernel
theorem dL_law_481 : decode cL_law 481 = .ok (.invokevirtual 71, 3) := by decide +kernel
theorem dL_law_484 : decode cL_law 484 = .ok (.pop, 1) := by decide +kernel
theorem dL_law_485 : decode cL_law 485 = .ok (.goto 407, 3) := by decide +kernel
theorem dL_law_488 : decode cL_law 488 = .ok (.aload_n 1, 1) := by decide +kernel
theorem dL_law_489 : decode cL_law 489 = .ok (.aload_n 0, 1) := by decide +kernel
theorem dL_law_490 : decode cL_law 490 = .ok (.iload_n 3, 1) := by decide +kernel
theorem dL_law_491 : decode cL_law 491 = .ok (.iconst 1, 1) := by decide +kernel
theorem dL_law_492 : decode cL_law 492 = .ok (.iadd, 1) := by decide +kernel
theorem dL_law_493 : decode cL_law 493 = .ok (.iaload, 1) := by decide +kernel
theorem dL_law_494 : decode cL_law 494 = .ok (.invokevirtual 72, 3) := by decide +kernel
theorem dL_law_497 : decode cL_law 497 = .ok (.pop, 1) := by decide +kernel
theorem dL_law_498 : decode cL_law 498 = .ok (.aload_n 2, 1) := by decide +kernel
theorem dL_law_499 : decode cL_law 499 = .ok (.aload_n 0, 1) := by decide +kernel
theorem dL_law_500 : decode cL_law 500 = .ok (.iload_n 3, 1) := by decide +kernel
theorem dL_law_501 : decode cL_law 501 = .ok (.iconst 1, 1) := by decide +kernel
theorem dL_law_502 : decode cL_law 502 = .ok (.iadd, 1) := by decide +kernel
theorem dL_law_503 : decode cL_law 503 = .ok (.iaload, 1) := by decide +kernel
theorem dL_law_504 : decode cL_law 504 = .ok (.invokevirtual 75, 3) := by decide +kernel
theorem dL_law_507 : decode cL_law 507 = .ok (.pop, 1) := by decide +kernel
theorem dL_law_508 : decode cL_law 508 = .ok (.goto 384, 3) := by decide +kernel
theorem dL_law_511 : decode cL_law 511 = .ok (.aload_n 1, 1) := by decide +kernel
theorem dL_law_512 : decode cL_law 512 = .ok (.aload_n 0, 1) := by decide +kernel
theorem dL_law_513 : decode cL_law 513 = .ok (.iload_n 3, 1) := by decide +kernel
theorem dL_law_514 : decode cL_law 514 = .ok (.iconst 1, 1) := by decide +kernel
theorem dL_law_515 : decode cL_law 515 = .ok (.iadd, 1) := by decide +kernel
theorem dL_law_516 : decode cL_law 516 = .ok (.iaload, 1) := by decide +kernel
theorem dL_law_517 : decode cL_law 517 = .ok (.invokevirtual 76, 3) := by decide +kernel
theorem dL_law_520 : decode cL_law 520 = .ok (.pop, 1) := by decide +kernel
theorem dL_law_521 : decode cL_law 521 = .ok (.aload_n 2, 1) := by decide +kernel
theorem dL_law_522 : decode cL_law 522 = .ok (.aload_n 0, 1) := by decide +kernel
theorem dL_law_523 : decode cL_law 523 = .ok (.iload_n 3, 1) := by decide +kernel
theorem dL_law_524 : decode cL_law 524 = .ok (.iconst 1, 1) := by decide +kernel
theorem dL_law_525 : decode cL_law 525 = .ok (.iadd, 1) := by decide +kernel
theorem dL_law_526 : decode cL_law 526 = .ok (.iaload, 1) := by decide +kernel
theorem dL_law_527 : decode cL_law 527 = .ok (.invokevirtual 79, 3) := by decide +kernel
theorem dL_law_530 : decode cL_law 530 = .ok (.pop, 1) := by decide +kernel
theorem dL_law_531 : decode cL_law 531 = .ok (.goto 361, 3) := by decide +kernel
theorem dL_law_534 : decode cL_law 534 = .ok (.aload_n 1, 1) := by decide +kernel
theorem dL_law_535 : decode cL_law 535 = .ok (.aload_n 0, 1) := by decide +kernel
theorem dL_law_536 : decode cL_law 536 = .ok (.iload_n 3, 1) := by decide +kernel
theorem dL_law_537 : decode cL_law 537 = .ok (.iconst 1, 1) := by decide +kernel
theorem dL_law_538 : decode cL_law 538 = .ok (.iadd, 1) := by decide +kernel
theorem dL_law_539 : decode cL_law 539 = .ok (.iaload, 1) := by decide +kernel
theorem dL_law_540 : decode cL_law 540 = .ok (.invokevirtual 80, 3) := by decide +kernel
theorem dL_law_543 : decode cL_law 543 = .ok (.pop, 1) := by decide +kernel
theorem dL_law_544 : decode cL_law 544 = .ok (.aload_n 2, 1) := by decide +kernel
theorem dL_law_545 : decode cL_law 545 = .ok (.aload_n 0, 1) := by decide +kernel
theorem dL_law_546 : decode cL_law 546 = .ok (.iload_n 3, 1) := by decide +kernel
theorem dL_law_547 : decode cL_law 547 = .ok (.iconst 1, 1) := by decide +kernel
theorem dL_law_548 : decode cL_law 548 = .ok (.iadd, 1) := by decide +kernel
theorem dL_law_549 : decode cL_law 549 = .ok (.iaload, 1) := by decide +kernel
theorem dL_law_550 : decode cL_law 550 = .ok (.invokevirtual 83, 3) := by decide +kernel
theorem dL_law_553 : decode cL_law 553 = .ok (.pop, 1) := by decide +kernel
theorem dL_law_554 : decode cL_law 554 = .ok (.goto 338, 3) := by decide +kernel
theorem dL_law_557 : decode cL_law 557 = .ok (.aload_n 1, 1) := by decide +kernel
theorem dL_law_558 : decode cL_law 558 = .ok (.invokevirtual 84, 3) := by decide +kernel
theorem dL_law_561 : decode cL_law 561 = .ok (.pop, 1) := by decide +kernel
theorem dL_law_562 : decode cL_law 562 = .ok (.aload_n 2, 1) := by decide +kernel
theorem dL_law_563 : decode cL_law 563 = .ok (.invokevirtual 87, 3) := by decide +kernel
theorem dL_law_566 : decode cL_law 566 = .ok (.pop, 1) := by decide +kernel
theorem dL_law_567 : decode cL_law 567 = .ok (.goto 325, 3) := by decide +kernel
theorem dL_law_570 : decode cL_law 570 = .ok (.aload_n 1, 1) := by decide +kernel
theorem dL_law_571 : decode cL_law 571 = .ok (.aload_n 0, 1) := by decide +kernel
theorem dL_law_572 : decode cL_law 572 = .ok (.iload_n 3, 1) := by decide +kernel
theorem dL_law_573 : decode cL_law 573 = .ok (.iconst 1, 1) := by decide +kernel
theorem dL_law_574 : decode cL_law 574 = .ok (.iadd, 1) := by decide +kernel
theorem dL_law_575 : decode cL_law 575 = .ok (.iaload, 1) := by decide +kernel
theorem dL_law_576 : decode cL_law 576 = .ok (.invokevirtual 88, 3) := by decide +kernel
theorem dL_law_579 : decode cL_law 579 = .ok (.pop, 1) := by decide +kernel
theorem dL_law_580 : decode cL_law 580 = .ok (.aload_n 2, 1) := by decide +kernel
theorem dL_law_581 : decode cL_law 581 = .ok (.aload_n 0, 1) := by decide +kernel
theorem dL_law_582 : decode cL_law 582 = .ok (.iload_n 3, 1) := by decide +kernel
theorem dL_law_583 : decode cL_law 583 = .ok (.iconst 1, 1) := by decide +kernel
theorem dL_law_584 : decode cL_law 584 = .ok (.iadd, 1) := by decide +kernel
theorem dL_law_585 : decode cL_law 585 = .ok (.iaload, 1) := by decide +kernel
theorem dL_law_586 : decode cL_law 586 = .ok (.invokevirtual 91, 3) := by decide +kernel
theorem dL_law_589 : decode cL_law 589 = .ok (.pop, 1) := by decide +kernel
theorem dL_law_590 : decode cL_law 590 = .ok (.goto 302, 3) := by decide +kernel
theorem dL_law_593 : decode cL_law 593 = .ok (.aload_n 1, 1) := by decide +kernel
theorem dL_law_594 : decode cL_law 594 = .ok (.aload_n 0, 1) := by decide +kernel
theorem dL_law_595 : decode cL_law 595 = .ok (.iload_n 3, 1) := by decide +kernel
theorem dL_law_596 : decode cL_law 596 = .ok (.iconst 1, 1) := by decide +kernel
theorem dL_law_597 : decode cL_law 597 = .ok (.iadd, 1) := by decide +kernel
theorem dL_law_598 : decode cL_law 598 = .ok (.iaload, 1) := by decide +kernel
theorem dL_law_599 : decode cL_law 599 = .ok (.aload_n 0, 1) := by decide +kernel
theorem dL_law_600 : decode cL_law 600 = .ok (.iload_n 3, 1) := by decide +kernel
theorem dL_law_601 : decode cL_law 601 = .ok (.iconst 2, 1) := by decide +kernel
theorem dL_law_602 : decode cL_law 602 = .ok (.iadd, 1) := by decide +kernel
theorem dL_law_603 : decode cL_law 603 = .ok (.iaload, 1) := by decide +kernel
theorem dL_law_604 : decode cL_law 604 = .ok (.invokevirtual 92, 3) := by decide +kernel
theorem dL_law_607 : decode cL_law 607 = .ok (.pop, 1) := by decide +kernel
theorem dL_law_608 : decode cL_law 608 = .ok (.aload_n 2, 1) := by decide +kernel
theorem dL_law_609 : decode cL_law 609 = .ok (.aload_n 0, 1) := by decide +kernel
theorem dL_law_610 : decode cL_law 610 = .ok (.iload_n 3, 1) := by decide +kernel
theorem dL_law_611 : decode cL_law 611 = .ok (.iconst 1, 1) := by decide +kernel
theorem dL_law_612 : decode cL_law 612 = .ok (.iadd, 1) := by decide +kernel
theorem dL_law_613 : decode cL_law 613 = .ok (.iaload, 1) := by decide +kernel
theorem dL_law_614 : decode cL_law 614 = .ok (.aload_n 0, 1) := by decide +kernel
theorem dL_law_615 : decode cL_law 615 = .ok (.iload_n 3, 1) := by decide +kernel
theorem dL_law_616 : decode cL_law 616 = .ok (.iconst 2, 1) := by decide +kernel
theorem dL_law_617 : decode cL_law 617 = .ok (.iadd, 1) := by decide +kernel
theorem dL_law_618 : decode cL_law 618 = .ok (.iaload, 1) := by decide +kernel
theorem dL_law_619 : decode cL_law 619 = .ok (.invokevirtual 95, 3) := by decide +kernel
theorem dL_law_622 : decode cL_law 622 = .ok (.pop, 1) := by decide +kernel
theorem dL_law_623 : decode cL_law 623 = .ok (.goto 269, 3) := by decide +kernel
theorem dL_law_626 : decode cL_law 626 = .ok (.aload_n 1, 1) := by decide +kernel
theorem dL_law_627 : decode cL_law 627 = .ok (.aload_n 0, 1) := by decide +kernel
theorem dL_law_628 : decode cL_law 628 = .ok (.iload_n 3, 1) := by decide +kernel
theorem dL_law_629 : decode cL_law 629 = .ok (.iconst 1, 1) := by decide +kernel
theorem dL_law_630 : decode cL_law 630 = .ok (.iadd, 1) := by decide +kernel
theorem dL_law_631 : decode cL_law 631 = .ok (.iaload, 1) := by decide +kernel
theorem dL_law_632 : decode cL_law 632 = .ok (.aload_n 0, 1) := by decide +kernel
theorem dL_law_633 : decode cL_law 633 = .ok (.iload_n 3, 1) := by decide +kernel
theorem dL_law_634 : decode cL_law 634 = .ok (.iconst 2, 1) := by decide +kernel
theorem dL_law_635 : decode cL_law 635 = .ok (.iadd, 1) := by decide +kernel
theorem dL_law_636 : decode cL_law 636 = .ok (.iaload, 1) := by decide +kernel
theorem dL_law_637 : decode cL_law 637 = .ok (.invokevirtual 96, 3) := by decide +kernel
theorem dL_law_640 : decode cL_law 640 = .ok (.pop, 1) := by decide +kernel
theorem dL_law_641 : decode cL_law 641 = .ok (.aload_n 2, 1) := by decide +kernel
theorem dL_law_642 : decode cL_law 642 = .ok (.aload_n 0, 1) := by decide +kernel
theorem dL_law_643 : decode cL_law 643 = .ok (.iload_n 3, 1) := by decide +kernel
theorem dL_law_644 : decode cL_law 644 = .ok (.iconst 1, 1) := by decide +kernel
theorem dL_law_645 : decode cL_law 645 = .ok (.iadd, 1) := by decide +kernel
theorem dL_law_646 : decode cL_law 646 = .ok (.iaload, 1) := by decide +kernel
theorem dL_law_647 : decode cL_law 647 = .ok (.aload_n 0, 1) := by decide +kernel
theorem dL_law_648 : decode cL_law 648 = .ok (.iload_n 3, 1) := by decide +kernel
theorem dL_law_649 : decode cL_law 649 = .ok (.iconst 2, 1) := by decide +kernel
theorem dL_law_650 : decode cL_law 650 = .ok (.iadd, 1) := by decide +kernel
theorem dL_law_651 : decode cL_law 651 = .ok (.iaload, 1) := by decide +kernel
theorem dL_law_652 : decode cL_law 652 = .ok (.invokevirtual 99, 3) := by decide +kernel
theorem dL_law_655 : decode cL_law 655 = .ok (.pop, 1) := by decide +kernel
theorem dL_law_656 : decode cL_law 656 = .ok (.goto 236, 3) := by decide +kernel
theorem dL_law_659 : decode cL_law 659 = .ok (.aload_n 1, 1) := by decide +kernel
theorem dL_law_660 : decode cL_law 660 = .ok (.aload_n 0, 1) := by decide +kernel
theorem dL_law_661 : decode cL_law 661 = .ok (.iload_n 3, 1) := by decide +kernel
theorem dL_law_662 : decode cL_law 662 = .ok (.iconst 1, 1) := by decide +kernel
theorem dL_law_663 : decode cL_law 663 = .ok (.iadd, 1) := by decide +kernel
theorem dL_law_664 : decode cL_law 664 = .ok (.iaload, 1) := by decide +kernel
theorem dL_law_665 : decode cL_law 665 = .ok (.aload_n 0, 1) := by decide +kernel
theorem dL_law_666 : decode cL_law 666 = .ok (.iload_n 3, 1) := by decide +kernel
theorem dL_law_667 : decode cL_law 667 = .ok (.iconst 2, 1) := by decide +kernel
theorem dL_law_668 : decode cL_law 668 = .ok (.iadd, 1) := by decide +kernel
theorem dL_law_669 : decode cL_law 669 = .ok (.iaload, 1) := by decide +kernel
theorem dL_law_670 : decode cL_law 670 = .ok (.invokevirtual 100, 3) := by decide +kernel
theorem dL_law_673 : decode cL_law 673 = .ok (.pop, 1) := by decide +kernel
theorem dL_law_674 : decode cL_law 674 = .ok (.aload_n 2, 1) := by decide +kernel
theorem dL_law_675 : decode cL_law 675 = .ok (.aload_n 0, 1) := by decide +kernel
theorem dL_law_676 : decode cL_law 676 = .ok (.iload_n 3, 1) := by decide +kernel
theorem dL_law_677 : decode cL_law 677 = .ok (.iconst 1, 1) := by decide +kernel
theorem dL_law_678 : decode cL_law 678 = .ok (.iadd, 1) := by decide +kernel
theorem dL_law_679 : decode cL_law 679 = .ok (.iaload, 1) := by decide +kernel
theorem dL_law_680 : decode cL_law 680 = .ok (.aload_n 0, 1) := by decide +kernel
theorem dL_law_681 : decode cL_law 681 = .ok (.iload_n 3, 1) := by decide +kernel
theorem dL_law_682 : decode cL_law 682 = .ok (.iconst 2, 1) := by decide +kernel
theorem dL_law_683 : decode cL_law 683 = .ok (.iadd, 1) := by decide +kernel
theorem dL_law_684 : decode cL_law 684 = .ok (.iaload, 1) := by decide +kernel
theorem dL_law_685 : decode cL_law 685 = .ok (.invokevirtual 103, 3) := by decide +kernel
theorem dL_law_688 : decode cL_law 688 = .ok (.pop, 1) := by decide +kernel
theorem dL_law_689 : decode cL_law 689 = .ok (.goto 203, 3) := by decide +kernel
theorem dL_law_692 : decode cL_law 692 = .ok (.aload_n 1, 1) := by decide +kernel
theorem dL_law_693 : decode cL_law 693 = .ok (.aload_n 0, 1) := by decide +kernel
theorem dL_law_694 : decode cL_law 694 = .ok (.iload_n 3, 1) := by decide +kernel
theorem dL_law_695 : decode cL_law 695 = .ok (.iconst 1, 1) := by decide +kernel
theorem dL_law_696 : decode cL_law 696 = .ok (.iadd, 1) := by decide +kernel
theorem dL_law_697 : decode cL_law 697 = .ok (.iaload, 1) := by decide +kernel
theorem dL_law_698 : decode cL_law 698 = .ok (.aload_n 0, 1) := by decide +kernel
theorem dL_law_699 : decode cL_law 699 = .ok (.iload_n 3, 1) := by decide +kernel
theorem dL_law_700 : decode cL_law 700 = .ok (.iconst 2, 1) := by decide +kernel
theorem dL_law_701 : decode cL_law 701 = .ok (.iadd, 1) := by decide +kernel
theorem dL_law_702 : decode cL_law 702 = .ok (.iaload, 1) := by decide +kernel
theorem dL_law_703 : decode cL_law 703 = .ok (.invokevirtual 104, 3) := by decide +kernel
theorem dL_law_706 : decode cL_law 706 = .ok (.pop2, 1) := by decide +kernel
theorem dL_law_707 : decode cL_law 707 = .ok (.aload_n 2, 1) := by decide +kernel
theorem dL_law_708 : decode cL_law 708 = .ok (.aload_n 0, 1) := by decide +kernel
theorem dL_law_709 : decode cL_law 709 = .ok (.iload_n 3, 1) := by decide +kernel
theorem dL_law_710 : decode cL_law 710 = .ok (.iconst 1, 1) := by decide +kernel
theorem dL_law_711 : decode cL_law 711 = .ok (.iadd, 1) := by decide +kernel
theorem dL_law_712 : decode cL_law 712 = .ok (.iaload, 1) := by decide +kernel
theorem dL_law_713 : decode cL_law 713 = .ok (.aload_n 0, 1) := by decide +kernel
theorem dL_law_714 : decode cL_law 714 = .ok (.iload_n 3, 1) := by decide +kernel
theorem dL_law_715 : decode cL_law 715 = .ok (.iconst 2, 1) := by decide +kernel
theorem dL_law_716 : decode cL_law 716 = .ok (.iadd, 1) := by decide +kernel
theorem dL_law_717 : decode cL_law 717 = .ok (.iaload, 1) := by decide +kernel
theorem dL_law_718 : decode cL_law 718 = .ok (.invokevirtual 108, 3) := by decide +kernel
theorem dL_law_721 : decode cL_law 721 = .ok (.pop2, 1) := by decide +kernel
theorem dL_law_722 : decode cL_law 722 = .ok (.goto 170, 3) := by decide +kernel
theorem dL_law_725 : decode cL_law 725 = .ok (.aload_n 1, 1) := by decide +kernel
theorem dL_law_726 : decode cL_law 726 = .ok (.aload_n 0, 1) := by decide +kernel
theorem dL_law_727 : decode cL_law 727 = .ok (.iload_n 3, 1) := by decide +kernel
theorem dL_law_728 : decode cL_law 728 = .ok (.iconst 1, 1) := by decide +kernel
theorem dL_law_729 : decode cL_law 729 = .ok (.iadd, 1) := by decide +kernel
theorem dL_law_730 : decode cL_law 730 = .ok (.iaload, 1) := by decide +kernel
theorem dL_law_731 : decode cL_law 731 = .ok (.invokevirtual 109, 3) := by decide +kernel
theorem dL_law_734 : decode cL_law 734 = .ok (.pop, 1) := by decide +kernel
theorem dL_law_735 : decode cL_law 735 = .ok (.aload_n 2, 1) := by decide +kernel
theorem dL_law_736 : decode cL_law 736 = .ok (.aload_n 0, 1) := by decide +kernel
theorem dL_law_737 : decode cL_law 737 = .ok (.iload_n 3, 1) := by decide +kernel
theorem dL_law_738 : decode cL_law 738 = .ok (.iconst 1, 1) := by decide +kernel
theorem dL_law_739 : decode cL_law 739 = .ok (.iadd, 1) := by decide +kernel
theorem dL_law_740 : decode cL_law 740 = .ok (.iaload, 1) := by decide +kernel
theorem dL_law_741 : decode cL_law 741 = .ok (.invokevirtual 112, 3) := by decide +kernel
theorem dL_law_744 : decode cL_law 744 = .ok (.pop, 1) := by decide +kernel
theorem dL_law_745 : decode cL_law 745 = .ok (.goto 147, 3) := by decide +kernel
theorem dL_law_748 : decode cL_law 748 = .ok (.aload_n 1, 1) := by decide +kernel
theorem dL_law_749 : decode cL_law 749 = .ok (.invokevirtual 113, 3) := by decide +kernel
theorem dL_law_752 : decode cL_law 752 = .ok (.pop, 1) := by decide +kernel
theorem dL_law_753 : decode cL_law 753 = .ok (.aload_n 2, 1) := by decide +kernel
theorem dL_law_754 : decode cL_law 754 = .ok (.invokevirtual 116, 3) := by decide +kernel
theorem dL_law_757 : decode cL_law 757 = .ok (.pop, 1) := by decide +kernel
theorem dL_law_758 : decode cL_law 758 = .ok (.goto 134, 3) := by decide +kernel
theorem dL_law_761 : decode cL_law 761 = .ok (.aload_n 1, 1) := by decide +kernel
theorem dL_law_762 : decode cL_law 762 = .ok (.invokevirtual 117, 3) := by decide +kernel
theorem dL_law_765 : decode cL_law 765 = .ok (.pop, 1) := by decide +kernel
theorem dL_law_766 : decode cL_law 766 = .ok (.aload_n 2, 1) := by decide +kernel
theorem dL_law_767 : decode cL_law 767 = .ok (.invokevirtual 120, 3) := by decide +kernel
theorem dL_law_770 : decode cL_law 770 = .ok (.pop, 1) := by decide +kernel
theorem dL_law_771 : decode cL_law 771 = .ok (.goto 121, 3) := by decide +kernel
theorem dL_law_774 : decode cL_law 774 = .ok (.aload_n 1, 1) := by decide +kernel
theorem dL_law_775 : decode cL_law 775 = .ok (.aload_n 0, 1) := by decide +kernel
theorem dL_law_776 : decode cL_law 776 = .ok (.iload_n 3, 1) := by decide +kernel
theorem dL_law_777 : decode cL_law 777 = .ok (.iconst 1, 1) := by decide +kernel
theorem dL_law_778 : decode cL_law 778 = .ok (.iadd, 1) := by decide +kernel
theorem dL_law_779 : decode cL_law 779 = .ok (.iaload, 1) := by decide +kernel
theorem dL_law_780 : decode cL_law 780 = .ok (.invokevirtual 121, 3) := by decide +kernel
theorem dL_law_783 : decode cL_law 783 = .ok (.pop, 1) := by decide +kernel
theorem dL_law_784 : decode cL_law 784 = .ok (.aload_n 2, 1) := by decide +kernel
theorem dL_law_785 : decode cL_law 785 = .ok (.aload_n 0, 1) := by decide +kernel
theorem dL_law_786 : decode cL_law 786 = .ok (.iload_n 3, 1) := by decide +kernel
theorem dL_law_787 : decode cL_law 787 = .ok (.iconst 1, 1) := by decide +kernel
theorem dL_law_788 : decode cL_law 788 = .ok (.iadd, 1) := by decide +kernel
theorem dL_law_789 : decode cL_law 789 = .ok (.iaload, 1) := by decide +kernel
theorem dL_law_790 : decode cL_law 790 = .ok (.invokevirtual 124, 3) := by decide +kernel
theorem dL_law_793 : decode cL_law 793 = .ok (.pop, 1) := by decide +kernel
theorem dL_law_794 : decode cL_law 794 = .ok (.goto 98, 3) := by decide +kernel
theorem dL_law_797 : decode cL_law 797 = .ok (.aload_n 1, 1) := by decide +kernel
theorem dL_law_798 : decode cL_law 798 = .ok (.invokevirtual 125, 3) := by decide +kernel
theorem dL_law_801 : decode cL_law 801 = .ok (.pop, 1) := by decide +kernel
theorem dL_law_802 : decode cL_law 802 = .ok (.aload_n 2, 1) := by decide +kernel
theorem dL_law_803 : decode cL_law 803 = .ok (.invokevirtual 128, 3) := by decide +kernel
theorem dL_law_806 : decode cL_law 806 = .ok (.pop, 1) := by decide +kernel
theorem dL_law_807 : decode cL_law 807 = .ok (.goto 85, 3) := by decide +kernel
theorem dL_law_810 : decode cL_law 810 = .ok (.aload_n 1, 1) := by decide +kernel
theorem dL_law_811 : decode cL_law 811 = .ok (.aload_n 0, 1) := by decide +kernel
theorem dL_law_812 : decode cL_law 812 = .ok (.iload_n 3, 1) := by decide +kernel
theorem dL_law_813 : decode cL_law 813 = .ok (.iconst 1, 1) := by decide +kernel
theorem dL_law_814 : decode cL_law 814 = .ok (.iadd, 1) := by decide +kernel
theorem dL_law_815 : decode cL_law 815 = .ok (.iaload, 1) := by decide +kernel
theorem dL_law_816 : decode cL_law 816 = .ok (.aload_n 0, 1) := by decide +kernel
theorem dL_law_817 : decode cL_law 817 = .ok (.iload_n 3, 1) := by decide +kernel
theorem dL_law_818 : decode cL_law 818 = .ok (.iconst 2, 1) := by decide +kernel
theorem dL_law_819 : decode cL_law 819 = .ok (.iadd, 1) := by decide +kernel
theorem dL_law_820 : decode cL_law 820 = .ok (.iaload, 1) := by decide +kernel
theorem dL_law_821 : decode cL_law 821 = .ok (.invokevirtual 129, 3) := by decide +kernel
theorem dL_law_824 : decode cL_law 824 = .ok (.pop, 1) := by decide +kernel
theorem dL_law_825 : decode cL_law 825 = .ok (.aload_n 2, 1) := by decide +kernel
theorem dL_law_826 : decode cL_law 826 = .ok (.aload_n 0, 1) := by decide +kernel
theorem dL_law_827 : decode cL_law 827 = .ok (.iload_n 3, 1) := by decide +kernel
theorem dL_law_828 : decode cL_law 828 = .ok (.iconst 1, 1) := by decide +kernel
theorem dL_law_829 : decode cL_law 829 = .ok (.iadd, 1) := by decide +kernel
theorem dL_law_830 : decode cL_law 830 = .ok (.iaload, 1) := by decide +kernel
theorem dL_law_831 : decode cL_law 831 = .ok (.aload_n 0, 1) := by decide +kernel
theorem dL_law_832 : decode cL_law 832 = .ok (.iload_n 3, 1) := by decide +kernel
theorem dL_law_833 : decode cL_law 833 = .ok (.iconst 2, 1) := by decide +kernel
theorem dL_law_834 : decode cL_law 834 = .ok (.iadd, 1) := by decide +kernel
theorem dL_law_835 : decode cL_law 835 = .ok (.iaload, 1) := by decide +kernel
theorem dL_law_836 : decode cL_law 836 = .ok (.invokevirtual 132, 3) := by decide +kernel
theorem dL_law_839 : decode cL_law 839 = .ok (.pop, 1) := by decide +kernel
theorem dL_law_840 : decode cL_law 840 = .ok (.goto 52, 3) := by decide +kernel
theorem dL_law_843 : decode cL_law 843 = .ok (.aload_n 1, 1) := by decide +kernel
theorem dL_law_844 : decode cL_law 844 = .ok (.invokevirtual 133, 3) := by decide +kernel
theorem dL_law_847 : decode cL_law 847 = .ok (.pop, 1) := by decide +kernel
theorem dL_law_848 : decode cL_law 848 = .ok (.aload_n 2, 1) := by decide +kernel
theorem dL_law_849 : decode cL_law 849 = .ok (.invokevirtual 136, 3) := by decide +kernel
theorem dL_law_852 : decode cL_law 852 = .ok (.pop, 1) := by decide +kernel
theorem dL_law_853 : decode cL_law 853 = .ok (.goto 39, 3) := by decide +kernel
theorem dL_law_856 : decode cL_law 856 = .ok (.aload_n 1, 1) := by decide +kernel
theorem dL_law_857 : decode cL_law 857 = .ok (.invokevirtual 137, 3) := by decide +kernel
theorem dL_law_860 : decode cL_law 860 = .ok (.pop, 1) := by decide +kernel
theorem dL_law_861 : decode cL_law 861 = .ok (.aload_n 2, 1) := by decide +kernel
theorem dL_law_862 : decode cL_law 862 = .ok (.invokevirtual 140, 3) := by decide +kernel
theorem dL_law_865 : decode cL_law 865 = .ok (.pop, 1) := by decide +kernel
theorem dL_law_866 : decode cL_law 866 = .ok (.goto 26, 3) := by decide +kernel
theorem dL_law_869 : decode cL_law 869 = .ok (.aload_n 1, 1) := by decide +kernel
theorem dL_law_870 : decode cL_law 870 = .ok (.aload_n 0, 1) := by decide +kernel
theorem dL_law_871 : decode cL_law 871 = .ok (.iload_n 3, 1) := by decide +kernel
theorem dL_law_872 : decode cL_law 872 = .ok (.iconst 1, 1) := by decide +kernel
theorem dL_law_873 : decode cL_law 873 = .ok (.iadd, 1) := by decide +kernel
theorem dL_law_874 : decode cL_law 874 = .ok (.iaload, 1) := by decide +kernel
theorem dL_law_875 : decode cL_law 875 = .ok (.invokevirtual 141, 3) := by decide +kernel
theorem dL_law_878 : decode cL_law 878 = .ok (.pop, 1) := by decide +kernel
theorem dL_law_879 : decode cL_law 879 = .ok (.aload_n 2, 1) := by decide +kernel
theorem dL_law_880 : decode cL_law 880 = .ok (.aload_n 0, 1) := by decide +kernel
theorem dL_law_881 : decode cL_law 881 = .ok (.iload_n 3, 1) := by decide +kernel
theorem dL_law_882 : decode cL_law 882 = .ok (.iconst 1, 1) := by decide +kernel
theorem dL_law_883 : decode cL_law 883 = .ok (.iadd, 1) := by decide +kernel
theorem dL_law_884 : decode cL_law 884 = .ok (.iaload, 1) := by decide +kernel
theorem dL_law_885 : decode cL_law 885 = .ok (.invokevirtual 144, 3) := by decide +kernel
theorem dL_law_888 : decode cL_law 888 = .ok (.pop, 1) := by decide +kernel
theorem dL_law_889 : decode cL_law 889 = .ok (.goto 3, 3) := by decide +kernel
theorem dL_law_892 : decode cL_law 892 = .ok (.iinc 3 3, 3) := by decide +kernel
theorem dL_law_895 : decode cL_law 895 = .ok (.goto (-877), 3) := by decide +kernel
theorem dL_law_898 : decode cL_law 898 = .ok (.iconst 1, 1) := by decide +kernel
theorem dL_law_899 : decode cL_law 899 = .ok (.ireturn, 1) := by decide +kernel
