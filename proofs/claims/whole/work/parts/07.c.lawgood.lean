set_option maxRecDepth 20000 in
theorem ggL_law_X7_weightAs : GoodIn wsL_law wsX7_weightAs := goodIn_r _ [498, 40, 418, 419, 420, 2, 421, 234, 22, 422, 423, 424, 21, 425, 249, 438, 439, 440, 441, 30, 442, 443, 444, 445, 322, 323, 446, 447, 448, 449, 26, 450, 233, 451, 452, 453, 454, 52, 250, 57, 283, 332, 333, 334, 335, 455, 456, 457, 458, 459, 460, 461, 499, 500, 501, 115, 116, 117, 118, 119, 815, 816, 817, 818, 819, 820, 821, 822, 823, 824, 825, 863, 864, 865, 866, 867, 868, 869, 870, 874, 875, 876, 877, 878, 871, 872, 873, 860, 861, 862] (by decide +kernel) (by decide +kernel)
set_option maxRecDepth 20000 in
theorem gL_law_X7_weightAs : GoodIn wsL_law (wsV RL 65 RX7 yX7_weightAs wsX7_weightAs) := goodIn_app (goodIn_of _ (by decide +kernel)) ggL_law_X7_weightAs
set_option maxRecDepth 20000 in
theorem ggL_law_X8_weightAs : GoodIn wsL_law wsX8_weightAs := goodIn_r _ [505, 133, 506, 367, 98, 135, 136, 5, 137, 430, 431, 432, 433, 368, 466, 467, 468, 469, 363, 364, 470, 471, 472, 473, 365, 474, 96, 102, 103, 104, 475, 476, 477, 478, 362, 94, 95, 377, 378, 379, 380, 92, 93, 479, 480, 481, 482, 483, 484, 485, 486, 487, 488, 489, 490, 491, 492, 493, 494, 138, 139, 140, 141, 142, 826, 827, 828, 829, 830, 831, 832, 833, 834, 835, 836, 837, 838, 839, 840, 841, 842, 843, 844, 845, 846, 847, 848, 849, 850, 851, 852, 853, 854, 855, 856, 857, 858, 859] (by decide +kernel) (by decide +kernel)
set_option maxRecDepth 20000 in
theorem gL_law_X8_weightAs : GoodIn wsL_law (wsV RL 68 RX8 yX8_weightAs wsX8_weightAs) := goodIn_app (goodIn_of _ (by decide +kernel)) ggL_law_X8_weightAs
set_option maxRecDepth 20000 in
theorem ggL_law_X7_crosses : GoodIn wsL_law wsX7_crosses := goodIn_r _ [510, 22, 511, 418, 419, 420, 2, 421, 234, 422, 423, 424, 21, 425, 249, 445, 322, 323, 815, 816, 817, 818, 819, 820, 821, 822, 823, 824, 825, 863, 864, 865, 866, 867, 868, 869, 870] (by decide +kernel) (by decide +kernel)
set_option maxRecDepth 20000 in
theorem gL_law_X7_crosses : GoodIn wsL_law (wsV RL 69 RX7 yX7_crosses wsX7_crosses) := goodIn_app (goodIn_of _ (by decide +kernel)) ggL_law_X7_crosses
set_option maxRecDepth 20000 in
theorem ggL_law_X8_crosses : GoodIn wsL_law wsX8_crosses := goodIn_r _ [515, 133, 367, 97, 430, 431, 432, 5, 433, 368, 135, 136, 137, 826, 827, 828, 829, 830, 831, 832, 833, 834, 835, 836, 837, 838, 839, 840, 841, 842, 843, 844, 845, 846, 847, 848, 849, 850, 851, 852, 853, 854, 855, 856, 857, 858, 859] (by decide +kernel) (by decide +kernel)
set_option maxRecDepth 20000 in
theorem gL_law_X8_crosses : GoodIn wsL_law (wsV RL 72 RX8 yX8_crosses wsX8_crosses) := goodIn_app (goodIn_of _ (by decide +kernel)) ggL_law_X8_crosses
set_option maxRecDepth 20000 in
theorem ggL_law_X7_tell : GoodIn wsL_law wsX7_tell := goodIn_r _ [519, 30, 26, 38, 520, 418, 419, 420, 2, 421, 234, 22, 422, 423, 424, 21, 425, 249, 446, 447, 448, 449, 450, 233, 445, 322, 323, 521, 522, 523, 29, 524, 344, 345, 346, 347, 348, 349, 350, 351, 67, 352, 66, 353, 354, 355, 37, 356, 357, 815, 816, 817, 818, 819, 820, 821, 822, 823, 824, 825, 874, 875, 876, 877, 878, 863, 864, 865, 866, 867, 868, 869, 870, 871, 872, 873, 882, 883, 884] (by decide +kernel) (by decide +kernel)
set_option maxRecDepth 20000 in
theorem gL_law_X7_tell : GoodIn wsL_law (wsV RL 73 RX7 yX7_tell wsX7_tell) := goodIn_app (goodIn_of _ (by decide +kernel)) ggL_law_X7_tell
set_option maxRecDepth 20000 in
theorem ggL_law_X8_tell : GoodIn wsL_law wsX8_tell := goodIn_r _ [528, 133, 529, 367, 365, 363, 364, 366, 398, 135, 136, 5, 137, 430, 431, 432, 433, 368, 394, 395, 396, 397, 389, 99, 100, 826, 827, 828, 829, 830, 831, 832, 833, 834, 835, 836, 837, 838, 839, 840, 841, 842, 843, 844, 845, 846, 847, 848, 849, 850, 851, 852, 853, 854, 855, 856, 857, 858, 859] (by decide +kernel) (by decide +kernel)
set_option maxRecDepth 20000 in
theorem gL_law_X8_tell : GoodIn wsL_law (wsV RL 76 RX8 yX8_tell wsX8_tell) := goodIn_app (goodIn_of _ (by decide +kernel)) ggL_law_X8_tell
set_option maxRecDepth 20000 in
theorem ggL_law_X7_weigh : GoodIn wsL_law wsX7_weigh := goodIn_r _ [533, 40, 418, 419, 420, 2, 421, 234, 22, 422, 423, 424, 21, 425, 249, 815, 816, 817, 818, 819, 820, 821, 822, 823, 824, 825, 863, 864, 865, 866, 867, 868, 869, 870] (by decide +kernel) (by decide +kernel)
set_option maxRecDepth 20000 in
theorem gL_law_X7_weigh : GoodIn wsL_law (wsV RL 77 RX7 yX7_weigh wsX7_weigh) := goodIn_app (goodIn_of _ (by decide +kernel)) ggL_law_X7_weigh
set_option maxRecDepth 20000 in
theorem ggL_law_X8_weigh : GoodIn wsL_law wsX8_weigh := goodIn_r _ [537, 133, 538, 539, 367, 98, 135, 136, 5, 137, 430, 431, 432, 433, 368, 826, 827, 828, 829, 830, 831, 832, 833, 834, 835, 836, 837, 838, 839, 840, 841, 842, 843, 844, 845, 846, 847, 848, 849, 850, 851, 852, 853, 854, 855, 856, 857, 858, 859] (by decide +kernel) (by decide +kernel)
set_option maxRecDepth 20000 in
theorem gL_law_X8_weigh : GoodIn wsL_law (wsV RL 80 RX8 yX8_weigh wsX8_weigh) := goodIn_app (goodIn_of _ (by decide +kernel)) ggL_law_X8_weigh
set_option maxRecDepth 20000 in
theorem ggL_law_X7_cutting : GoodIn wsL_law wsX7_cutting := goodIn_r _ [543, 234, 544, 446, 447, 448, 2, 449, 26, 450, 233, 815, 816, 817, 818, 819, 820, 821, 822, 823, 824, 825, 871, 872, 873] (by decide +kernel) (by decide +kernel)
set_option maxRecDepth 20000 in
theorem gL_law_X7_cutting : GoodIn wsL_law (wsV RL 81 RX7 yX7_cutting wsX7_cutting) := goodIn_app (goodIn_of _ (by decide +kernel)) ggL_law_X7_cutting
set_option maxRecDepth 20000 in
theorem ggL_law_X8_cutting : GoodIn wsL_law wsX8_cutting := goodIn_r _ [548, 133, 367, 365, 549, 826, 827, 828, 829, 830, 831, 832, 833, 834, 835, 836, 837, 838, 839, 840, 841, 842, 843, 844, 845, 846, 847, 848, 849, 850, 851, 852, 853, 854, 855, 856, 857, 858, 859] (by decide +kernel) (by decide +kernel)
set_option maxRecDepth 20000 in
theorem gL_law_X8_cutting : GoodIn wsL_law (wsV RL 85 RX8 yX8_cutting wsX8_cutting) := goodIn_app (goodIn_of _ (by decide +kernel)) ggL_law_X8_cutting
set_option maxRecDepth 20000 in
theorem ggL_law_X7_has : GoodIn wsL_law wsX7_has := goodIn_r _ [553, 418, 419, 420, 2, 421, 234, 22, 422, 423, 424, 21, 425, 249, 446, 447, 448, 449, 26, 450, 233, 445, 322, 323, 815, 816, 817, 818, 819, 820, 821, 822, 823, 824, 825, 863, 864, 865, 866, 867, 868, 869, 870, 871, 872, 873] (by decide +kernel) (by decide +kernel)
set_option maxRecDepth 20000 in
theorem gL_law_X7_has : GoodIn wsL_law (wsV RL 86 RX7 yX7_has wsX7_has) := goodIn_app (goodIn_of _ (by decide +kernel)) ggL_law_X7_has
set_option maxRecDepth 20000 in
theorem ggL_law_X8_has : GoodIn wsL_law wsX8_has := goodIn_r _ [557, 133, 367, 365, 430, 431, 432, 5, 433, 368, 135, 136, 137, 826, 827, 828, 829, 830, 831, 832, 833, 834, 835, 836, 837, 838, 839, 840, 841, 842, 843, 844, 845, 846, 847, 848, 849, 850, 851, 852, 853, 854, 855, 856, 857, 858, 859] (by decide +kernel) (by decide +kernel)
set_option maxRecDepth 20000 in
theorem gL_law_X8_has : GoodIn wsL_law (wsV RL 89 RX8 yX8_has wsX8_has) := goodIn_app (goodIn_of _ (by decide +kernel)) ggL_law_X8_has
set_option maxRecDepth 20000 in
theorem ggL_law_X7_thirds : GoodIn wsL_law wsX7_thirds := goodIn_r _ [561, 234, 22, 446, 447, 448, 2, 449, 26, 450, 233, 562, 563, 564, 21, 565, 249, 54, 52, 250, 332, 333, 334, 335, 57, 815, 816, 817, 818, 819, 820, 821, 822, 823, 824, 825, 871, 872, 873, 863, 864, 865, 866, 867, 868, 869, 870, 860, 861, 862] (by decide +kernel) (by decide +kernel)
set_option maxRecDepth 20000 in
theorem gL_law_X7_thirds : GoodIn wsL_law (wsV RL 90 RX7 yX7_thirds wsX7_thirds) := goodIn_app (goodIn_of _ (by decide +kernel)) ggL_law_X7_thirds
set_option maxRecDepth 20000 in
theorem ggL_law_X8_thirds : GoodIn wsL_law wsX8_thirds := goodIn_r _ [569, 133, 367, 365, 474, 479, 480, 481, 5, 482, 362, 102, 103, 104, 483, 484, 485, 486, 377, 378, 379, 380, 92, 93, 487, 488, 489, 490, 96, 491, 492, 493, 494, 826, 827, 828, 829, 830, 831, 832, 833, 834, 835, 836, 837, 838, 839, 840, 841, 842, 843, 844, 845, 846, 847, 848, 849, 850, 851, 852, 853, 854, 855, 856, 857, 858, 859] (by decide +kernel) (by decide +kernel)
set_option maxRecDepth 20000 in
theorem gL_law_X8_thirds : GoodIn wsL_law (wsV RL 93 RX8 yX8_thirds wsX8_thirds) := goodIn_app (goodIn_of _ (by decide +kernel)) ggL_law_X8_thirds
set_option maxRecDepth 20000 in
theorem ggL_law_X7_third : GoodIn wsL_law wsX7_third := goodIn_r _ [573, 234, 22, 446, 447, 448, 2, 449, 26, 450, 233, 574, 575, 576, 21, 577, 249, 54, 52, 250, 53, 332, 333, 334, 335, 57, 815, 816, 817, 818, 819, 820, 821, 822, 823, 824, 825, 871, 872, 873, 863, 864, 865, 866, 867, 868, 869, 870, 860, 861, 862] (by decide +kernel) (by decide +kernel)
set_option maxRecDepth 20000 in
theorem gL_law_X7_third : GoodIn wsL_law (wsV RL 94 RX7 yX7_third wsX7_third) := goodIn_app (goodIn_of _ (by decide +kernel)) ggL_law_X7_third
set_option maxRecDepth 20000 in
theorem ggL_law_X8_third : GoodIn wsL_law wsX8_third := goodIn_r _ [581, 133, 529, 367, 365, 474, 102, 103, 104, 135, 136, 5, 137, 479, 480, 481, 482, 362, 483, 484, 485, 486, 377, 378, 379, 380, 92, 93, 487, 488, 489, 490, 96, 491, 492, 493, 494, 826, 827, 828, 829, 830, 831, 832, 833, 834, 835, 836, 837, 838, 839, 840, 841, 842, 843, 844, 845, 846, 847, 848, 849, 850, 851, 852, 853, 854, 855, 856, 857, 858, 859] (by decide +kernel) (by decide +kernel)
set_option maxRecDepth 20000 in
theorem gL_law_X8_third : GoodIn wsL_law (wsV RL 97 RX8 yX8_third wsX8_third) := goodIn_app (goodIn_of _ (by decide +kernel)) ggL_law_X8_third
set_option maxRecDepth 20000 in
theorem ggL_law_X7_degree : GoodIn wsL_law wsX7_degree := goodIn_r _ [585, 234, 22, 403, 404, 405, 21, 406, 52, 250, 586, 587, 588, 589, 297, 298, 299, 300, 56, 446, 447, 448, 2, 449, 26, 450, 233, 590, 456, 457, 458, 459, 460, 461, 815, 816, 817, 818, 819, 820, 821, 822, 823, 824, 825, 863, 864, 865, 866, 867, 868, 869, 870, 860, 861, 862, 871, 872, 873] (by decide +kernel) (by decide +kernel)
set_option maxRecDepth 20000 in
theorem gL_law_X7_degree : GoodIn wsL_law (wsV RL 98 RX7 yX7_degree wsX7_degree) := goodIn_app (goodIn_of _ (by decide +kernel)) ggL_law_X7_degree
set_option maxRecDepth 20000 in
theorem ggL_law_X8_degree : GoodIn wsL_law wsX8_degree := goodIn_r _ [594, 133, 367, 362, 365, 135, 136, 5, 137, 487, 488, 489, 490, 96, 826, 827, 828, 829, 830, 831, 832, 833, 834, 835, 836, 837, 838, 839, 840, 841, 842, 843, 844, 845, 846, 847, 848, 849, 850, 851, 852, 853, 854, 855, 856, 857, 858, 859] (by decide +kernel) (by decide +kernel)
set_option maxRecDepth 20000 in
theorem gL_law_X8_degree : GoodIn wsL_law (wsV RL 101 RX8 yX8_degree wsX8_degree) := goodIn_app (goodIn_of _ (by decide +kernel)) ggL_law_X8_degree
set_option maxRecDepth 20000 in
theorem ggL_law_X7_turns : GoodIn wsL_law wsX7_turns := goodIn_r _ [598, 418, 419, 420, 2, 421, 234, 22, 422, 423, 424, 21, 425, 249, 599, 600, 601, 602, 26, 233, 30, 603, 604, 605, 606, 25, 607, 62, 446, 447, 448, 449, 450, 608, 329, 330, 331, 52, 250, 53, 54, 332, 333, 334, 335, 57, 275, 276, 277, 17, 278, 259, 260, 261, 262, 46, 47, 297, 298, 299, 300, 56, 815, 816, 817, 818, 819, 820, 821, 822, 823, 824, 825, 863, 864, 865, 866, 867, 868, 869, 870, 874, 875, 876, 877, 878, 871, 872, 873, 860, 861, 862] (by decide +kernel) (by decide +kernel)
set_option maxRecDepth 20000 in
theorem gL_law_X7_turns : GoodIn wsL_law (wsV RL 102 RX7 yX7_turns wsX7_turns) := goodIn_app (goodIn_of _ (by decide +kernel)) ggL_law_X7_turns
set_option maxRecDepth 20000 in
theorem ggL_law_X8_turns : GoodIn wsL_law wsX8_turns := goodIn_r _ [612, 133, 367, 365, 430, 431, 432, 5, 433, 368, 135, 136, 137, 613, 614, 615, 616, 363, 94, 95, 362, 96, 364, 483, 484, 485, 486, 377, 378, 379, 380, 92, 93, 487, 488, 489, 490, 491, 492, 493, 494, 826, 827, 828, 829, 830, 831, 832, 833, 834, 835, 836, 837, 838, 839, 840, 841, 842, 843, 844, 845, 846, 847, 848, 849, 850, 851, 852, 853, 854, 855, 856, 857, 858, 859] (by decide +kernel) (by decide +kernel)
set_option maxRecDepth 20000 in
theorem gL_law_X8_turns : GoodIn wsL_law (wsV RL 105 RX8 yX8_turns wsX8_turns) := goodIn_app (goodIn_of _ (by decide +kernel)) ggL_law_X8_turns
set_option maxRecDepth 20000 in
theorem ggL_law_X7_turn : GoodIn wsL_law wsX7_turn := goodIn_r _ [620, 26, 233, 418, 419, 420, 2, 421, 234, 22, 422, 423, 424, 21, 425, 249, 599, 600, 601, 602, 30, 603, 604, 605, 606, 25, 607, 62, 446, 447, 448, 449, 450, 608, 329, 330, 331, 52, 250, 53, 54, 332, 333, 334, 335, 57, 275, 276, 277, 17, 278, 259, 260, 261, 262, 46, 47, 297, 298, 299, 300, 56, 621, 622, 623, 624, 38, 625, 626, 627, 37, 628, 76, 629, 357, 630, 631, 632, 633, 815, 816, 817, 818, 819, 820, 821, 822, 823, 824, 825, 863, 864, 865, 866, 867, 868, 869, 870, 874, 875, 876, 877, 878, 871, 872, 873, 860, 861, 862, 882, 883, 884] (by decide +kernel) (by decide +kernel)
set_option maxRecDepth 20000 in
theorem gL_law_X7_turn : GoodIn wsL_law (wsV RL 106 RX7 yX7_turn wsX7_turn) := goodIn_app (goodIn_of _ (by decide +kernel)) ggL_law_X7_turn
set_option maxRecDepth 20000 in
theorem ggL_law_X8_turn : GoodIn wsL_law wsX8_turn := goodIn_r _ [637, 133, 367, 365, 430, 431, 432, 5, 433, 368, 135, 136, 137, 613, 614, 615, 616, 363, 94, 95, 362, 96, 364, 483, 484, 485, 486, 377, 378, 379, 380, 92, 93, 487, 488, 489, 490, 491, 492, 493, 494, 638, 639, 640, 641, 366, 101, 826, 827, 828, 829, 830, 831, 832, 833, 834, 835, 836, 837, 838, 839, 840, 841, 842, 843, 844, 845, 846, 847, 848, 849, 850, 851, 852, 853, 854, 855, 856, 857, 858, 859] (by decide +kernel) (by decide +kernel)
set_option maxRecDepth 20000 in
theorem gL_law_X8_turn : GoodIn wsL_law (wsV RL 109 RX8 yX8_turn wsX8_turn) := goodIn_app (goodIn_of _ (by decide +kernel)) ggL_law_X8_turn
set_option maxRecDepth 20000 in
theorem ggL_law_X7_back : GoodIn wsL_law wsX7_back := goodIn_r _ [645, 234, 38, 646, 233, 647, 648, 649, 37, 650, 629, 357, 76, 815, 816, 817, 818, 819, 820, 821, 822, 823, 824, 825, 882, 883, 884] (by decide +kernel) (by decide +kernel)
set_option maxRecDepth 20000 in
theorem gL_law_X7_back : GoodIn wsL_law (wsV RL 110 RX7 yX7_back wsX7_back) := goodIn_app (goodIn_of _ (by decide +kernel)) ggL_law_X7_back
set_option maxRecDepth 20000 in
theorem ggL_law_X8_back : GoodIn wsL_law wsX8_back := goodIn_r _ [654, 133, 367, 366, 101, 365, 826, 827, 828, 829, 830, 831, 832, 833, 834, 835, 836, 837, 838, 839, 840, 841, 842, 843, 844, 845, 846, 847, 848, 849, 850, 851, 852, 853, 854, 855, 856, 857, 858, 859] (by decide +kernel) (by decide +kernel)
set_option maxRecDepth 20000 in
theorem gL_law_X8_back : GoodIn wsL_law (wsV RL 113 RX8 yX8_back wsX8_back) := goodIn_app (goodIn_of _ (by decide +kernel)) ggL_law_X8_back
