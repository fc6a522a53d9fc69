set_option maxRecDepth 20000 in
theorem ggL_law_X7_count : GoodIn wsL_law wsX7_count := goodIn_r _ [658, 234, 30, 520, 815, 816, 817, 818, 819, 820, 821, 822, 823, 824, 825, 874, 875, 876, 877, 878] (by decide +kernel) (by decide +kernel)
set_option maxRecDepth 20000 in
theorem gL_law_X7_count : GoodIn wsL_law (wsV RL 114 RX7 yX7_count wsX7_count) := goodIn_app (goodIn_of _ (by decide +kernel)) ggL_law_X7_count
set_option maxRecDepth 20000 in
theorem ggL_law_X8_count : GoodIn wsL_law wsX8_count := goodIn_r _ [662, 133, 367, 398, 826, 827, 828, 829, 830, 831, 832, 833, 834, 835, 836, 837, 838, 839, 840, 841, 842, 843, 844, 845, 846, 847, 848, 849, 850, 851, 852, 853, 854, 855, 856, 857, 858, 859] (by decide +kernel) (by decide +kernel)
set_option maxRecDepth 20000 in
theorem gL_law_X8_count : GoodIn wsL_law (wsV RL 117 RX8 yX8_count wsX8_count) := goodIn_app (goodIn_of _ (by decide +kernel)) ggL_law_X8_count
set_option maxRecDepth 20000 in
theorem ggL_law_X7_rank : GoodIn wsL_law wsX7_rank := goodIn_r _ [666, 234, 30, 603, 233, 815, 816, 817, 818, 819, 820, 821, 822, 823, 824, 825, 874, 875, 876, 877, 878] (by decide +kernel) (by decide +kernel)
set_option maxRecDepth 20000 in
theorem gL_law_X7_rank : GoodIn wsL_law (wsV RL 118 RX7 yX7_rank wsX7_rank) := goodIn_app (goodIn_of _ (by decide +kernel)) ggL_law_X7_rank
set_option maxRecDepth 20000 in
theorem ggL_law_X8_rank : GoodIn wsL_law wsX8_rank := goodIn_r _ [670, 133, 367, 365, 671, 672, 673, 5, 674, 100, 826, 827, 828, 829, 830, 831, 832, 833, 834, 835, 836, 837, 838, 839, 840, 841, 842, 843, 844, 845, 846, 847, 848, 849, 850, 851, 852, 853, 854, 855, 856, 857, 858, 859] (by decide +kernel) (by decide +kernel)
set_option maxRecDepth 20000 in
theorem gL_law_X8_rank : GoodIn wsL_law (wsV RL 121 RX8 yX8_rank wsX8_rank) := goodIn_app (goodIn_of _ (by decide +kernel)) ggL_law_X8_rank
set_option maxRecDepth 20000 in
theorem ggL_law_X7_of : GoodIn wsL_law wsX7_of := goodIn_r _ [678, 679, 680, 681, 2, 682, 234, 30, 520, 683, 684, 685, 686, 26, 450, 687, 815, 816, 817, 818, 819, 820, 821, 822, 823, 824, 825, 874, 875, 876, 877, 878, 871, 872, 873] (by decide +kernel) (by decide +kernel)
set_option maxRecDepth 20000 in
theorem gL_law_X7_of : GoodIn wsL_law (wsV RL 122 RX7 yX7_of wsX7_of) := goodIn_app (goodIn_of _ (by decide +kernel)) ggL_law_X7_of
set_option maxRecDepth 20000 in
theorem ggL_law_X8_of : GoodIn wsL_law wsX8_of := goodIn_r _ [691, 133, 367, 549, 692, 100, 693, 694, 695, 5, 696, 398, 135, 136, 137, 826, 827, 828, 829, 830, 831, 832, 833, 834, 835, 836, 837, 838, 839, 840, 841, 842, 843, 844, 845, 846, 847, 848, 849, 850, 851, 852, 853, 854, 855, 856, 857, 858, 859] (by decide +kernel) (by decide +kernel)
set_option maxRecDepth 20000 in
theorem gL_law_X8_of : GoodIn wsL_law (wsV RL 126 RX8 yX8_of wsX8_of) := goodIn_app (goodIn_of _ (by decide +kernel)) ggL_law_X8_of
set_option maxRecDepth 20000 in
theorem ggL_law_X7_go : GoodIn wsL_law wsX7_go := goodIn_r _ [700, 30, 687, 679, 680, 681, 2, 682, 234, 520, 621, 622, 623, 624, 38, 233, 625, 626, 627, 37, 628, 76, 629, 357, 630, 631, 632, 633, 815, 816, 817, 818, 819, 820, 821, 822, 823, 824, 825, 874, 875, 876, 877, 878, 882, 883, 884] (by decide +kernel) (by decide +kernel)
set_option maxRecDepth 20000 in
theorem gL_law_X7_go : GoodIn wsL_law (wsV RL 127 RX7 yX7_go wsX7_go) := goodIn_app (goodIn_of _ (by decide +kernel)) ggL_law_X7_go
set_option maxRecDepth 20000 in
theorem ggL_law_X8_go : GoodIn wsL_law wsX8_go := goodIn_r _ [704, 133, 367, 100, 365, 693, 694, 695, 5, 696, 398, 135, 136, 137, 638, 639, 640, 641, 366, 101, 826, 827, 828, 829, 830, 831, 832, 833, 834, 835, 836, 837, 838, 839, 840, 841, 842, 843, 844, 845, 846, 847, 848, 849, 850, 851, 852, 853, 854, 855, 856, 857, 858, 859] (by decide +kernel) (by decide +kernel)
set_option maxRecDepth 20000 in
theorem gL_law_X8_go : GoodIn wsL_law (wsV RL 130 RX8 yX8_go wsX8_go) := goodIn_app (goodIn_of _ (by decide +kernel)) ggL_law_X8_go
set_option maxRecDepth 20000 in
theorem ggL_law_X7_sure : GoodIn wsL_law wsX7_sure := goodIn_r _ [708, 30, 520, 418, 419, 420, 2, 421, 234, 22, 422, 423, 424, 21, 425, 249, 683, 684, 685, 686, 26, 450, 687, 445, 322, 323, 815, 816, 817, 818, 819, 820, 821, 822, 823, 824, 825, 874, 875, 876, 877, 878, 863, 864, 865, 866, 867, 868, 869, 870, 871, 872, 873] (by decide +kernel) (by decide +kernel)
set_option maxRecDepth 20000 in
theorem gL_law_X7_sure : GoodIn wsL_law (wsV RL 131 RX7 yX7_sure wsX7_sure) := goodIn_app (goodIn_of _ (by decide +kernel)) ggL_law_X7_sure
set_option maxRecDepth 20000 in
theorem ggL_law_X8_sure : GoodIn wsL_law wsX8_sure := goodIn_r _ [712, 133, 367, 398, 100, 430, 431, 432, 5, 433, 368, 135, 136, 137, 826, 827, 828, 829, 830, 831, 832, 833, 834, 835, 836, 837, 838, 839, 840, 841, 842, 843, 844, 845, 846, 847, 848, 849, 850, 851, 852, 853, 854, 855, 856, 857, 858, 859] (by decide +kernel) (by decide +kernel)
set_option maxRecDepth 20000 in
theorem gL_law_X8_sure : GoodIn wsL_law (wsV RL 134 RX8 yX8_sure wsX8_sure) := goodIn_app (goodIn_of _ (by decide +kernel)) ggL_law_X8_sure
set_option maxRecDepth 20000 in
theorem ggL_law_X7_best : GoodIn wsL_law wsX7_best := goodIn_r _ [716, 234, 717, 718, 719, 2, 720, 30, 520, 683, 684, 685, 686, 26, 450, 687, 721, 722, 723, 724, 22, 235, 40, 445, 322, 323, 815, 816, 817, 818, 819, 820, 821, 822, 823, 824, 825, 874, 875, 876, 877, 878, 871, 872, 873, 863, 864, 865, 866, 867, 868, 869, 870] (by decide +kernel) (by decide +kernel)
set_option maxRecDepth 20000 in
theorem gL_law_X7_best : GoodIn wsL_law (wsV RL 135 RX7 yX7_best wsX7_best) := goodIn_app (goodIn_of _ (by decide +kernel)) ggL_law_X7_best
set_option maxRecDepth 20000 in
theorem ggL_law_X8_best : GoodIn wsL_law wsX8_best := goodIn_r _ [728, 133, 367, 100, 729, 730, 731, 5, 732, 398, 733, 734, 735, 736, 368, 98, 826, 827, 828, 829, 830, 831, 832, 833, 834, 835, 836, 837, 838, 839, 840, 841, 842, 843, 844, 845, 846, 847, 848, 849, 850, 851, 852, 853, 854, 855, 856, 857, 858, 859] (by decide +kernel) (by decide +kernel)
set_option maxRecDepth 20000 in
theorem gL_law_X8_best : GoodIn wsL_law (wsV RL 139 RX8 yX8_best wsX8_best) := goodIn_app (goodIn_of _ (by decide +kernel)) ggL_law_X8_best
set_option maxRecDepth 20000 in
theorem ggL_law_X7_bestRank : GoodIn wsL_law wsX7_bestRank := goodIn_r _ [740, 234, 717, 718, 719, 2, 720, 30, 520, 683, 684, 685, 686, 26, 450, 687, 721, 722, 723, 724, 22, 235, 40, 445, 322, 323, 815, 816, 817, 818, 819, 820, 821, 822, 823, 824, 825, 874, 875, 876, 877, 878, 871, 872, 873, 863, 864, 865, 866, 867, 868, 869, 870] (by decide +kernel) (by decide +kernel)
set_option maxRecDepth 20000 in
theorem gL_law_X7_bestRank : GoodIn wsL_law (wsV RL 140 RX7 yX7_bestRank wsX7_bestRank) := goodIn_app (goodIn_of _ (by decide +kernel)) ggL_law_X7_bestRank
set_option maxRecDepth 20000 in
theorem ggL_law_X8_bestRank : GoodIn wsL_law wsX8_bestRank := goodIn_r _ [744, 133, 367, 729, 730, 731, 5, 732, 398, 100, 733, 734, 735, 736, 368, 98, 826, 827, 828, 829, 830, 831, 832, 833, 834, 835, 836, 837, 838, 839, 840, 841, 842, 843, 844, 845, 846, 847, 848, 849, 850, 851, 852, 853, 854, 855, 856, 857, 858, 859] (by decide +kernel) (by decide +kernel)
set_option maxRecDepth 20000 in
theorem gL_law_X8_bestRank : GoodIn wsL_law (wsV RL 143 RX8 yX8_bestRank wsX8_bestRank) := goodIn_app (goodIn_of _ (by decide +kernel)) ggL_law_X8_bestRank
set_option maxRecDepth 20000 in
theorem ggL_law_X7_apart : GoodIn wsL_law wsX7_apart := goodIn_r _ [748, 34, 26, 30, 687, 749, 233, 679, 680, 681, 2, 682, 234, 520, 750, 751, 752, 33, 753, 754, 71, 755, 72, 756, 757, 758, 759, 760, 761, 605, 606, 25, 607, 62, 815, 816, 817, 818, 819, 820, 821, 822, 823, 824, 825, 874, 875, 876, 877, 878, 879, 880, 881, 871, 872, 873] (by decide +kernel) (by decide +kernel)
set_option maxRecDepth 20000 in
theorem gL_law_X7_apart : GoodIn wsL_law (wsV RL 144 RX7 yX7_apart wsX7_apart) := goodIn_app (goodIn_of _ (by decide +kernel)) ggL_law_X7_apart
set_option maxRecDepth 20000 in
theorem ggL_law_X8_apart : GoodIn wsL_law wsX8_apart := goodIn_r _ [765, 133, 367, 105, 365, 693, 694, 695, 5, 696, 398, 135, 136, 137, 766, 767, 768, 769, 106, 100, 368, 613, 614, 615, 616, 363, 94, 95, 362, 96, 364, 483, 484, 485, 486, 377, 378, 379, 380, 92, 93, 487, 488, 489, 490, 491, 492, 493, 494, 671, 672, 673, 674, 826, 827, 828, 829, 830, 831, 832, 833, 834, 835, 836, 837, 838, 839, 840, 841, 842, 843, 844, 845, 846, 847, 848, 849, 850, 851, 852, 853, 854, 855, 856, 857, 858, 859] (by decide +kernel) (by decide +kernel)
set_option maxRecDepth 20000 in
theorem gL_law_X8_apart : GoodIn wsL_law (wsV RL 147 RX8 yX8_apart wsX8_apart) := goodIn_app (goodIn_of _ (by decide +kernel)) ggL_law_X8_apart
set_option maxRecDepth 20000 in
theorem ggL_law_X7_way : GoodIn wsL_law wsX7_way := goodIn_r _ [773, 34, 26, 30, 687, 749, 233, 22, 235, 679, 680, 681, 2, 682, 234, 520, 750, 751, 752, 33, 753, 754, 71, 755, 72, 756, 757, 758, 759, 760, 761, 605, 606, 25, 607, 62, 604, 815, 816, 817, 818, 819, 820, 821, 822, 823, 824, 825, 874, 875, 876, 877, 878, 879, 880, 881, 863, 864, 865, 866, 867, 868, 869, 870, 871, 872, 873] (by decide +kernel) (by decide +kernel)
set_option maxRecDepth 20000 in
theorem gL_law_X7_way : GoodIn wsL_law (wsV RL 148 RX7 yX7_way wsX7_way) := goodIn_app (goodIn_of _ (by decide +kernel)) ggL_law_X7_way
set_option maxRecDepth 20000 in
theorem ggL_law_X8_way : GoodIn wsL_law wsX8_way := goodIn_r _ [777, 133, 367, 105, 365, 368, 693, 694, 695, 5, 696, 398, 135, 136, 137, 766, 767, 768, 769, 106, 100, 613, 614, 615, 616, 363, 94, 95, 362, 96, 364, 483, 484, 485, 486, 377, 378, 379, 380, 92, 93, 487, 488, 489, 490, 491, 492, 493, 494, 671, 672, 673, 674, 826, 827, 828, 829, 830, 831, 832, 833, 834, 835, 836, 837, 838, 839, 840, 841, 842, 843, 844, 845, 846, 847, 848, 849, 850, 851, 852, 853, 854, 855, 856, 857, 858, 859] (by decide +kernel) (by decide +kernel)
set_option maxRecDepth 20000 in
theorem gL_law_X8_way : GoodIn wsL_law (wsV RL 151 RX8 yX8_way wsX8_way) := goodIn_app (goodIn_of _ (by decide +kernel)) ggL_law_X8_way
set_option maxRecDepth 20000 in
theorem ggL_law_X7_far : GoodIn wsL_law wsX7_far := goodIn_r _ [781, 234, 34, 26, 30, 233, 782, 749, 783, 784, 632, 785, 750, 751, 752, 33, 753, 754, 71, 755, 72, 756, 757, 758, 759, 760, 761, 605, 606, 25, 607, 62, 815, 816, 817, 818, 819, 820, 821, 822, 823, 824, 825, 871, 872, 873, 879, 880, 881, 874, 875, 876, 877, 878] (by decide +kernel) (by decide +kernel)
set_option maxRecDepth 20000 in
theorem gL_law_X7_far : GoodIn wsL_law (wsV RL 152 RX7 yX7_far wsX7_far) := goodIn_app (goodIn_of _ (by decide +kernel)) ggL_law_X7_far
set_option maxRecDepth 20000 in
theorem ggL_law_X8_far : GoodIn wsL_law wsX8_far := goodIn_r _ [789, 133, 367, 365, 398, 105, 671, 672, 673, 5, 674, 100, 766, 767, 768, 769, 106, 368, 613, 614, 615, 616, 363, 94, 95, 362, 96, 364, 483, 484, 485, 486, 377, 378, 379, 380, 92, 93, 487, 488, 489, 490, 491, 492, 493, 494, 826, 827, 828, 829, 830, 831, 832, 833, 834, 835, 836, 837, 838, 839, 840, 841, 842, 843, 844, 845, 846, 847, 848, 849, 850, 851, 852, 853, 854, 855, 856, 857, 858, 859] (by decide +kernel) (by decide +kernel)
set_option maxRecDepth 20000 in
theorem gL_law_X8_far : GoodIn wsL_law (wsV RL 155 RX8 yX8_far wsX8_far) := goodIn_app (goodIn_of _ (by decide +kernel)) ggL_law_X8_far
set_option maxRecDepth 20000 in
theorem ggL_law_X7_crossings : GoodIn wsL_law wsX7_crossings := goodIn_r _ [793, 22, 235, 511, 679, 680, 681, 2, 682, 234, 30, 520, 446, 447, 448, 449, 26, 450, 233, 445, 322, 323, 683, 684, 685, 686, 687, 590, 456, 457, 458, 459, 460, 461, 815, 816, 817, 818, 819, 820, 821, 822, 823, 824, 825, 863, 864, 865, 866, 867, 868, 869, 870, 874, 875, 876, 877, 878, 871, 872, 873] (by decide +kernel) (by decide +kernel)
set_option maxRecDepth 20000 in
theorem gL_law_X7_crossings : GoodIn wsL_law (wsV RL 156 RX7 yX7_crossings wsX7_crossings) := goodIn_app (goodIn_of _ (by decide +kernel)) ggL_law_X7_crossings
set_option maxRecDepth 20000 in
theorem ggL_law_X8_crossings : GoodIn wsL_law wsX8_crossings := goodIn_r _ [797, 133, 367, 368, 365, 100, 97, 693, 694, 695, 5, 696, 398, 135, 136, 137, 826, 827, 828, 829, 830, 831, 832, 833, 834, 835, 836, 837, 838, 839, 840, 841, 842, 843, 844, 845, 846, 847, 848, 849, 850, 851, 852, 853, 854, 855, 856, 857, 858, 859] (by decide +kernel) (by decide +kernel)
set_option maxRecDepth 20000 in
theorem gL_law_X8_crossings : GoodIn wsL_law (wsV RL 159 RX8 yX8_crossings wsX8_crossings) := goodIn_app (goodIn_of _ (by decide +kernel)) ggL_law_X8_crossings
set_option maxRecDepth 20000 in
theorem ggL_law_X7_total : GoodIn wsL_law wsX7_total := goodIn_r _ [801, 18, 188, 234, 22, 802, 235, 444, 30, 442, 443, 38, 646, 119, 590, 456, 457, 458, 459, 460, 461, 803, 804, 805, 2, 806, 14, 147, 815, 816, 817, 818, 819, 820, 821, 822, 823, 824, 825, 860, 861, 862, 863, 864, 865, 866, 867, 868, 869, 870, 874, 875, 876, 877, 878, 882, 883, 884, 885, 886, 887, 888] (by decide +kernel) (by decide +kernel)
set_option maxRecDepth 20000 in
theorem gL_law_X7_total : GoodIn wsL_law (wsV RL 160 RX7 yX7_total wsX7_total) := goodIn_app (goodIn_of _ (by decide +kernel)) ggL_law_X7_total
set_option maxRecDepth 20000 in
theorem ggL_law_X8_total : GoodIn wsL_law wsX8_total := goodIn_r _ [810, 133, 811, 211, 142, 87, 367, 362, 368, 363, 364, 366, 135, 136, 5, 137, 475, 476, 477, 478, 94, 95, 377, 378, 379, 380, 92, 93, 812, 813, 814, 826, 827, 828, 829, 830, 831, 832, 833, 834, 835, 836, 837, 838, 839, 840, 841, 842, 843, 844, 845, 846, 847, 848, 849, 850, 851, 852, 853, 854, 855, 856, 857, 858, 859] (by decide +kernel) (by decide +kernel)
set_option maxRecDepth 20000 in
theorem gL_law_X8_total : GoodIn wsL_law (wsV RL 163 RX8 yX8_total wsX8_total) := goodIn_app (goodIn_of _ (by decide +kernel)) ggL_law_X8_total
