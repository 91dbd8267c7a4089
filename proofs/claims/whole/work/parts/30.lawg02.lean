set_option maxRecDepth 20000 in
theorem ggL_law_X10_wipe : GoodIn wsL_law wsX10_wipe := goodIn_r _ [673, 160, 31, 646, 164, 165, 2, 166, 170, 171, 172, 173, 44, 674, 675, 676, 677, 43, 178, 179, 180, 181, 23, 182, 183, 184, 42, 185, 137, 130, 186, 187, 188, 189, 131, 132, 133, 190, 191, 192, 22, 193, 74, 678, 679, 680, 681, 682, 136, 683, 652, 653, 30, 654, 109, 684, 685, 686, 687, 108, 901, 902, 903, 904, 905, 906, 907, 908, 909, 952, 953, 964, 965, 966, 967, 968, 969, 970, 971, 937, 938, 939, 940, 941, 942, 943, 944, 945, 946, 947] (by decide +kernel) (by decide +kernel)
set_option maxRecDepth 20000 in
theorem gL_law_X10_wipe : GoodIn wsL_law (wsV RL 95 RX10 yX10_wipe wsX10_wipe) := goodIn_app (goodIn_of _ (by decide +kernel)) ggL_law_X10_wipe
set_option maxRecDepth 20000 in
theorem ggL_law_X11_wipe : GoodIn wsL_law wsX11_wipe := goodIn_r _ [691, 209, 142, 663, 664, 5, 665, 212, 213, 214, 218, 219, 220, 221, 222, 223, 224, 225, 226, 227, 143, 910, 911, 912, 913, 914, 915, 916, 917, 918, 919, 920, 921, 922, 923, 924, 925, 926, 927, 928] (by decide +kernel) (by decide +kernel)
set_option maxRecDepth 20000 in
theorem gL_law_X11_wipe : GoodIn wsL_law (wsV RL 98 RX11 yX11_wipe wsX11_wipe) := goodIn_app (goodIn_of _ (by decide +kernel)) ggL_law_X11_wipe
set_option maxRecDepth 20000 in
theorem ggL_law_X10_price : GoodIn wsL_law wsX10_price := goodIn_r _ [695, 160, 35, 164, 165, 2, 166, 170, 171, 172, 173, 44, 696, 697, 698, 34, 699, 117, 120, 700, 118, 701, 116, 702, 703, 704, 705, 706, 187, 188, 189, 119, 707, 708, 709, 710, 711, 712, 713, 387, 388, 714, 652, 653, 30, 654, 109, 715, 716, 717, 718, 115, 114, 719, 720, 721, 722, 723, 724, 725, 726, 901, 902, 903, 904, 905, 906, 907, 908, 909, 954, 955, 956, 957, 958, 959, 960, 952, 953, 930, 931, 932, 933, 934, 935, 936, 929] (by decide +kernel) (by decide +kernel)
set_option maxRecDepth 20000 in
theorem gL_law_X10_price : GoodIn wsL_law (wsV RL 99 RX10 yX10_price wsX10_price) := goodIn_app (goodIn_of _ (by decide +kernel)) ggL_law_X10_price
set_option maxRecDepth 20000 in
theorem ggL_law_X11_price : GoodIn wsL_law wsX11_price := goodIn_r _ [730, 209, 663, 664, 5, 665, 212, 213, 214, 218, 219, 220, 221, 222, 731, 732, 733, 734, 142, 452, 187, 188, 189, 153, 154, 735, 736, 737, 738, 739, 740, 741, 742, 461, 387, 388, 431, 666, 667, 668, 669, 910, 911, 912, 913, 914, 915, 916, 917, 918, 919, 920, 921, 922, 923, 924, 925, 926, 927, 928] (by decide +kernel) (by decide +kernel)
set_option maxRecDepth 20000 in
theorem gL_law_X11_price : GoodIn wsL_law (wsV RL 102 RX11 yX11_price wsX11_price) := goodIn_app (goodIn_of _ (by decide +kernel)) ggL_law_X11_price
set_option maxRecDepth 20000 in
theorem ggL_law_X10_read : GoodIn wsL_law wsX10_read := goodIn_r _ [746, 19, 160, 35, 747, 232, 164, 165, 2, 166, 255, 256, 257, 18, 258, 59, 170, 171, 172, 173, 44, 696, 697, 698, 34, 699, 117, 120, 700, 118, 701, 116, 702, 703, 704, 705, 706, 187, 188, 189, 119, 707, 708, 709, 710, 711, 712, 713, 387, 388, 714, 652, 653, 30, 654, 109, 715, 716, 717, 718, 115, 114, 719, 720, 721, 722, 901, 902, 903, 904, 905, 906, 907, 908, 909, 954, 955, 956, 957, 958, 959, 960, 930, 931, 932, 933, 934, 935, 936, 952, 953, 929] (by decide +kernel) (by decide +kernel)
set_option maxRecDepth 20000 in
theorem gL_law_X10_read : GoodIn wsL_law (wsV RL 103 RX10 yX10_read wsX10_read) := goodIn_app (goodIn_of _ (by decide +kernel)) ggL_law_X10_read
set_option maxRecDepth 20000 in
theorem ggL_law_X11_read : GoodIn wsL_law wsX11_read := goodIn_r _ [751, 209, 154, 249, 663, 664, 5, 665, 212, 213, 214, 268, 269, 270, 271, 142, 218, 219, 220, 221, 222, 731, 732, 733, 734, 452, 187, 188, 189, 153, 735, 736, 737, 738, 739, 740, 741, 742, 461, 387, 388, 431, 666, 667, 668, 669, 910, 911, 912, 913, 914, 915, 916, 917, 918, 919, 920, 921, 922, 923, 924, 925, 926, 927, 928] (by decide +kernel) (by decide +kernel)
set_option maxRecDepth 20000 in
theorem gL_law_X11_read : GoodIn wsL_law (wsV RL 106 RX11 yX11_read wsX11_read) := goodIn_app (goodIn_of _ (by decide +kernel)) ggL_law_X11_read
set_option maxRecDepth 20000 in
theorem ggL_law_X10_late : GoodIn wsL_law wsX10_late := goodIn_r _ [755, 19, 160, 35, 747, 232, 31, 235, 164, 165, 2, 166, 255, 256, 257, 18, 258, 59, 170, 171, 172, 173, 44, 696, 697, 698, 34, 699, 117, 120, 700, 118, 701, 116, 702, 703, 704, 705, 706, 187, 188, 189, 119, 707, 708, 709, 710, 711, 712, 713, 387, 388, 714, 652, 653, 30, 654, 109, 715, 716, 717, 718, 115, 114, 719, 720, 721, 722, 756, 901, 902, 903, 904, 905, 906, 907, 908, 909, 954, 955, 956, 957, 958, 959, 960, 930, 931, 932, 933, 934, 935, 936, 952, 953, 929] (by decide +kernel) (by decide +kernel)
set_option maxRecDepth 20000 in
theorem gL_law_X10_late : GoodIn wsL_law (wsV RL 107 RX10 yX10_late wsX10_late) := goodIn_app (goodIn_of _ (by decide +kernel)) ggL_law_X10_late
set_option maxRecDepth 20000 in
theorem ggL_law_X11_late : GoodIn wsL_law wsX11_late := goodIn_r _ [760, 209, 154, 249, 142, 663, 664, 5, 665, 212, 213, 214, 268, 269, 270, 271, 218, 219, 220, 221, 222, 731, 732, 733, 734, 452, 187, 188, 189, 153, 735, 736, 737, 738, 739, 740, 741, 742, 461, 387, 388, 431, 666, 667, 668, 669, 910, 911, 912, 913, 914, 915, 916, 917, 918, 919, 920, 921, 922, 923, 924, 925, 926, 927, 928] (by decide +kernel) (by decide +kernel)
set_option maxRecDepth 20000 in
theorem gL_law_X11_late : GoodIn wsL_law (wsV RL 110 RX11 yX11_late wsX11_late) := goodIn_app (goodIn_of _ (by decide +kernel)) ggL_law_X11_late
set_option maxRecDepth 20000 in
theorem ggL_law_X10_missed : GoodIn wsL_law wsX10_missed := goodIn_r _ [764, 160, 35, 31, 646, 19, 162, 765, 164, 165, 2, 166, 170, 171, 172, 173, 44, 696, 697, 698, 34, 699, 117, 120, 700, 118, 701, 116, 702, 703, 704, 705, 706, 187, 188, 189, 119, 707, 708, 709, 710, 711, 712, 713, 387, 388, 714, 652, 653, 30, 654, 109, 715, 716, 717, 718, 115, 114, 719, 720, 721, 722, 901, 902, 903, 904, 905, 906, 907, 908, 909, 952, 953, 930, 931, 932, 933, 934, 935, 936, 954, 955, 956, 957, 958, 959, 960, 929] (by decide +kernel) (by decide +kernel)
set_option maxRecDepth 20000 in
theorem gL_law_X10_missed : GoodIn wsL_law (wsV RL 111 RX10 yX10_missed wsX10_missed) := goodIn_app (goodIn_of _ (by decide +kernel)) ggL_law_X10_missed
set_option maxRecDepth 20000 in
theorem ggL_law_X11_missed : GoodIn wsL_law wsX11_missed := goodIn_r _ [769, 209, 142, 154, 663, 664, 5, 665, 212, 213, 214, 218, 219, 220, 221, 222, 731, 732, 733, 734, 452, 187, 188, 189, 153, 735, 736, 737, 738, 739, 740, 741, 742, 461, 387, 388, 431, 666, 667, 668, 669, 910, 911, 912, 913, 914, 915, 916, 917, 918, 919, 920, 921, 922, 923, 924, 925, 926, 927, 928] (by decide +kernel) (by decide +kernel)
set_option maxRecDepth 20000 in
theorem gL_law_X11_missed : GoodIn wsL_law (wsV RL 114 RX11 yX11_missed wsX11_missed) := goodIn_app (goodIn_of _ (by decide +kernel)) ggL_law_X11_missed
set_option maxRecDepth 20000 in
theorem ggL_law_X10_sheet : GoodIn wsL_law wsX10_sheet := goodIn_r _ [773, 160, 161, 39, 774, 164, 165, 2, 166, 775, 776, 38, 777, 170, 171, 172, 173, 44, 778, 779, 780, 781, 124, 125, 126, 901, 902, 903, 904, 905, 906, 907, 908, 909, 961, 962, 963] (by decide +kernel) (by decide +kernel)
set_option maxRecDepth 20000 in
theorem gL_law_X10_sheet : GoodIn wsL_law (wsV RL 115 RX10 yX10_sheet wsX10_sheet) := goodIn_app (goodIn_of _ (by decide +kernel)) ggL_law_X10_sheet
set_option maxRecDepth 20000 in
theorem ggL_law_X11_sheet : GoodIn wsL_law wsX11_sheet := goodIn_r _ [785, 209, 210, 144, 145, 146, 786, 787, 5, 788, 212, 213, 214, 218, 219, 220, 221, 222, 910, 911, 912, 913, 914, 915, 916, 917, 918, 919, 920, 921, 922, 923, 924, 925, 926, 927, 928] (by decide +kernel) (by decide +kernel)
set_option maxRecDepth 20000 in
theorem gL_law_X11_sheet : GoodIn wsL_law (wsV RL 118 RX11 yX11_sheet wsX11_sheet) := goodIn_app (goodIn_of _ (by decide +kernel)) ggL_law_X11_sheet
set_option maxRecDepth 20000 in
theorem ggL_law_X10_put : GoodIn wsL_law wsX10_put := goodIn_r _ [792, 160, 39, 793, 774, 164, 165, 2, 166, 170, 171, 172, 173, 44, 794, 795, 796, 38, 797, 124, 798, 799, 800, 801, 126, 901, 902, 903, 904, 905, 906, 907, 908, 909, 961, 962, 963] (by decide +kernel) (by decide +kernel)
set_option maxRecDepth 20000 in
theorem gL_law_X10_put : GoodIn wsL_law (wsV RL 119 RX10 yX10_put wsX10_put) := goodIn_app (goodIn_of _ (by decide +kernel)) ggL_law_X10_put
set_option maxRecDepth 20000 in
theorem ggL_law_X11_put : GoodIn wsL_law wsX11_put := goodIn_r _ [805, 209, 144, 806, 145, 146, 786, 787, 5, 788, 212, 213, 214, 218, 219, 220, 221, 222, 910, 911, 912, 913, 914, 915, 916, 917, 918, 919, 920, 921, 922, 923, 924, 925, 926, 927, 928] (by decide +kernel) (by decide +kernel)
set_option maxRecDepth 20000 in
theorem gL_law_X11_put : GoodIn wsL_law (wsV RL 122 RX11 yX11_put wsX11_put) := goodIn_app (goodIn_of _ (by decide +kernel)) ggL_law_X11_put
set_option maxRecDepth 20000 in
theorem ggL_law_X10_copy : GoodIn wsL_law wsX10_copy := goodIn_r _ [810, 160, 39, 793, 811, 254, 164, 165, 2, 166, 170, 171, 172, 173, 44, 794, 795, 796, 38, 797, 124, 812, 813, 814, 815, 125, 816, 817, 818, 819, 126, 820, 821, 822, 823, 901, 902, 903, 904, 905, 906, 907, 908, 909, 961, 962, 963] (by decide +kernel) (by decide +kernel)
set_option maxRecDepth 20000 in
theorem gL_law_X10_copy : GoodIn wsL_law (wsV RL 123 RX10 yX10_copy wsX10_copy) := goodIn_app (goodIn_of _ (by decide +kernel)) ggL_law_X10_copy
set_option maxRecDepth 20000 in
theorem ggL_law_X11_copy : GoodIn wsL_law wsX11_copy := goodIn_r _ [827, 209, 144, 806, 267, 145, 155, 146, 786, 787, 5, 788, 212, 213, 214, 218, 219, 220, 221, 222, 910, 911, 912, 913, 914, 915, 916, 917, 918, 919, 920, 921, 922, 923, 924, 925, 926, 927, 928] (by decide +kernel) (by decide +kernel)
set_option maxRecDepth 20000 in
theorem gL_law_X11_copy : GoodIn wsL_law (wsV RL 127 RX11 yX11_copy wsX11_copy) := goodIn_app (goodIn_of _ (by decide +kernel)) ggL_law_X11_copy
set_option maxRecDepth 20000 in
theorem ggL_law_X10_tape : GoodIn wsL_law wsX10_tape := goodIn_r _ [831, 160, 39, 793, 31, 774, 646, 164, 165, 2, 166, 170, 171, 172, 173, 44, 794, 795, 796, 38, 797, 124, 674, 675, 676, 677, 43, 178, 179, 180, 181, 23, 182, 183, 184, 42, 185, 137, 130, 186, 187, 188, 189, 131, 132, 133, 190, 191, 192, 22, 193, 74, 678, 679, 680, 681, 682, 136, 683, 652, 653, 30, 654, 109, 684, 685, 686, 687, 108, 832, 833, 834, 835, 126, 167, 168, 169, 647, 648, 649, 650, 651, 655, 656, 657, 658, 901, 902, 903, 904, 905, 906, 907, 908, 909, 961, 962, 963, 952, 953, 964, 965, 966, 967, 968, 969, 970, 971, 937, 938, 939, 940, 941, 942, 943, 944, 945, 946, 947] (by decide +kernel) (by decide +kernel)
set_option maxRecDepth 20000 in
theorem gL_law_X10_tape : GoodIn wsL_law (wsV RL 128 RX10 yX10_tape wsX10_tape) := goodIn_app (goodIn_of _ (by decide +kernel)) ggL_law_X10_tape
set_option maxRecDepth 20000 in
theorem ggL_law_X11_tape : GoodIn wsL_law wsX11_tape := goodIn_r _ [839, 209, 144, 806, 145, 146, 142, 663, 664, 5, 665, 212, 213, 214, 786, 787, 788, 218, 219, 220, 221, 222, 223, 224, 225, 226, 227, 143, 215, 216, 217, 910, 911, 912, 913, 914, 915, 916, 917, 918, 919, 920, 921, 922, 923, 924, 925, 926, 927, 928] (by decide +kernel) (by decide +kernel)
set_option maxRecDepth 20000 in
theorem gL_law_X11_tape : GoodIn wsL_law (wsV RL 131 RX11 yX11_tape wsX11_tape) := goodIn_app (goodIn_of _ (by decide +kernel)) ggL_law_X11_tape
set_option maxRecDepth 20000 in
theorem ggL_law_X10_undo : GoodIn wsL_law wsX10_undo := goodIn_r _ [843, 43, 844, 232, 23, 170, 171, 172, 2, 173, 44, 845, 846, 847, 848, 19, 15, 27, 556, 31, 849, 850, 851, 42, 852, 132, 137, 853, 854, 855, 856, 133, 857, 858, 859, 860, 131, 241, 242, 243, 18, 244, 59, 861, 862, 863, 864, 134, 865, 866, 867, 868, 135, 194, 195, 196, 197, 53, 54, 55, 56, 57, 58, 198, 199, 200, 201, 202, 203, 204, 293, 294, 295, 296, 297, 256, 257, 258, 165, 166, 312, 313, 314, 14, 315, 49, 316, 308, 309, 310, 311, 869, 870, 871, 30, 872, 108, 684, 685, 686, 687, 873, 874, 875, 876, 136, 655, 656, 657, 658, 109, 877, 878, 879, 880, 130, 190, 191, 192, 22, 193, 74, 901, 902, 903, 904, 905, 906, 907, 908, 909, 964, 965, 966, 967, 968, 969, 970, 971, 948, 949, 950, 951, 930, 931, 932, 933, 934, 935, 936, 929, 952, 953, 937, 938, 939, 940, 941, 942, 943, 944, 945, 946, 947] (by decide +kernel) (by decide +kernel)
set_option maxRecDepth 20000 in
theorem gL_law_X10_undo : GoodIn wsL_law (wsV RL 132 RX10 yX10_undo wsX10_undo) := goodIn_app (goodIn_of _ (by decide +kernel)) ggL_law_X10_undo
set_option maxRecDepth 20000 in
theorem ggL_law_X11_undo : GoodIn wsL_law wsX11_undo := goodIn_r _ [884, 227, 249, 142, 143, 218, 219, 220, 5, 221, 222, 910, 911, 912, 913, 914, 915, 916, 917, 918, 919, 920, 921, 922, 923, 924, 925, 926, 927, 928] (by decide +kernel) (by decide +kernel)
set_option maxRecDepth 20000 in
theorem gL_law_X11_undo : GoodIn wsL_law (wsV RL 135 RX11 yX11_undo wsX11_undo) := goodIn_app (goodIn_of _ (by decide +kernel)) ggL_law_X11_undo
