set_option maxRecDepth 20000 in
theorem ggL_law_X10_init : GoodIn wsL_law wsX10_init := goodIn_r _ [8, 9, 10, 11, 12, 13, 14, 15, 16, 17, 18, 19, 20, 21, 22, 23, 24, 25, 26, 27, 28, 29, 30, 31, 32, 33, 34, 35, 36, 37, 38, 39, 40, 41, 42, 43, 44, 45, 46, 47, 48, 49, 50, 51, 52, 53, 54, 55, 56, 57, 58, 59, 60, 61, 62, 63, 64, 65, 66, 67, 68, 69, 70, 71, 72, 73, 74, 75, 76, 77, 78, 79, 80, 81, 82, 83, 84, 85, 86, 87, 88, 89, 90, 91, 92, 93, 94, 95, 96, 97, 98, 99, 100, 101, 102, 103, 104, 105, 106, 107, 108, 109, 110, 111, 112, 113, 114, 115, 116, 117, 118, 119, 120, 121, 122, 123, 124, 125, 126, 127, 128, 129, 130, 131, 132, 133, 134, 135, 136, 137, 929, 901, 902, 903, 904, 905, 906, 907, 908, 909, 930, 931, 932, 933, 934, 935, 936, 937, 938, 939, 940, 941, 942, 943, 944, 945, 946, 947, 948, 949, 950, 951, 952, 953, 954, 955, 956, 957, 958, 959, 960, 961, 962, 963, 964, 965, 966, 967, 968, 969, 970, 971, 972, 973, 974, 975, 976, 977, 978, 979, 980] (by decide +kernel) (by decide +kernel)
set_option maxRecDepth 20000 in
theorem gL_law_X10_init : GoodIn wsL_law (wsX10_init) := ggL_law_X10_init
set_option maxRecDepth 20000 in
theorem ggL_law_X11_init : GoodIn wsL_law wsX11_init := goodIn_r _ [140, 141, 10, 11, 48, 142, 143, 144, 145, 146, 147, 148, 149, 150, 151, 152, 153, 154, 155, 910, 911, 912, 913, 914, 915, 916, 917, 918, 919, 920, 921, 922, 923, 924, 925, 926, 927, 928] (by decide +kernel) (by decide +kernel)
set_option maxRecDepth 20000 in
theorem gL_law_X11_init : GoodIn wsL_law (wsX11_init) := ggL_law_X11_init
set_option maxRecDepth 20000 in
theorem ggL_law_X10_note : GoodIn wsL_law wsX10_note := goodIn_r _ [159, 160, 19, 161, 162, 163, 164, 165, 2, 166, 167, 168, 169, 170, 171, 172, 173, 44, 174, 175, 176, 18, 177, 59, 54, 178, 179, 180, 181, 43, 23, 182, 183, 184, 42, 185, 137, 130, 186, 187, 188, 189, 131, 132, 133, 190, 191, 192, 22, 193, 74, 194, 195, 196, 197, 53, 55, 56, 57, 58, 198, 199, 200, 201, 202, 203, 204, 901, 902, 903, 904, 905, 906, 907, 908, 909, 930, 931, 932, 933, 934, 935, 936, 964, 965, 966, 967, 968, 969, 970, 971, 937, 938, 939, 940, 941, 942, 943, 944, 945, 946, 947] (by decide +kernel) (by decide +kernel)
set_option maxRecDepth 20000 in
theorem gL_law_X10_note : GoodIn wsL_law (wsV RL 13 RX10 yX10_note wsX10_note) := goodIn_app (goodIn_of _ (by decide +kernel)) ggL_law_X10_note
set_option maxRecDepth 20000 in
theorem ggL_law_X11_note : GoodIn wsL_law wsX11_note := goodIn_r _ [208, 209, 142, 210, 211, 212, 213, 5, 214, 215, 216, 217, 218, 219, 220, 221, 222, 223, 224, 225, 226, 227, 143, 910, 911, 912, 913, 914, 915, 916, 917, 918, 919, 920, 921, 922, 923, 924, 925, 926, 927, 928] (by decide +kernel) (by decide +kernel)
set_option maxRecDepth 20000 in
theorem gL_law_X11_note : GoodIn wsL_law (wsV RL 17 RX11 yX11_note wsX11_note) := goodIn_app (goodIn_of _ (by decide +kernel)) ggL_law_X11_note
set_option maxRecDepth 20000 in
theorem ggL_law_X10_drop : GoodIn wsL_law wsX10_drop := goodIn_r _ [231, 19, 162, 232, 233, 234, 43, 235, 236, 170, 171, 172, 2, 173, 44, 178, 179, 180, 181, 23, 182, 183, 184, 42, 185, 137, 130, 186, 187, 188, 189, 131, 132, 133, 190, 191, 192, 22, 193, 74, 237, 238, 239, 240, 134, 135, 241, 242, 243, 18, 244, 59, 901, 902, 903, 904, 905, 906, 907, 908, 909, 930, 931, 932, 933, 934, 935, 936, 964, 965, 966, 967, 968, 969, 970, 971, 937, 938, 939, 940, 941, 942, 943, 944, 945, 946, 947] (by decide +kernel) (by decide +kernel)
set_option maxRecDepth 20000 in
theorem gL_law_X10_drop : GoodIn wsL_law (wsV RL 18 RX10 yX10_drop wsX10_drop) := goodIn_app (goodIn_of _ (by decide +kernel)) ggL_law_X10_drop
set_option maxRecDepth 20000 in
theorem ggL_law_X11_drop : GoodIn wsL_law wsX11_drop := goodIn_r _ [248, 142, 249, 218, 219, 220, 5, 221, 222, 223, 224, 225, 226, 227, 143, 910, 911, 912, 913, 914, 915, 916, 917, 918, 919, 920, 921, 922, 923, 924, 925, 926, 927, 928] (by decide +kernel) (by decide +kernel)
set_option maxRecDepth 20000 in
theorem gL_law_X11_drop : GoodIn wsL_law (wsV RL 22 RX11 yX11_drop wsX11_drop) := goodIn_app (goodIn_of _ (by decide +kernel)) ggL_law_X11_drop
set_option maxRecDepth 20000 in
theorem ggL_law_X10_as : GoodIn wsL_law wsX10_as := goodIn_r _ [253, 19, 160, 254, 255, 256, 257, 18, 258, 59, 165, 2, 166, 164, 170, 171, 172, 173, 44, 259, 260, 261, 262, 53, 901, 902, 903, 904, 905, 906, 907, 908, 909, 930, 931, 932, 933, 934, 935, 936] (by decide +kernel) (by decide +kernel)
set_option maxRecDepth 20000 in
theorem gL_law_X10_as : GoodIn wsL_law (wsV RL 23 RX10 yX10_as wsX10_as) := goodIn_app (goodIn_of _ (by decide +kernel)) ggL_law_X10_as
set_option maxRecDepth 20000 in
theorem ggL_law_X11_as : GoodIn wsL_law wsX11_as := goodIn_r _ [266, 209, 142, 267, 268, 269, 270, 5, 271, 212, 213, 214, 218, 219, 220, 221, 222, 910, 911, 912, 913, 914, 915, 916, 917, 918, 919, 920, 921, 922, 923, 924, 925, 926, 927, 928] (by decide +kernel) (by decide +kernel)
set_option maxRecDepth 20000 in
theorem gL_law_X11_as : GoodIn wsL_law (wsV RL 27 RX11 yX11_as wsX11_as) := goodIn_app (goodIn_of _ (by decide +kernel)) ggL_law_X11_as
set_option maxRecDepth 20000 in
theorem ggL_law_X10_of : GoodIn wsL_law wsX10_of := goodIn_r _ [275, 19, 160, 233, 235, 236, 255, 256, 257, 18, 258, 59, 165, 2, 166, 170, 171, 172, 173, 44, 276, 277, 278, 279, 280, 53, 901, 902, 903, 904, 905, 906, 907, 908, 909, 930, 931, 932, 933, 934, 935, 936] (by decide +kernel) (by decide +kernel)
set_option maxRecDepth 20000 in
theorem gL_law_X10_of : GoodIn wsL_law (wsV RL 28 RX10 yX10_of wsX10_of) := goodIn_app (goodIn_of _ (by decide +kernel)) ggL_law_X10_of
set_option maxRecDepth 20000 in
theorem ggL_law_X11_of : GoodIn wsL_law wsX11_of := goodIn_r _ [284, 209, 142, 268, 269, 270, 5, 271, 212, 213, 214, 218, 219, 220, 221, 222, 285, 286, 287, 288, 910, 911, 912, 913, 914, 915, 916, 917, 918, 919, 920, 921, 922, 923, 924, 925, 926, 927, 928] (by decide +kernel) (by decide +kernel)
set_option maxRecDepth 20000 in
theorem gL_law_X11_of : GoodIn wsL_law (wsV RL 31 RX11 yX11_of wsX11_of) := goodIn_app (goodIn_of _ (by decide +kernel)) ggL_law_X11_of
set_option maxRecDepth 20000 in
theorem ggL_law_X10_mark : GoodIn wsL_law wsX10_mark := goodIn_r _ [292, 19, 160, 234, 255, 256, 257, 18, 258, 59, 165, 2, 166, 170, 171, 172, 173, 44, 178, 179, 180, 181, 43, 23, 182, 183, 184, 42, 185, 137, 130, 186, 187, 188, 189, 131, 132, 133, 190, 191, 192, 22, 193, 74, 293, 294, 295, 296, 56, 297, 901, 902, 903, 904, 905, 906, 907, 908, 909, 930, 931, 932, 933, 934, 935, 936, 964, 965, 966, 967, 968, 969, 970, 971, 937, 938, 939, 940, 941, 942, 943, 944, 945, 946, 947] (by decide +kernel) (by decide +kernel)
set_option maxRecDepth 20000 in
theorem gL_law_X10_mark : GoodIn wsL_law (wsV RL 32 RX10 yX10_mark wsX10_mark) := goodIn_app (goodIn_of _ (by decide +kernel)) ggL_law_X10_mark
set_option maxRecDepth 20000 in
theorem ggL_law_X11_mark : GoodIn wsL_law wsX11_mark := goodIn_r _ [301, 209, 142, 268, 269, 270, 5, 271, 212, 213, 214, 218, 219, 220, 221, 222, 223, 224, 225, 226, 227, 143, 910, 911, 912, 913, 914, 915, 916, 917, 918, 919, 920, 921, 922, 923, 924, 925, 926, 927, 928] (by decide +kernel) (by decide +kernel)
set_option maxRecDepth 20000 in
theorem gL_law_X11_mark : GoodIn wsL_law (wsV RL 35 RX11 yX11_mark wsX11_mark) := goodIn_app (goodIn_of _ (by decide +kernel)) ggL_law_X11_mark
set_option maxRecDepth 20000 in
theorem ggL_law_X10_rule : GoodIn wsL_law wsX10_rule := goodIn_r _ [305, 15, 160, 306, 307, 308, 309, 14, 310, 311, 165, 2, 166, 170, 171, 172, 173, 44, 178, 179, 180, 181, 43, 23, 182, 183, 184, 42, 185, 137, 130, 186, 187, 188, 189, 131, 132, 133, 190, 191, 192, 22, 193, 74, 312, 313, 314, 315, 49, 316, 901, 902, 903, 904, 905, 906, 907, 908, 909, 929, 964, 965, 966, 967, 968, 969, 970, 971, 937, 938, 939, 940, 941, 942, 943, 944, 945, 946, 947] (by decide +kernel) (by decide +kernel)
set_option maxRecDepth 20000 in
theorem gL_law_X10_rule : GoodIn wsL_law (wsV RL 36 RX10 yX10_rule wsX10_rule) := goodIn_app (goodIn_of _ (by decide +kernel)) ggL_law_X10_rule
set_option maxRecDepth 20000 in
theorem ggL_law_X11_rule : GoodIn wsL_law wsX11_rule := goodIn_r _ [320, 209, 142, 212, 213, 5, 214, 321, 322, 323, 218, 219, 220, 221, 222, 223, 224, 225, 226, 227, 143, 910, 911, 912, 913, 914, 915, 916, 917, 918, 919, 920, 921, 922, 923, 924, 925, 926, 927, 928] (by decide +kernel) (by decide +kernel)
set_option maxRecDepth 20000 in
theorem gL_law_X11_rule : GoodIn wsL_law (wsV RL 39 RX11 yX11_rule wsX11_rule) := goodIn_app (goodIn_of _ (by decide +kernel)) ggL_law_X11_rule
set_option maxRecDepth 20000 in
theorem ggL_law_X10_awkward : GoodIn wsL_law wsX10_awkward := goodIn_r _ [327, 23, 328, 232, 329, 330, 331, 22, 332, 74, 67, 333, 334, 335, 336, 72, 75, 337, 73, 338, 339, 340, 71, 341, 88, 87, 84, 342, 343, 344, 345, 346, 347, 348, 85, 86, 349, 187, 188, 189, 165, 2, 166, 350, 351, 352, 353, 80, 76, 354, 355, 356, 357, 358, 200, 18, 201, 359, 360, 361, 362, 363, 364, 79, 365, 93, 94, 366, 367, 368, 369, 95, 370, 371, 372, 373, 374, 375, 376, 377, 378, 379, 380, 56, 381, 382, 383, 384, 96, 385, 386, 387, 388, 389, 390, 391, 392, 393, 277, 278, 279, 280, 53, 394, 395, 396, 397, 398, 54, 399, 203, 204, 400, 401, 402, 403, 404, 405, 406, 407, 408, 409, 410, 411, 412, 413, 414, 415, 416, 417, 418, 419, 420, 421, 66, 64, 422, 65, 423, 424, 425, 426, 170, 171, 172, 173, 44, 901, 902, 903, 904, 905, 906, 907, 908, 909, 937, 938, 939, 940, 941, 942, 943, 944, 945, 946, 947, 930, 931, 932, 933, 934, 935, 936, 972, 973, 974, 975, 976, 929, 977, 978, 979, 980] (by decide +kernel) (by decide +kernel)
set_option maxRecDepth 20000 in
theorem gL_law_X10_awkward : GoodIn wsL_law (wsV RL 40 RX10 yX10_awkward wsX10_awkward) := goodIn_app (goodIn_of _ (by decide +kernel)) ggL_law_X10_awkward
set_option maxRecDepth 20000 in
theorem ggL_law_X11_awkward : GoodIn wsL_law wsX11_awkward := goodIn_r _ [430, 142, 431, 249, 432, 433, 434, 5, 435, 436, 437, 438, 439, 440, 441, 147, 148, 442, 443, 444, 445, 446, 447, 448, 449, 450, 451, 452, 187, 188, 189, 453, 454, 455, 456, 285, 286, 287, 288, 457, 458, 459, 460, 461, 387, 388, 462, 463, 464, 465, 466, 467, 468, 469, 470, 471, 472, 473, 474, 475, 476, 477, 478, 479, 480, 481, 482, 483, 484, 218, 219, 220, 221, 222, 910, 911, 912, 913, 914, 915, 916, 917, 918, 919, 920, 921, 922, 923, 924, 925, 926, 927, 928] (by decide +kernel) (by decide +kernel)
set_option maxRecDepth 20000 in
theorem gL_law_X11_awkward : GoodIn wsL_law (wsV RL 43 RX11 yX11_awkward wsX11_awkward) := goodIn_app (goodIn_of _ (by decide +kernel)) ggL_law_X11_awkward
set_option maxRecDepth 20000 in
theorem ggL_law_X10_hand : GoodIn wsL_law wsX10_hand := goodIn_r _ [488, 19, 160, 23, 489, 232, 255, 256, 257, 18, 258, 59, 165, 2, 166, 170, 171, 172, 173, 44, 329, 330, 331, 22, 332, 74, 67, 333, 334, 335, 336, 72, 75, 337, 73, 338, 339, 340, 71, 341, 88, 87, 84, 342, 343, 344, 345, 346, 347, 348, 85, 86, 349, 187, 188, 189, 350, 351, 352, 353, 80, 76, 354, 355, 356, 357, 358, 200, 201, 359, 360, 361, 362, 363, 364, 79, 365, 93, 94, 366, 367, 368, 369, 95, 370, 371, 372, 373, 374, 375, 376, 377, 378, 379, 380, 56, 381, 382, 383, 384, 96, 385, 386, 387, 388, 389, 390, 391, 392, 393, 277, 278, 279, 280, 53, 394, 395, 396, 397, 398, 54, 399, 203, 204, 400, 401, 402, 403, 404, 405, 406, 407, 408, 409, 410, 411, 412, 413, 414, 415, 416, 417, 418, 419, 420, 421, 66, 64, 422, 65, 423, 424, 425, 426, 490, 491, 492, 901, 902, 903, 904, 905, 906, 907, 908, 909, 937, 938, 939, 940, 941, 942, 943, 944, 945, 946, 947, 930, 931, 932, 933, 934, 935, 936, 972, 973, 974, 975, 976, 929, 977, 978, 979, 980] (by decide +kernel) (by decide +kernel)
set_option maxRecDepth 20000 in
theorem gL_law_X10_hand : GoodIn wsL_law (wsV RL 44 RX10 yX10_hand wsX10_hand) := goodIn_app (goodIn_of _ (by decide +kernel)) ggL_law_X10_hand
set_option maxRecDepth 20000 in
theorem ggL_law_X11_hand : GoodIn wsL_law wsX11_hand := goodIn_r _ [496, 209, 149, 249, 268, 269, 270, 5, 271, 142, 212, 213, 214, 218, 219, 220, 221, 222, 497, 498, 499, 500, 431, 437, 446, 151, 152, 432, 433, 434, 435, 436, 438, 439, 440, 441, 147, 148, 442, 443, 444, 445, 447, 448, 449, 450, 451, 452, 187, 188, 189, 453, 454, 455, 456, 285, 286, 287, 288, 457, 458, 459, 460, 461, 387, 388, 462, 463, 464, 465, 466, 467, 468, 469, 470, 471, 472, 473, 474, 475, 476, 477, 478, 479, 480, 481, 482, 483, 484, 910, 911, 912, 913, 914, 915, 916, 917, 918, 919, 920, 921, 922, 923, 924, 925, 926, 927, 928] (by decide +kernel) (by decide +kernel)
set_option maxRecDepth 20000 in
theorem gL_law_X11_hand : GoodIn wsL_law (wsV RL 48 RX11 yX11_hand wsX11_hand) := goodIn_app (goodIn_of _ (by decide +kernel)) ggL_law_X11_hand
set_option maxRecDepth 20000 in
theorem ggL_law_X10_crossed : GoodIn wsL_law wsX10_crossed := goodIn_r _ [504, 19, 160, 23, 232, 489, 505, 255, 256, 257, 18, 258, 59, 165, 2, 166, 170, 171, 172, 173, 44, 329, 330, 331, 22, 332, 74, 67, 333, 334, 335, 336, 72, 75, 337, 73, 338, 339, 340, 71, 341, 88, 87, 84, 342, 343, 344, 345, 346, 347, 348, 85, 86, 349, 187, 188, 189, 350, 351, 352, 353, 80, 76, 354, 355, 356, 357, 358, 200, 201, 359, 360, 361, 362, 363, 364, 79, 365, 93, 94, 366, 367, 368, 369, 95, 370, 371, 372, 373, 374, 375, 376, 377, 378, 379, 380, 56, 381, 382, 383, 384, 96, 385, 386, 387, 388, 389, 390, 391, 392, 393, 277, 278, 279, 280, 53, 394, 395, 396, 397, 398, 54, 399, 203, 204, 400, 401, 402, 403, 404, 405, 406, 407, 408, 409, 410, 411, 412, 413, 414, 415, 416, 417, 418, 419, 420, 421, 66, 64, 422, 65, 423, 424, 425, 426, 506, 507, 508, 509, 68, 491, 492, 510, 901, 902, 903, 904, 905, 906, 907, 908, 909, 937, 938, 939, 940, 941, 942, 943, 944, 945, 946, 947, 930, 931, 932, 933, 934, 935, 936, 972, 973, 974, 975, 976, 929, 977, 978, 979, 980] (by decide +kernel) (by decide +kernel)
set_option maxRecDepth 20000 in
theorem gL_law_X10_crossed : GoodIn wsL_law (wsV RL 49 RX10 yX10_crossed wsX10_crossed) := goodIn_app (goodIn_of _ (by decide +kernel)) ggL_law_X10_crossed
set_option maxRecDepth 20000 in
theorem ggL_law_X11_crossed : GoodIn wsL_law wsX11_crossed := goodIn_r _ [514, 209, 249, 151, 268, 269, 270, 5, 271, 142, 212, 213, 214, 218, 219, 220, 221, 222, 497, 498, 499, 500, 431, 437, 446, 149, 152, 432, 433, 434, 435, 436, 438, 439, 440, 441, 147, 148, 442, 443, 444, 445, 447, 448, 449, 450, 451, 452, 187, 188, 189, 453, 454, 455, 456, 285, 286, 287, 288, 457, 458, 459, 460, 461, 387, 388, 462, 463, 464, 465, 466, 467, 468, 469, 470, 471, 472, 473, 474, 475, 476, 477, 478, 479, 480, 481, 482, 483, 484, 910, 911, 912, 913, 914, 915, 916, 917, 918, 919, 920, 921, 922, 923, 924, 925, 926, 927, 928] (by decide +kernel) (by decide +kernel)
set_option maxRecDepth 20000 in
theorem gL_law_X11_crossed : GoodIn wsL_law (wsV RL 52 RX11 yX11_crossed wsX11_crossed) := goodIn_app (goodIn_of _ (by decide +kernel)) ggL_law_X11_crossed
