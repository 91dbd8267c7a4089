set_option maxRecDepth 20000 in
theorem ggL_law_X10_ways : GoodIn wsL_law wsX10_ways := goodIn_r _ [518, 23, 519, 232, 329, 330, 331, 22, 332, 74, 67, 333, 334, 335, 336, 72, 75, 337, 73, 338, 339, 340, 71, 341, 88, 87, 84, 342, 343, 344, 345, 346, 347, 348, 85, 86, 349, 187, 188, 189, 165, 2, 166, 350, 351, 352, 353, 80, 76, 354, 355, 356, 357, 358, 200, 18, 201, 359, 360, 361, 362, 363, 364, 79, 365, 93, 94, 366, 367, 368, 369, 95, 370, 371, 372, 373, 374, 375, 376, 377, 378, 379, 380, 56, 381, 382, 383, 384, 96, 385, 386, 387, 388, 389, 390, 391, 392, 393, 277, 278, 279, 280, 53, 394, 395, 396, 397, 398, 54, 399, 203, 204, 400, 401, 402, 403, 404, 405, 406, 407, 408, 409, 410, 411, 412, 413, 414, 415, 416, 417, 418, 419, 420, 421, 66, 64, 422, 65, 423, 424, 425, 426, 170, 171, 172, 173, 44, 901, 902, 903, 904, 905, 906, 907, 908, 909, 937, 938, 939, 940, 941, 942, 943, 944, 945, 946, 947, 930, 931, 932, 933, 934, 935, 936, 972, 973, 974, 975, 976, 929, 977, 978, 979, 980] (by decide +kernel) (by decide +kernel)
set_option maxRecDepth 20000 in
theorem gL_law_X10_ways : GoodIn wsL_law (wsV RL 53 RX10 yX10_ways wsX10_ways) := goodIn_app (goodIn_of _ (by decide +kernel)) ggL_law_X10_ways
set_option maxRecDepth 20000 in
theorem ggL_law_X11_ways : GoodIn wsL_law wsX11_ways := goodIn_r _ [523, 142, 431, 249, 436, 432, 433, 434, 5, 435, 437, 438, 439, 440, 441, 147, 148, 442, 443, 444, 445, 446, 447, 448, 449, 450, 451, 452, 187, 188, 189, 453, 454, 455, 456, 285, 286, 287, 288, 457, 458, 459, 460, 461, 387, 388, 462, 463, 464, 465, 466, 467, 468, 469, 470, 471, 472, 473, 474, 475, 476, 477, 478, 479, 480, 481, 482, 483, 484, 218, 219, 220, 221, 222, 910, 911, 912, 913, 914, 915, 916, 917, 918, 919, 920, 921, 922, 923, 924, 925, 926, 927, 928] (by decide +kernel) (by decide +kernel)
set_option maxRecDepth 20000 in
theorem gL_law_X11_ways : GoodIn wsL_law (wsV RL 56 RX11 yX11_ways wsX11_ways) := goodIn_app (goodIn_of _ (by decide +kernel)) ggL_law_X11_ways
set_option maxRecDepth 20000 in
theorem ggL_law_X10_stuck : GoodIn wsL_law wsX10_stuck := goodIn_r _ [527, 23, 528, 329, 330, 331, 22, 332, 74, 67, 333, 334, 335, 336, 72, 75, 337, 73, 338, 339, 340, 71, 341, 88, 87, 84, 342, 343, 344, 345, 346, 347, 348, 85, 86, 349, 187, 188, 189, 165, 2, 166, 350, 351, 352, 353, 80, 76, 354, 355, 356, 357, 358, 200, 18, 201, 359, 360, 361, 362, 363, 364, 79, 365, 93, 94, 366, 367, 368, 369, 95, 370, 371, 372, 373, 374, 375, 376, 377, 378, 379, 380, 56, 381, 382, 383, 384, 96, 385, 386, 387, 388, 389, 390, 391, 392, 393, 277, 278, 279, 280, 53, 394, 395, 396, 397, 398, 54, 399, 203, 204, 400, 401, 402, 403, 404, 405, 406, 407, 408, 409, 410, 411, 412, 413, 414, 415, 416, 417, 418, 419, 420, 421, 66, 64, 422, 65, 423, 424, 425, 426, 901, 902, 903, 904, 905, 906, 907, 908, 909, 937, 938, 939, 940, 941, 942, 943, 944, 945, 946, 947, 930, 931, 932, 933, 934, 935, 936, 972, 973, 974, 975, 976, 929, 977, 978, 979, 980] (by decide +kernel) (by decide +kernel)
set_option maxRecDepth 20000 in
theorem gL_law_X10_stuck : GoodIn wsL_law (wsV RL 57 RX10 yX10_stuck wsX10_stuck) := goodIn_app (goodIn_of _ (by decide +kernel)) ggL_law_X10_stuck
set_option maxRecDepth 20000 in
theorem ggL_law_X11_stuck : GoodIn wsL_law wsX11_stuck := goodIn_r _ [532, 142, 431, 432, 433, 434, 5, 435, 436, 437, 438, 439, 440, 441, 147, 148, 442, 443, 444, 445, 446, 447, 448, 449, 450, 451, 452, 187, 188, 189, 453, 454, 455, 456, 285, 286, 287, 288, 457, 458, 459, 460, 461, 387, 388, 462, 463, 464, 465, 466, 467, 468, 469, 470, 471, 472, 473, 474, 475, 476, 477, 478, 479, 480, 481, 482, 483, 484, 910, 911, 912, 913, 914, 915, 916, 917, 918, 919, 920, 921, 922, 923, 924, 925, 926, 927, 928] (by decide +kernel) (by decide +kernel)
set_option maxRecDepth 20000 in
theorem gL_law_X11_stuck : GoodIn wsL_law (wsV RL 60 RX11 yX11_stuck wsX11_stuck) := goodIn_app (goodIn_of _ (by decide +kernel)) ggL_law_X11_stuck
set_option maxRecDepth 20000 in
theorem ggL_law_X10_latest : GoodIn wsL_law wsX10_latest := goodIn_r _ [536, 19, 160, 23, 232, 489, 505, 537, 164, 165, 2, 166, 255, 256, 257, 18, 258, 59, 170, 171, 172, 173, 44, 329, 330, 331, 22, 332, 74, 67, 333, 334, 335, 336, 72, 75, 337, 73, 338, 339, 340, 71, 341, 88, 87, 84, 342, 343, 344, 345, 346, 347, 348, 85, 86, 349, 187, 188, 189, 350, 351, 352, 353, 80, 76, 354, 355, 356, 357, 358, 200, 201, 359, 360, 361, 362, 363, 364, 79, 365, 93, 94, 366, 367, 368, 369, 95, 370, 371, 372, 373, 374, 375, 376, 377, 378, 379, 380, 56, 381, 382, 383, 384, 96, 385, 386, 387, 388, 389, 390, 391, 392, 393, 277, 278, 279, 280, 53, 394, 395, 396, 397, 398, 54, 399, 203, 204, 400, 401, 402, 403, 404, 405, 406, 407, 408, 409, 410, 411, 412, 413, 414, 415, 416, 417, 418, 419, 420, 421, 66, 64, 422, 65, 423, 424, 425, 426, 506, 507, 508, 509, 68, 491, 492, 538, 901, 902, 903, 904, 905, 906, 907, 908, 909, 937, 938, 939, 940, 941, 942, 943, 944, 945, 946, 947, 930, 931, 932, 933, 934, 935, 936, 972, 973, 974, 975, 976, 929, 977, 978, 979, 980] (by decide +kernel) (by decide +kernel)
set_option maxRecDepth 20000 in
theorem gL_law_X10_latest : GoodIn wsL_law (wsV RL 61 RX10 yX10_latest wsX10_latest) := goodIn_app (goodIn_of _ (by decide +kernel)) ggL_law_X10_latest
set_option maxRecDepth 20000 in
theorem ggL_law_X11_latest : GoodIn wsL_law wsX11_latest := goodIn_r _ [542, 209, 249, 152, 212, 213, 5, 214, 268, 269, 270, 271, 142, 218, 219, 220, 221, 222, 497, 498, 499, 500, 431, 437, 446, 149, 151, 432, 433, 434, 435, 436, 438, 439, 440, 441, 147, 148, 442, 443, 444, 445, 447, 448, 449, 450, 451, 452, 187, 188, 189, 453, 454, 455, 456, 285, 286, 287, 288, 457, 458, 459, 460, 461, 387, 388, 462, 463, 464, 465, 466, 467, 468, 469, 470, 471, 472, 473, 474, 475, 476, 477, 478, 479, 480, 481, 482, 483, 484, 910, 911, 912, 913, 914, 915, 916, 917, 918, 919, 920, 921, 922, 923, 924, 925, 926, 927, 928] (by decide +kernel) (by decide +kernel)
set_option maxRecDepth 20000 in
theorem gL_law_X11_latest : GoodIn wsL_law (wsV RL 64 RX11 yX11_latest wsX11_latest) := goodIn_app (goodIn_of _ (by decide +kernel)) ggL_law_X11_latest
set_option maxRecDepth 20000 in
theorem ggL_law_X10_judge : GoodIn wsL_law wsX10_judge := goodIn_r _ [546, 19, 162, 160, 23, 254, 547, 170, 171, 172, 2, 173, 44, 506, 507, 508, 22, 509, 80, 68, 75, 337, 76, 354, 362, 363, 364, 79, 365, 93, 94, 491, 492, 366, 367, 368, 369, 95, 370, 371, 372, 200, 18, 201, 373, 374, 375, 376, 377, 378, 379, 380, 56, 381, 382, 383, 384, 96, 385, 386, 387, 188, 388, 389, 390, 391, 392, 393, 277, 278, 279, 280, 53, 394, 395, 396, 397, 398, 54, 399, 203, 204, 403, 404, 405, 406, 407, 408, 409, 410, 411, 412, 413, 414, 415, 416, 901, 902, 903, 904, 905, 906, 907, 908, 909, 930, 931, 932, 933, 934, 935, 936, 937, 938, 939, 940, 941, 942, 943, 944, 945, 946, 947, 929, 977, 978, 979, 980] (by decide +kernel) (by decide +kernel)
set_option maxRecDepth 20000 in
theorem gL_law_X10_judge : GoodIn wsL_law (wsV RL 65 RX10 yX10_judge wsX10_judge) := goodIn_app (goodIn_of _ (by decide +kernel)) ggL_law_X10_judge
set_option maxRecDepth 20000 in
theorem ggL_law_X11_judge : GoodIn wsL_law wsX11_judge := goodIn_r _ [551, 142, 209, 48, 267, 212, 213, 5, 214, 218, 219, 220, 221, 222, 453, 454, 455, 456, 285, 286, 287, 288, 457, 458, 459, 460, 461, 387, 188, 388, 462, 463, 464, 465, 466, 467, 468, 469, 470, 471, 472, 473, 474, 475, 476, 477, 481, 482, 483, 484, 910, 911, 912, 913, 914, 915, 916, 917, 918, 919, 920, 921, 922, 923, 924, 925, 926, 927, 928] (by decide +kernel) (by decide +kernel)
set_option maxRecDepth 20000 in
theorem gL_law_X11_judge : GoodIn wsL_law (wsV RL 68 RX11 yX11_judge wsX11_judge) := goodIn_app (goodIn_of _ (by decide +kernel)) ggL_law_X11_judge
set_option maxRecDepth 20000 in
theorem ggL_law_X10_bass : GoodIn wsL_law wsX10_bass := goodIn_r _ [555, 160, 27, 556, 164, 165, 2, 166, 170, 171, 172, 173, 44, 557, 558, 559, 26, 560, 101, 178, 179, 180, 181, 43, 23, 182, 183, 184, 42, 185, 137, 130, 186, 187, 188, 189, 131, 132, 133, 190, 191, 192, 22, 193, 74, 561, 562, 563, 564, 901, 902, 903, 904, 905, 906, 907, 908, 909, 948, 949, 950, 951, 964, 965, 966, 967, 968, 969, 970, 971, 937, 938, 939, 940, 941, 942, 943, 944, 945, 946, 947] (by decide +kernel) (by decide +kernel)
set_option maxRecDepth 20000 in
theorem gL_law_X10_bass : GoodIn wsL_law (wsV RL 69 RX10 yX10_bass wsX10_bass) := goodIn_app (goodIn_of _ (by decide +kernel)) ggL_law_X10_bass
set_option maxRecDepth 20000 in
theorem ggL_law_X11_bass : GoodIn wsL_law wsX11_bass := goodIn_r _ [568, 209, 142, 212, 213, 5, 214, 218, 219, 220, 221, 222, 223, 224, 225, 226, 227, 143, 910, 911, 912, 913, 914, 915, 916, 917, 918, 919, 920, 921, 922, 923, 924, 925, 926, 927, 928] (by decide +kernel) (by decide +kernel)
set_option maxRecDepth 20000 in
theorem gL_law_X11_bass : GoodIn wsL_law (wsV RL 73 RX11 yX11_bass wsX11_bass) := goodIn_app (goodIn_of _ (by decide +kernel)) ggL_law_X11_bass
set_option maxRecDepth 20000 in
theorem ggL_law_X10_split : GoodIn wsL_law wsX10_split := goodIn_r _ [572, 160, 27, 556, 232, 573, 574, 575, 2, 576, 19, 255, 256, 257, 18, 258, 59, 165, 166, 164, 170, 171, 172, 173, 44, 577, 578, 579, 26, 580, 581, 582, 583, 584, 585, 558, 559, 560, 101, 901, 902, 903, 904, 905, 906, 907, 908, 909, 948, 949, 950, 951, 930, 931, 932, 933, 934, 935, 936] (by decide +kernel) (by decide +kernel)
set_option maxRecDepth 20000 in
theorem gL_law_X10_split : GoodIn wsL_law (wsV RL 74 RX10 yX10_split wsX10_split) := goodIn_app (goodIn_of _ (by decide +kernel)) ggL_law_X10_split
set_option maxRecDepth 20000 in
theorem ggL_law_X11_split : GoodIn wsL_law wsX11_split := goodIn_r _ [589, 209, 142, 249, 590, 591, 592, 5, 593, 268, 269, 270, 271, 212, 213, 214, 218, 219, 220, 221, 222, 594, 595, 596, 597, 910, 911, 912, 913, 914, 915, 916, 917, 918, 919, 920, 921, 922, 923, 924, 925, 926, 927, 928] (by decide +kernel) (by decide +kernel)
set_option maxRecDepth 20000 in
theorem gL_law_X11_split : GoodIn wsL_law (wsV RL 78 RX11 yX11_split wsX11_split) := goodIn_app (goodIn_of _ (by decide +kernel)) ggL_law_X11_split
set_option maxRecDepth 20000 in
theorem ggL_law_X10_has : GoodIn wsL_law wsX10_has := goodIn_r _ [601, 160, 27, 556, 232, 164, 165, 2, 166, 573, 574, 575, 576, 19, 255, 256, 257, 18, 258, 59, 170, 171, 172, 173, 44, 602, 603, 604, 26, 605, 606, 578, 579, 580, 581, 582, 583, 584, 585, 558, 559, 560, 101, 901, 902, 903, 904, 905, 906, 907, 908, 909, 948, 949, 950, 951, 930, 931, 932, 933, 934, 935, 936] (by decide +kernel) (by decide +kernel)
set_option maxRecDepth 20000 in
theorem gL_law_X10_has : GoodIn wsL_law (wsV RL 79 RX10 yX10_has wsX10_has) := goodIn_app (goodIn_of _ (by decide +kernel)) ggL_law_X10_has
set_option maxRecDepth 20000 in
theorem ggL_law_X11_has : GoodIn wsL_law wsX11_has := goodIn_r _ [610, 209, 142, 249, 590, 591, 592, 5, 593, 268, 269, 270, 271, 212, 213, 214, 218, 219, 220, 221, 222, 594, 595, 596, 597, 910, 911, 912, 913, 914, 915, 916, 917, 918, 919, 920, 921, 922, 923, 924, 925, 926, 927, 928] (by decide +kernel) (by decide +kernel)
set_option maxRecDepth 20000 in
theorem gL_law_X11_has : GoodIn wsL_law (wsV RL 82 RX11 yX11_has wsX11_has) := goodIn_app (goodIn_of _ (by decide +kernel)) ggL_law_X11_has
set_option maxRecDepth 20000 in
theorem ggL_law_X10_fast : GoodIn wsL_law wsX10_fast := goodIn_r _ [614, 160, 27, 556, 232, 573, 574, 575, 2, 576, 19, 255, 256, 257, 18, 258, 59, 165, 166, 164, 170, 171, 172, 173, 44, 615, 616, 617, 26, 618, 102, 103, 619, 104, 620, 606, 578, 579, 580, 581, 582, 583, 584, 585, 558, 559, 560, 101, 901, 902, 903, 904, 905, 906, 907, 908, 909, 948, 949, 950, 951, 930, 931, 932, 933, 934, 935, 936, 929] (by decide +kernel) (by decide +kernel)
set_option maxRecDepth 20000 in
theorem gL_law_X10_fast : GoodIn wsL_law (wsV RL 83 RX10 yX10_fast wsX10_fast) := goodIn_app (goodIn_of _ (by decide +kernel)) ggL_law_X10_fast
set_option maxRecDepth 20000 in
theorem ggL_law_X11_fast : GoodIn wsL_law wsX11_fast := goodIn_r _ [624, 209, 142, 249, 590, 591, 592, 5, 593, 268, 269, 270, 271, 212, 213, 214, 218, 219, 220, 221, 222, 625, 626, 627, 628, 594, 595, 596, 597, 910, 911, 912, 913, 914, 915, 916, 917, 918, 919, 920, 921, 922, 923, 924, 925, 926, 927, 928] (by decide +kernel) (by decide +kernel)
set_option maxRecDepth 20000 in
theorem gL_law_X11_fast : GoodIn wsL_law (wsV RL 86 RX11 yX11_fast wsX11_fast) := goodIn_app (goodIn_of _ (by decide +kernel)) ggL_law_X11_fast
set_option maxRecDepth 20000 in
theorem ggL_law_X10_shape : GoodIn wsL_law wsX10_shape := goodIn_r _ [632, 160, 27, 556, 232, 573, 574, 575, 2, 576, 19, 255, 256, 257, 18, 258, 59, 165, 166, 170, 171, 172, 173, 44, 633, 634, 635, 26, 636, 637, 616, 617, 618, 102, 103, 619, 104, 620, 606, 578, 579, 580, 581, 582, 583, 584, 585, 558, 559, 560, 101, 901, 902, 903, 904, 905, 906, 907, 908, 909, 948, 949, 950, 951, 930, 931, 932, 933, 934, 935, 936, 929] (by decide +kernel) (by decide +kernel)
set_option maxRecDepth 20000 in
theorem gL_law_X10_shape : GoodIn wsL_law (wsV RL 87 RX10 yX10_shape wsX10_shape) := goodIn_app (goodIn_of _ (by decide +kernel)) ggL_law_X10_shape
set_option maxRecDepth 20000 in
theorem ggL_law_X11_shape : GoodIn wsL_law wsX11_shape := goodIn_r _ [641, 209, 142, 249, 590, 591, 592, 5, 593, 268, 269, 270, 271, 212, 213, 214, 218, 219, 220, 221, 222, 625, 626, 627, 628, 594, 595, 596, 597, 910, 911, 912, 913, 914, 915, 916, 917, 918, 919, 920, 921, 922, 923, 924, 925, 926, 927, 928] (by decide +kernel) (by decide +kernel)
set_option maxRecDepth 20000 in
theorem gL_law_X11_shape : GoodIn wsL_law (wsV RL 90 RX11 yX11_shape wsX11_shape) := goodIn_app (goodIn_of _ (by decide +kernel)) ggL_law_X11_shape
set_option maxRecDepth 20000 in
theorem ggL_law_X10_hit : GoodIn wsL_law wsX10_hit := goodIn_r _ [645, 160, 31, 161, 646, 163, 164, 165, 2, 166, 167, 168, 169, 170, 171, 172, 173, 44, 647, 648, 649, 30, 650, 108, 651, 652, 653, 654, 109, 178, 179, 180, 181, 43, 23, 182, 183, 184, 42, 185, 137, 130, 186, 187, 188, 189, 131, 132, 133, 190, 191, 192, 22, 193, 74, 655, 656, 657, 658, 901, 902, 903, 904, 905, 906, 907, 908, 909, 952, 953, 964, 965, 966, 967, 968, 969, 970, 971, 937, 938, 939, 940, 941, 942, 943, 944, 945, 946, 947] (by decide +kernel) (by decide +kernel)
set_option maxRecDepth 20000 in
theorem gL_law_X10_hit : GoodIn wsL_law (wsV RL 91 RX10 yX10_hit wsX10_hit) := goodIn_app (goodIn_of _ (by decide +kernel)) ggL_law_X10_hit
set_option maxRecDepth 20000 in
theorem ggL_law_X11_hit : GoodIn wsL_law wsX11_hit := goodIn_r _ [662, 209, 142, 210, 211, 663, 664, 5, 665, 212, 213, 214, 215, 216, 217, 218, 219, 220, 221, 222, 666, 667, 668, 669, 223, 224, 225, 226, 227, 143, 910, 911, 912, 913, 914, 915, 916, 917, 918, 919, 920, 921, 922, 923, 924, 925, 926, 927, 928] (by decide +kernel) (by decide +kernel)
set_option maxRecDepth 20000 in
theorem gL_law_X11_hit : GoodIn wsL_law (wsV RL 94 RX11 yX11_hit wsX11_hit) := goodIn_app (goodIn_of _ (by decide +kernel)) ggL_law_X11_hit
