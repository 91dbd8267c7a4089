theorem lw_mem {big ws : List Cond} (ps : List Nat) (h : ws = ps.filterMap (fun i => big[i]?)) : ∀ w ∈ ws, w ∈ big := by
  intro w hw
  rw [h] at hw
  obtain ⟨i, -, hi⟩ := List.mem_filterMap.mp hw
  exact List.mem_of_getElem? hi
theorem lw_ap {big a b : List Cond} (ha : ∀ w ∈ a, w ∈ big) (hb : ∀ w ∈ b, w ∈ big) : ∀ w ∈ a ++ b, w ∈ big := fun w h => (List.mem_append.mp h).elim (ha w) (hb w)
set_option maxRecDepth 20000 in
theorem lwi_wsL_law_r1 : ∀ w ∈ wsL_law_r1, w ∈ lw_tbl := lw_mem [52, 53, 38, 826, 827, 49, 54, 55, 56, 57, 58, 59, 60, 61, 39, 327, 76, 77, 40, 328, 119, 120, 41, 329] (by decide +kernel)
set_option maxRecDepth 20000 in
theorem lwi_wsL_law_r2 : ∀ w ∈ wsL_law_r2, w ∈ lw_tbl := lw_mem [211, 212, 44, 330, 231, 232, 45, 331, 247, 248, 46, 332, 277, 278, 47, 333, 295, 296, 48, 334, 335, 63, 64, 65] (by decide +kernel)
set_option maxRecDepth 20000 in
theorem lwi_wsL_law_r3 : ∀ w ∈ wsL_law_r3, w ∈ lw_tbl := lw_mem [75, 66, 79, 80, 81, 82, 85, 90, 93, 95, 98, 100, 121, 122, 123, 124, 173, 175, 177, 179, 181, 125, 126, 42] (by decide +kernel)
set_option maxRecDepth 20000 in
theorem lwi_wsL_law_r4 : ∀ w ∈ wsL_law_r4, w ∈ lw_tbl := lw_mem [185, 186, 187, 183, 184, 152, 153, 43, 171, 128, 129, 130, 131, 133, 135, 137, 139, 154, 155, 156, 157, 160, 161, 158] (by decide +kernel)
set_option maxRecDepth 20000 in
theorem lwi_wsL_law_r5 : ∀ w ∈ wsL_law_r5, w ∈ lw_tbl := lw_mem [159, 213, 214, 215, 216, 217, 221, 219, 220, 234, 235, 236, 237, 241, 249, 250, 251, 252, 253, 255, 260, 261, 257, 258] (by decide +kernel)
set_option maxRecDepth 20000 in
theorem lwi_wsL_law_r6 : ∀ w ∈ wsL_law_r6, w ∈ lw_tbl := lw_mem [259, 280, 281, 282, 283, 285, 287, 298, 299, 300, 301, 303, 304, 305, 306, 307, 308, 309, 828, 829, 830, 831, 832, 833] (by decide +kernel)
set_option maxRecDepth 20000 in
theorem lwi_wsL_law_r7 : ∀ w ∈ wsL_law_r7, w ∈ lw_tbl := lw_mem [836, 837, 838, 839, 840, 845, 890, 846, 847, 848, 849, 850, 355, 356, 357, 358, 365, 374, 101, 375, 359, 360, 361, 362] (by decide +kernel)
set_option maxRecDepth 20000 in
theorem lwi_wsL_law_r8 : ∀ w ∈ wsL_law_r8, w ∈ lw_tbl := lw_mem [363, 364, 366, 368, 0, 369, 370, 371, 372, 373, 376, 378, 1, 379, 380, 381, 382, 383, 384, 385, 50, 386, 387, 388] (by decide +kernel)
set_option maxRecDepth 20000 in
theorem lwi_wsL_law_r9 : ∀ w ∈ wsL_law_r9, w ∈ lw_tbl := lw_mem [389, 390, 391, 392, 393, 394, 401, 395, 396, 397, 398, 399, 400, 900, 901, 902, 903, 910, 911, 912, 904, 905, 906, 907] (by decide +kernel)
set_option maxRecDepth 20000 in
theorem lwi_wsL_law_r10 : ∀ w ∈ wsL_law_r10, w ∈ lw_tbl := lw_mem [908, 909, 896, 898, 14, 899, 835, 913, 915, 15, 916, 834, 403, 404, 405, 406, 407, 83, 94, 86, 91, 408, 409, 410] (by decide +kernel)
set_option maxRecDepth 20000 in
theorem lwi_wsL_law_r11 : ∀ w ∈ wsL_law_r11, w ∈ lw_tbl := lw_mem [411, 412, 413, 414, 415, 917, 918, 919, 920, 895, 416, 417, 418, 419, 429, 420, 421, 422, 423, 425, 426, 427, 428, 921] (by decide +kernel)
set_option maxRecDepth 20000 in
theorem lwi_wsL_law_r12 : ∀ w ∈ wsL_law_r12, w ∈ lw_tbl := lw_mem [922, 923, 924, 929, 925, 927, 16, 928, 430, 431, 432, 433, 434, 435, 436, 437, 438, 930, 931, 932, 933, 934, 936, 17] (by decide +kernel)
set_option maxRecDepth 20000 in
theorem lwi_wsL_law_r13 : ∀ w ∈ wsL_law_r13, w ∈ lw_tbl := lw_mem [937, 440, 441, 442, 443, 444, 445, 446, 447, 448, 938, 939, 940, 941, 449, 450, 451, 452, 70, 453, 454, 455, 456, 458] (by decide +kernel)
set_option maxRecDepth 20000 in
theorem lwi_wsL_law_r14 : ∀ w ∈ wsL_law_r14, w ∈ lw_tbl := lw_mem [460, 461, 462, 463, 464, 942, 943, 944, 945, 946, 947, 948, 465, 466, 467, 468, 174, 469, 470, 471, 472, 473, 475, 2] (by decide +kernel)
set_option maxRecDepth 20000 in
theorem lwi_wsL_law_r15 : ∀ w ∈ wsL_law_r15, w ∈ lw_tbl := lw_mem [476, 103, 477, 478, 479, 480, 481, 482, 483, 484, 485, 486, 487, 489, 490, 492, 3, 493, 69, 494, 495, 496, 497, 498] (by decide +kernel)
set_option maxRecDepth 20000 in
theorem lwi_wsL_law_r16 : ∀ w ∈ wsL_law_r16, w ∈ lw_tbl := lw_mem [499, 500, 501, 502, 503, 504, 505, 506, 507, 508, 87, 99, 509, 510, 511, 512, 513, 514, 515, 516, 517, 518, 520, 4] (by decide +kernel)
set_option maxRecDepth 20000 in
theorem lwi_wsL_law_r17 : ∀ w ∈ wsL_law_r17, w ∈ lw_tbl := lw_mem [521, 68, 522, 523, 524, 96, 525, 526, 527, 528, 529, 530, 531, 532, 533, 534, 535, 536, 537, 538, 539, 540, 541, 92] (by decide +kernel)
set_option maxRecDepth 20000 in
theorem lwi_wsL_law_r18 : ∀ w ∈ wsL_law_r18, w ∈ lw_tbl := lw_mem [542, 543, 544, 545, 546, 547, 548, 84, 549, 550, 551, 553, 5, 554, 555, 556, 558, 6, 559, 949, 950, 951, 952, 965] (by decide +kernel)
set_option maxRecDepth 20000 in
theorem lwi_wsL_law_r19 : ∀ w ∈ wsL_law_r19, w ∈ lw_tbl := lw_mem [953, 955, 18, 956, 844, 843, 957, 959, 19, 960, 961, 963, 20, 964, 841, 842, 966, 968, 21, 969, 1002, 970, 972, 22] (by decide +kernel)
set_option maxRecDepth 20000 in
theorem lwi_wsL_law_r20 : ∀ w ∈ wsL_law_r20, w ∈ lw_tbl := lw_mem [973, 974, 976, 23, 977, 986, 978, 980, 24, 981, 982, 984, 25, 985, 987, 989, 26, 990, 991, 993, 27, 994, 995, 996] (by decide +kernel)
set_option maxRecDepth 20000 in
theorem lwi_wsL_law_r21 : ∀ w ∈ wsL_law_r21, w ∈ lw_tbl := lw_mem [997, 998, 1000, 28, 1001, 560, 561, 562, 563, 176, 564, 565, 566, 1003, 1004, 1005, 1006, 1007, 1009, 29, 1010, 567, 568, 569] (by decide +kernel)
set_option maxRecDepth 20000 in
theorem lwi_wsL_law_r22 : ∀ w ∈ wsL_law_r22, w ∈ lw_tbl := lw_mem [570, 172, 571, 572, 573, 574, 576, 1011, 1012, 1013, 1014, 577, 578, 579, 580, 178, 1015, 1016, 1017, 1018, 581, 582, 583, 584] (by decide +kernel)
set_option maxRecDepth 20000 in
theorem lwi_wsL_law_r23 : ∀ w ∈ wsL_law_r23, w ∈ lw_tbl := lw_mem [180, 1019, 1020, 1021, 1022, 585, 586, 587, 588, 97, 589, 1023, 1024, 1025, 1026, 590, 591, 592, 593, 182, 1027, 1028, 1029, 1030] (by decide +kernel)
set_option maxRecDepth 20000 in
theorem lwi_wsL_law_r24 : ∀ w ∈ wsL_law_r24, w ∈ lw_tbl := lw_mem [594, 595, 596, 597, 218, 598, 599, 600, 601, 602, 603, 604, 605, 1031, 1032, 1033, 1034, 606, 607, 608, 609, 610, 612, 7] (by decide +kernel)
set_option maxRecDepth 20000 in
theorem lwi_wsL_law_r25 : ∀ w ∈ wsL_law_r25, w ∈ lw_tbl := lw_mem [613, 614, 615, 616, 617, 618, 619, 620, 621, 623, 1035, 1036, 1037, 1038, 1039, 1041, 30, 1042, 1043, 1045, 31, 1046, 624, 625] (by decide +kernel)
set_option maxRecDepth 20000 in
theorem lwi_wsL_law_r26 : ∀ w ∈ wsL_law_r26, w ∈ lw_tbl := lw_mem [626, 627, 628, 629, 630, 631, 632, 1047, 1048, 1049, 1050, 633, 634, 635, 636, 637, 638, 639, 640, 89, 71, 1051, 1052, 1053] (by decide +kernel)
set_option maxRecDepth 20000 in
theorem lwi_wsL_law_r27 : ∀ w ∈ wsL_law_r27, w ∈ lw_tbl := lw_mem [1054, 1055, 1057, 32, 1058, 641, 642, 643, 644, 645, 646, 647, 648, 649, 1059, 1060, 1061, 1062, 650, 651, 652, 653, 240, 654] (by decide +kernel)
set_option maxRecDepth 20000 in
theorem lwi_wsL_law_r28 : ∀ w ∈ wsL_law_r28, w ∈ lw_tbl := lw_mem [655, 656, 657, 658, 659, 660, 661, 662, 663, 664, 665, 1063, 1064, 1065, 1066, 1067, 1068, 1069, 1070, 1072, 33, 1073, 666, 667] (by decide +kernel)
set_option maxRecDepth 20000 in
theorem lwi_wsL_law_r29 : ∀ w ∈ wsL_law_r29, w ∈ lw_tbl := lw_mem [668, 669, 670, 672, 8, 673, 674, 675, 676, 677, 239, 678, 679, 680, 681, 682, 1074, 1075, 1076, 1077, 683, 684, 685, 686] (by decide +kernel)
set_option maxRecDepth 20000 in
theorem lwi_wsL_law_r30 : ∀ w ∈ wsL_law_r30, w ∈ lw_tbl := lw_mem [687, 688, 689, 690, 238, 102, 691, 693, 9, 694, 695, 67, 696, 698, 10, 699, 88, 701, 700, 702, 704, 11, 705, 706] (by decide +kernel)
set_option maxRecDepth 20000 in
theorem lwi_wsL_law_r31 : ∀ w ∈ wsL_law_r31, w ∈ lw_tbl := lw_mem [708, 12, 709, 710, 711, 712, 713, 1078, 1079, 1080, 1081, 1082, 1084, 34, 1085, 1086, 1088, 35, 1089, 1090, 1092, 36, 1093, 714] (by decide +kernel)
set_option maxRecDepth 20000 in
theorem lwi_wsL_law_r32 : ∀ w ∈ wsL_law_r32, w ∈ lw_tbl := lw_mem [715, 716, 717, 254, 1094, 1095, 1096, 1097, 718, 719, 720, 721, 722, 1098, 1099, 1100, 1101, 723, 724, 725, 726, 256, 1102, 1103] (by decide +kernel)
set_option maxRecDepth 20000 in
theorem lwi_wsL_law_r33 : ∀ w ∈ wsL_law_r33, w ∈ lw_tbl := lw_mem [1104, 1105, 727, 728, 729, 730, 286, 731, 732, 733, 734, 735, 736, 737, 1106, 1107, 1108, 1109, 1110, 1111, 1112, 738, 739, 740] (by decide +kernel)
set_option maxRecDepth 20000 in
theorem lwi_wsL_law_r34 : ∀ w ∈ wsL_law_r34, w ∈ lw_tbl := lw_mem [741, 746, 742, 743, 744, 745, 747, 748, 749, 750, 1113, 1114, 1115, 1116, 1117, 751, 752, 753, 754, 284, 755, 756, 757, 758] (by decide +kernel)
set_option maxRecDepth 20000 in
theorem lwi_wsL_law_r35 : ∀ w ∈ wsL_law_r35, w ∈ lw_tbl := lw_mem [759, 760, 761, 762, 763, 765, 764, 51, 1118, 1119, 1120, 1121, 766, 767, 768, 769, 770, 771, 772, 773, 1122, 1123, 1124, 1125] (by decide +kernel)
set_option maxRecDepth 20000 in
theorem lwi_wsL_law_r36 : ∀ w ∈ wsL_law_r36, w ∈ lw_tbl := lw_mem [774, 775, 776, 777, 302, 778, 780, 13, 781, 782, 783, 784, 785, 786, 787, 788, 789, 790, 791, 792, 793, 794, 795, 796] (by decide +kernel)
set_option maxRecDepth 20000 in
theorem lwi_wsL_law_r37 : ∀ w ∈ wsL_law_r37, w ∈ lw_tbl := lw_mem [797, 798, 799, 800, 801, 802, 803, 804, 805, 806, 807, 808, 809, 810, 811, 812, 813, 891, 892, 893, 894, 814, 815, 816] (by decide +kernel)
set_option maxRecDepth 20000 in
theorem lwi_wsL_law_r38 : ∀ w ∈ wsL_law_r38, w ∈ lw_tbl := lw_mem [817, 818, 819, 820, 821, 822, 823, 824, 825, 1126, 1127, 1128, 1129] (by decide +kernel)
set_option maxRecDepth 20000 in
theorem lwi_wsX100 : ∀ w ∈ wsX100, w ∈ lw_tbl := lw_mem [336, 338, 340, 342, 344, 346, 348, 350, 352] (by decide +kernel)
set_option maxRecDepth 20000 in
theorem lwi_wsX110 : ∀ w ∈ wsX110, w ∈ lw_tbl := lw_mem [851, 853, 855, 857, 859, 861, 863, 865, 867, 869, 871, 873, 875, 877, 879, 881, 883, 885, 887] (by decide +kernel)
set_option maxRecDepth 20000 in
theorem lwi_wsX70 : ∀ w ∈ wsX70, w ∈ lw_tbl := lw_mem [72] (by decide +kernel)
set_option maxRecDepth 20000 in
theorem lwi_wsX40 : ∀ w ∈ wsX40, w ∈ lw_tbl := lw_mem [104, 106, 108, 110, 112, 114, 116] (by decide +kernel)
set_option maxRecDepth 20000 in
theorem lwi_wsX30 : ∀ w ∈ wsX30, w ∈ lw_tbl := lw_mem [188, 190, 192, 194, 196, 198, 200, 202, 204, 206, 208] (by decide +kernel)
set_option maxRecDepth 20000 in
theorem lwi_wsX10 : ∀ w ∈ wsX10, w ∈ lw_tbl := lw_mem [222, 224, 226, 228] (by decide +kernel)
set_option maxRecDepth 20000 in
theorem lwi_wsX90 : ∀ w ∈ wsX90, w ∈ lw_tbl := lw_mem [242, 244] (by decide +kernel)
set_option maxRecDepth 20000 in
theorem lwi_wsX60 : ∀ w ∈ wsX60, w ∈ lw_tbl := lw_mem [262, 264, 266, 268, 270, 272, 274] (by decide +kernel)
set_option maxRecDepth 20000 in
theorem lwi_wsX80 : ∀ w ∈ wsX80, w ∈ lw_tbl := lw_mem [288, 290, 292] (by decide +kernel)
set_option maxRecDepth 20000 in
theorem lwi_wsX50 : ∀ w ∈ wsX50, w ∈ lw_tbl := lw_mem [310, 312, 314, 316, 318, 320, 322, 324] (by decide +kernel)
set_option maxRecDepth 20000 in
theorem lwi_wsX20 : ∀ w ∈ wsX20, w ∈ lw_tbl := lw_mem [141, 143, 145, 147, 149] (by decide +kernel)
set_option maxRecDepth 20000 in
theorem lwi_wsX00 : ∀ w ∈ wsX00, w ∈ lw_tbl := lw_mem [162, 164, 166, 168] (by decide +kernel)
set_option maxRecDepth 20000 in
theorem wsL_law_in : ∀ w ∈ wsL_law, w ∈ lw_tbl := (lw_ap (lw_ap (lw_ap (lw_ap (lw_ap (lw_ap (lw_ap (lw_ap (lw_ap (lw_ap (lw_ap (lw_ap (lw_ap (lw_ap lwi_wsL_law_r1 (lw_ap lwi_wsL_law_r2 (lw_ap lwi_wsL_law_r3 (lw_ap lwi_wsL_law_r4 (lw_ap lwi_wsL_law_r5 (lw_ap lwi_wsL_law_r6 (lw_ap lwi_wsL_law_r7 (lw_ap lwi_wsL_law_r8 (lw_ap lwi_wsL_law_r9 (lw_ap lwi_wsL_law_r10 (lw_ap lwi_wsL_law_r11 (lw_ap lwi_wsL_law_r12 (lw_ap lwi_wsL_law_r13 (lw_ap lwi_wsL_law_r14 (lw_ap lwi_wsL_law_r15 (lw_ap lwi_wsL_law_r16 (lw_ap lwi_wsL_law_r17 (lw_ap lwi_wsL_law_r18 (lw_ap lwi_wsL_law_r19 (lw_ap lwi_wsL_law_r20 (lw_ap lwi_wsL_law_r21 (lw_ap lwi_wsL_law_r22 (lw_ap lwi_wsL_law_r23 (lw_ap lwi_wsL_law_r24 (lw_ap lwi_wsL_law_r25 (lw_ap lwi_wsL_law_r26 (lw_ap lwi_wsL_law_r27 (lw_ap lwi_wsL_law_r28 (lw_ap lwi_wsL_law_r29 (lw_ap lwi_wsL_law_r30 (lw_ap lwi_wsL_law_r31 (lw_ap lwi_wsL_law_r32 (lw_ap lwi_wsL_law_r33 (lw_ap lwi_wsL_law_r34 (lw_ap lwi_wsL_law_r35 (lw_ap lwi_wsL_law_r36 (lw_ap lwi_wsL_law_r37 lwi_wsL_law_r38))))))))))))))))))))))))))))))))))))) lwi_wsX100) lwi_wsX110) lwi_wsX70) lwi_wsX40) lwi_wsX30) lwi_wsX10) lwi_wsX90) lwi_wsX60) lwi_wsX80) lwi_wsX50) lwi_wsX20) lwi_wsX00) (fun _ h => absurd h List.not_mem_nil))
theorem inlX0 : ∀ w ∈ wsX00, w ∈ wsL_law := fun _ h => List.mem_append_left _ (List.mem_append_right _ h)
theorem inX0 : ∀ w ∈ wsX00, w ∈ lw_tbl := fun w h => wsL_law_in w (inlX0 w h)
theorem inlX1 : ∀ w ∈ wsX10, w ∈ wsL_law := fun _ h => List.mem_append_left _ (List.mem_append_left _ (List.mem_append_left _ (List.mem_append_left _ (List.mem_append_left _ (List.mem_append_left _ (List.mem_append_left _ (List.mem_append_right _ h)))))))
theorem inX1 : ∀ w ∈ wsX10, w ∈ lw_tbl := fun w h => wsL_law_in w (inlX1 w h)
theorem inlX2 : ∀ w ∈ wsX20, w ∈ wsL_law := fun _ h => List.mem_append_left _ (List.mem_append_left _ (List.mem_append_right _ h))
theorem inX2 : ∀ w ∈ wsX20, w ∈ lw_tbl := fun w h => wsL_law_in w (inlX2 w h)
theorem inlX3 : ∀ w ∈ wsX30, w ∈ wsL_law := fun _ h => List.mem_append_left _ (List.mem_append_left _ (List.mem_append_left _ (List.mem_append_left _ (List.mem_append_left _ (List.mem_append_left _ (List.mem_append_left _ (List.mem_append_left _ (List.mem_append_right _ h))))))))
theorem inX3 : ∀ w ∈ wsX30, w ∈ lw_tbl := fun w h => wsL_law_in w (inlX3 w h)
theorem inlX4 : ∀ w ∈ wsX40, w ∈ wsL_law := fun _ h => List.mem_append_left _ (List.mem_append_left _ (List.mem_append_left _ (List.mem_append_left _ (List.mem_append_left _ (List.mem_append_left _ (List.mem_append_left _ (List.mem_append_left _ (List.mem_append_left _ (List.mem_append_right _ h)))))))))
theorem inX4 : ∀ w ∈ wsX40, w ∈ lw_tbl := fun w h => wsL_law_in w (inlX4 w h)
theorem inlX5 : ∀ w ∈ wsX50, w ∈ wsL_law := fun _ h => List.mem_append_left _ (List.mem_append_left _ (List.mem_append_left _ (List.mem_append_right _ h)))
theorem inX5 : ∀ w ∈ wsX50, w ∈ lw_tbl := fun w h => wsL_law_in w (inlX5 w h)
theorem inlX6 : ∀ w ∈ wsX60, w ∈ wsL_law := fun _ h => List.mem_append_left _ (List.mem_append_left _ (List.mem_append_left _ (List.mem_append_left _ (List.mem_append_left _ (List.mem_append_right _ h)))))
theorem inX6 : ∀ w ∈ wsX60, w ∈ lw_tbl := fun w h => wsL_law_in w (inlX6 w h)
theorem inlX7 : ∀ w ∈ wsX70, w ∈ wsL_law := fun _ h => List.mem_append_left _ (List.mem_append_left _ (List.mem_append_left _ (List.mem_append_left _ (List.mem_append_left _ (List.mem_append_left _ (List.mem_append_left _ (List.mem_append_left _ (List.mem_append_left _ (List.mem_append_left _ (List.mem_append_right _ h))))))))))
theorem inX7 : ∀ w ∈ wsX70, w ∈ lw_tbl := fun w h => wsL_law_in w (inlX7 w h)
theorem inlX8 : ∀ w ∈ wsX80, w ∈ wsL_law := fun _ h => List.mem_append_left _ (List.mem_append_left _ (List.mem_append_left _ (List.mem_append_left _ (List.mem_append_right _ h))))
theorem inX8 : ∀ w ∈ wsX80, w ∈ lw_tbl := fun w h => wsL_law_in w (inlX8 w h)
theorem inlX9 : ∀ w ∈ wsX90, w ∈ wsL_law := fun _ h => List.mem_append_left _ (List.mem_append_left _ (List.mem_append_left _ (List.mem_append_left _ (List.mem_append_left _ (List.mem_append_left _ (List.mem_append_right _ h))))))
theorem inX9 : ∀ w ∈ wsX90, w ∈ lw_tbl := fun w h => wsL_law_in w (inlX9 w h)
theorem inlX10 : ∀ w ∈ wsX100, w ∈ wsL_law := fun _ h => List.mem_append_left _ (List.mem_append_left _ (List.mem_append_left _ (List.mem_append_left _ (List.mem_append_left _ (List.mem_append_left _ (List.mem_append_left _ (List.mem_append_left _ (List.mem_append_left _ (List.mem_append_left _ (List.mem_append_left _ (List.mem_append_left _ (List.mem_append_right _ h))))))))))))
theorem inX10 : ∀ w ∈ wsX100, w ∈ lw_tbl := fun w h => wsL_law_in w (inlX10 w h)
theorem inlX11 : ∀ w ∈ wsX110, w ∈ wsL_law := fun _ h => List.mem_append_left _ (List.mem_append_left _ (List.mem_append_left _ (List.mem_append_left _ (List.mem_append_left _ (List.mem_append_left _ (List.mem_append_left _ (List.mem_append_left _ (List.mem_append_left _ (List.mem_append_left _ (List.mem_append_left _ (List.mem_append_right _ h)))))))))))
theorem inX11 : ∀ w ∈ wsX110, w ∈ lw_tbl := fun w h => wsL_law_in w (inlX11 w h)
theorem inJ9 : ∀ w ∈ wsJ90, w ∈ lw_tbl := by decide +kernel
theorem inJ10 : ∀ w ∈ wsJ100, w ∈ lw_tbl := by decide +kernel
theorem dX0_init_0 : decode cX0_init 0 = .ok (.aload_n 0, 1) := by decide +kernel
theorem dX0_init_1 : decode cX0_init 1 = .ok (.invokespecial 3, 3) := by decide +kernel
theorem dX0_init_4 : decode cX0_init 4 = .ok (.aload_n 0, 1) := by decide +kernel
theorem dX0_init_5 : decode cX0_init 5 = .ok (.iconst 0, 1) := by decide +kernel
theorem dX0_init_6 : decode cX0_init 6 = .ok (.putfield 11, 3) := by decide +kernel
theorem dX0_init_9 : decode cX0_init 9 = .ok (.aload_n 0, 1) := by decide +kernel
theorem dX0_init_10 : decode cX0_init 10 = .ok (.iconst 0, 1) := by decide +kernel
theorem dX0_init_11 : decode cX0_init 11 = .ok (.putfield 17, 3) := by decide +kernel
theorem dX0_init_14 : decode cX0_init 14 = .ok (.aload_n 0, 1) := by decide +kernel
theorem dX0_init_15 : decode cX0_init 15 = .ok (.aload_n 1, 1) := by decide +kernel
theorem dX0_init_16 : decode cX0_init 16 = .ok (.putfield 20, 3) := by decide +kernel
theorem dX0_init_19 : decode cX0_init 19 = .ok (.aload_n 0, 1) := by decide +kernel
theorem dX0_init_20 : decode cX0_init 20 = .ok (.aload_n 2, 1) := by decide +kernel
theorem dX0_init_21 : decode cX0_init 21 = .ok (.putfield 24, 3) := by decide +kernel
theorem dX0_init_24 : decode cX0_init 24 = .ok (.return_, 1) := by decide +kernel
theorem dX0_strokeOf_0 : decode cX0_strokeOf 0 = .ok (.iload_n 1, 1) := by decide +kernel
theorem dX0_strokeOf_1 : decode cX0_strokeOf 1 = .ok (.ifCond .ne 10, 3) := by decide +kernel
theorem dX0_strokeOf_4 : decode cX0_strokeOf 4 = .ok (.aload_n 0, 1) := by decide +kernel
theorem dX0_strokeOf_5 : decode cX0_strokeOf 5 = .ok (.getfield 11, 3) := by decide +kernel
theorem dX0_strokeOf_8 : decode cX0_strokeOf 8 = .ok (.goto 7, 3) := by decide +kernel
theorem dX0_strokeOf_11 : decode cX0_strokeOf 11 = .ok (.aload_n 0, 1) := by decide +kernel
theorem dX0_strokeOf_12 : decode cX0_strokeOf 12 = .ok (.getfield 17, 3) := by decide +kernel
theorem dX0_strokeOf_15 : decode cX0_strokeOf 15 = .ok (.ireturn, 1) := by decide +kernel
theorem dX0_hold_0 : decode cX0_hold 0 = .ok (.aload_n 0, 1) := by decide +kernel
theorem dX0_hold_1 : decode cX0_hold 1 = .ok (.iload_n 1, 1) := by decide +kernel
theorem dX0_hold_2 : decode cX0_hold 2 = .ok (.ifCond .ne 7, 3) := by decide +kernel
theorem dX0_hold_5 : decode cX0_hold 5 = .ok (.iload_n 2, 1) := by decide +kernel
theorem dX0_hold_6 : decode cX0_hold 6 = .ok (.goto 4, 3) := by decide +kernel
theorem dX0_hold_9 : decode cX0_hold 9 = .ok (.iload_n 3, 1) := by decide +kernel
theorem dX0_hold_10 : decode cX0_hold 10 = .ok (.putfield 11, 3) := by decide +kernel
theorem dX0_hold_13 : decode cX0_hold 13 = .ok (.aload_n 0, 1) := by decide +kernel
theorem dX0_hold_14 : decode cX0_hold 14 = .ok (.iload_n 1, 1) := by decide +kernel
theorem dX0_hold_15 : decode cX0_hold 15 = .ok (.ifCond .ne 7, 3) := by decide +kernel
theorem dX0_hold_18 : decode cX0_hold 18 = .ok (.iload_n 3, 1) := by decide +kernel
theorem dX0_hold_19 : decode cX0_hold 19 = .ok (.goto 4, 3) := by decide +kernel
theorem dX0_hold_22 : decode cX0_hold 22 = .ok (.iload_n 2, 1) := by decide +kernel
theorem dX0_hold_23 : decode cX0_hold 23 = .ok (.putfield 17, 3) := by decide +kernel
theorem dX0_hold_26 : decode cX0_hold 26 = .ok (.return_, 1) := by decide +kernel
set_option maxRecDepth 20000 in
theorem ggX0_strike_X4_mainOf : GoodIn wsX0_strike wsX4_mainOf := goodIn_r _ [7] (by decide +kernel) (by decide +kernel)
set_option maxRecDepth 20000 in
theorem gX0_strike_X4_mainOf : GoodIn wsX0_strike (va_wsS RX0 28 yX4_mainOf wsX4_mainOf) := goodIn_app (goodIn_of _ (by decide +kernel)) ggX0_strike_X4_mainOf
set_option maxRecDepth 20000 in
theorem ggX0_strike_X0_strokeOf : GoodIn wsX0_strike wsX0_strokeOf := goodIn_r _ [12, 13, 14, 52, 53, 54, 55] (by decide +kernel) (by decide +kernel)
set_option maxRecDepth 20000 in
theorem gX0_strike_X0_strokeOf : GoodIn wsX0_strike (wsV RX0 32 RX0 yX0_strokeOf wsX0_strokeOf) := goodIn_app (goodIn_of _ (by decide +kernel)) ggX0_strike_X0_strokeOf
set_option maxRecDepth 20000 in
theorem ggX0_strike_X4_mayBeBy : GoodIn wsX0_strike wsX4_mayBeBy := goodIn_r _ [18, 19, 56, 57, 58, 59, 60, 61, 62] (by decide +kernel) (by decide +kernel)
set_option maxRecDepth 20000 in
theorem gX0_strike_X4_mayBeBy : GoodIn wsX0_strike (wsV RX0 35 RX4 yX4_mayBeBy wsX4_mayBeBy) := goodIn_app (goodIn_of _ (by decide +kernel)) ggX0_strike_X4_mayBeBy
set_option maxRecDepth 20000 in
theorem ggX0_strike_X0_isInTime : GoodIn wsX0_strike wsX0_isInTime := goodIn_r _ [23, 24, 25, 1, 3, 26, 27, 28, 29, 30, 31, 32, 33, 52, 53, 54, 55, 63, 56, 57, 58, 59, 60, 61, 62] (by decide +kernel) (by decide +kernel)
set_option maxRecDepth 20000 in
theorem gX0_strike_X0_isInTime : GoodIn wsX0_strike (wsV RX0 46 RX0 yX0_isInTime wsX0_isInTime) := goodIn_app (goodIn_of _ (by decide +kernel)) ggX0_strike_X0_isInTime
set_option maxRecDepth 20000 in
theorem ggX0_strike_X4_graces : GoodIn wsX0_strike wsX4_graces := goodIn_r _ [37, 38, 39, 56, 57, 58, 59, 60, 61, 62] (by decide +kernel) (by decide +kernel)
set_option maxRecDepth 20000 in
theorem gX0_strike_X4_graces : GoodIn wsX0_strike (wsV RX0 50 RX4 yX4_graces wsX4_graces) := goodIn_app (goodIn_of _ (by decide +kernel)) ggX0_strike_X4_graces
set_option maxRecDepth 20000 in
theorem ggX0_strike_X0_hold : GoodIn wsX0_strike wsX0_hold := goodIn_r _ [43, 13, 14, 52, 53, 54, 55] (by decide +kernel) (by decide +kernel)
set_option maxRecDepth 20000 in
theorem gX0_strike_X0_hold : GoodIn wsX0_strike (wsV RX0 53 RX0 yX0_hold wsX0_hold) := goodIn_app (goodIn_of _ (by decide +kernel)) ggX0_strike_X0_hold
set_option maxRecDepth 20000 in
theorem ggX0_strike_X4_firstGraceTick : GoodIn wsX0_strike wsX4_firstGraceTick := goodIn_r _ [47, 48, 38, 39, 56, 57, 58, 59, 60, 61, 62] (by decide +kernel) (by decide +kernel)
set_option maxRecDepth 20000 in
theorem gX0_strike_X4_firstGraceTick : GoodIn wsX0_strike (wsV RX0 57 RX4 yX4_firstGraceTick wsX4_firstGraceTick) := goodIn_app (goodIn_of _ (by decide +kernel)) ggX0_strike_X4_firstGraceTick
set_option maxRecDepth 20000 in
theorem ggX0_strike_X4_graceOf : GoodIn wsX0_strike wsX4_graceOf := goodIn_r _ [51] (by decide +kernel) (by decide +kernel)
set_option maxRecDepth 20000 in
theorem gX0_strike_X4_graceOf : GoodIn wsX0_strike (va_wsS RX0 60 yX4_graceOf wsX4_graceOf) := goodIn_app (goodIn_of _ (by decide +kernel)) ggX0_strike_X4_graceOf
theorem dX0_strike_0 : decode cX0_strike 0 = .ok (.iload_n 1, 1) := by decide +kernel
theorem dX0_strike_1 : decode cX0_strike 1 = .ok (.invokestatic 28, 3) := by decide +kernel
theorem dX0_strike_4 : decode cX0_strike 4 = .ok (.istore_n 3, 1) := by decide +kernel
theorem dX0_strike_5 : decode cX0_strike 5 = .ok (.aload_n 0, 1) := by decide +kernel
theorem dX0_strike_6 : decode cX0_strike 6 = .ok (.iconst 1, 1) := by decide +kernel
theorem dX0_strike_7 : decode cX0_strike 7 = .ok (.iload_n 2, 1) := by decide +kernel
theorem dX0_strike_8 : decode cX0_strike 8 = .ok (.isub, 1) := by decide +kernel
theorem dX0_strike_9 : decode cX0_strike 9 = .ok (.invokevirtual 32, 3) := by decide +kernel
theorem dX0_strike_12 : decode cX0_strike 12 = .ok (.istore 4, 2) := by decide +kernel
theorem dX0_strike_14 : decode cX0_strike 14 = .ok (.aload_n 0, 1) := by decide +kernel
theorem dX0_strike_15 : decode cX0_strike 15 = .ok (.getfield 20, 3) := by decide +kernel
theorem dX0_strike_18 : decode cX0_strike 18 = .ok (.iload_n 1, 1) := by decide +kernel
theorem dX0_strike_19 : decode cX0_strike 19 = .ok (.iload_n 2, 1) := by decide +kernel
theorem dX0_strike_20 : decode cX0_strike 20 = .ok (.invokevirtual 35, 3) := by decide +kernel
theorem dX0_strike_23 : decode cX0_strike 23 = .ok (.ifCond .eq 33, 3) := by decide +kernel
theorem dX0_strike_26 : decode cX0_strike 26 = .ok (.aload_n 0, 1) := by decide +kernel
theorem dX0_strike_27 : decode cX0_strike 27 = .ok (.aload_n 0, 1) := by decide +kernel
theorem dX0_strike_28 : decode cX0_strike 28 = .ok (.iload_n 2, 1) := by decide +kernel
theorem dX0_strike_29 : decode cX0_strike 29 = .ok (.invokevirtual 32, 3) := by decide +kernel
theorem dX0_strike_32 : decode cX0_strike 32 = .ok (.aload_n 0, 1) := by decide +kernel
theorem dX0_strike_33 : decode cX0_strike 33 = .ok (.getfield 20, 3) := by decide +kernel
theorem dX0_strike_36 : decode cX0_strike 36 = .ok (.getfield 39, 3) := by decide +kernel
theorem dX0_strike_39 : decode cX0_strike 39 = .ok (.iload_n 1, 1) := by decide +kernel
theorem dX0_strike_40 : decode cX0_strike 40 = .ok (.iaload, 1) := by decide +kernel
theorem dX0_strike_41 : decode cX0_strike 41 = .ok (.aload_n 0, 1) := by decide +kernel
theorem dX0_strike_42 : decode cX0_strike 42 = .ok (.getfield 20, 3) := by decide +kernel
theorem dX0_strike_45 : decode cX0_strike 45 = .ok (.getfield 43, 3) := by decide +kernel
theorem dX0_strike_48 : decode cX0_strike 48 = .ok (.iload_n 3, 1) := by decide +kernel
theorem dX0_strike_49 : decode cX0_strike 49 = .ok (.iaload, 1) := by decide +kernel
theorem dX0_strike_50 : decode cX0_strike 50 = .ok (.invokevirtual 46, 3) := by decide +kernel
theorem dX0_strike_53 : decode cX0_strike 53 = .ok (.ifCond .ne 5, 3) := by decide +kernel
theorem dX0_strike_56 : decode cX0_strike 56 = .ok (.iconst 0, 1) := by decide +kernel
theorem dX0_strike_57 : decode cX0_strike 57 = .ok (.ireturn, 1) := by decide +kernel
theorem dX0_strike_58 : decode cX0_strike 58 = .ok (.aload_n 0, 1) := by decide +kernel
theorem dX0_strike_59 : decode cX0_strike 59 = .ok (.getfield 20, 3) := by decide +kernel
theorem dX0_strike_62 : decode cX0_strike 62 = .ok (.iload_n 1, 1) := by decide +kernel
theorem dX0_strike_63 : decode cX0_strike 63 = .ok (.invokevirtual 50, 3) := by decide +kernel
theorem dX0_strike_66 : decode cX0_strike 66 = .ok (.ifCond .ne 13, 3) := by decide +kernel
theorem dX0_strike_69 : decode cX0_strike 69 = .ok (.aload_n 0, 1) := by decide +kernel
theorem dX0_strike_70 : decode cX0_strike 70 = .ok (.iload_n 2, 1) := by decide +kernel
theorem dX0_strike_71 : decode cX0_strike 71 = .ok (.iload_n 3, 1) := by decide +kernel
theorem dX0_strike_72 : decode cX0_strike 72 = .ok (.iload 4, 2) := by decide +kernel
theorem dX0_strike_74 : decode cX0_strike 74 = .ok (.invokevirtual 53, 3) := by decide +kernel
theorem dX0_strike_77 : decode cX0_strike 77 = .ok (.iconst 1, 1) := by decide +kernel
theorem dX0_strike_78 : decode cX0_strike 78 = .ok (.ireturn, 1) := by decide +kernel
theorem dX0_strike_79 : decode cX0_strike 79 = .ok (.aload_n 0, 1) := by decide +kernel
theorem dX0_strike_80 : decode cX0_strike 80 = .ok (.iload 4, 2) := by decide +kernel
theorem dX0_strike_82 : decode cX0_strike 82 = .ok (.aload_n 0, 1) := by decide +kernel
theorem dX0_strike_83 : decode cX0_strike 83 = .ok (.getfield 20, 3) := by decide +kernel
theorem dX0_strike_86 : decode cX0_strike 86 = .ok (.iload_n 1, 1) := by decide +kernel
theorem dX0_strike_87 : decode cX0_strike 87 = .ok (.invokevirtual 57, 3) := by decide +kernel
theorem dX0_strike_90 : decode cX0_strike 90 = .ok (.iconst 1, 1) := by decide +kernel
theorem dX0_strike_91 : decode cX0_strike 91 = .ok (.invokevirtual 46, 3) := by decide +kernel
theorem dX0_strike_94 : decode cX0_strike 94 = .ok (.ifCond .ne 5, 3) := by decide +kernel
theorem dX0_strike_97 : decode cX0_strike 97 = .ok (.iconst 0, 1) := by decide +kernel
theorem dX0_strike_98 : decode cX0_strike 98 = .ok (.ireturn, 1) := by decide +kernel
theorem dX0_strike_99 : decode cX0_strike 99 = .ok (.aload_n 0, 1) := by decide +kernel
theorem dX0_strike_100 : decode cX0_strike 100 = .ok (.iload_n 2, 1) := by decide +kernel
theorem dX0_strike_101 : decode cX0_strike 101 = .ok (.iload_n 3, 1) := by decide +kernel
theorem dX0_strike_102 : decode cX0_strike 102 = .ok (.iload_n 1, 1) := by decide +kernel
theorem dX0_strike_103 : decode cX0_strike 103 = .ok (.invokestatic 60, 3) := by decide +kernel
theorem dX0_strike_106 : decode cX0_strike 106 = .ok (.invokevirtual 53, 3) := by decide +kernel
theorem dX0_strike_109 : decode cX0_strike 109 = .ok (.iconst 1, 1) := by decide +kernel
theorem dX0_strike_110 : decode cX0_strike 110 = .ok (.ireturn, 1) := by decide +kernel
theorem dX0_isInTime_0 : decode cX0_isInTime 0 = .ok (.iload_n 1, 1) := by decide +kernel
theorem dX0_isInTime_1 : decode cX0_isInTime 1 = .ok (.ifCond .ne 5, 3) := by decide +kernel
theorem dX0_isInTime_4 : decode cX0_isInTime 4 = .ok (.iconst 1, 1) := by decide +kernel
theorem dX0_isInTime_5 : decode cX0_isInTime 5 = .ok (.ireturn, 1) := by decide +kernel
theorem dX0_isInTime_6 : decode cX0_isInTime 6 = .ok (.aload_n 0, 1) := by decide +kernel
theorem dX0_isInTime_7 : decode cX0_isInTime 7 = .ok (.getfield 24, 3) := by decide +kernel
theorem dX0_isInTime_10 : decode cX0_isInTime 10 = .ok (.getfield 63, 3) := by decide +kernel
theorem dX0_isInTime_13 : decode cX0_isInTime 13 = .ok (.iconst 1, 1) := by decide +kernel
theorem dX0_isInTime_14 : decode cX0_isInTime 14 = .ok (.iaload, 1) := by decide +kernel
theorem dX0_isInTime_15 : decode cX0_isInTime 15 = .ok (.iload_n 3, 1) := by decide +kernel
theorem dX0_isInTime_16 : decode cX0_isInTime 16 = .ok (.aload_n 0, 1) := by decide +kernel
theorem dX0_isInTime_17 : decode cX0_isInTime 17 = .ok (.getfield 20, 3) := by decide +kernel
theorem dX0_isInTime_20 : decode cX0_isInTime 20 = .ok (.getfield 43, 3) := by decide +kernel
theorem dX0_isInTime_23 : decode cX0_isInTime 23 = .ok (.iload_n 1, 1) := by decide +kernel
theorem dX0_isInTime_24 : decode cX0_isInTime 24 = .ok (.iaload, 1) := by decide +kernel
theorem dX0_isInTime_25 : decode cX0_isInTime 25 = .ok (.isub, 1) := by decide +kernel
theorem dX0_isInTime_26 : decode cX0_isInTime 26 = .ok (.invokestatic 68, 3) := by decide +kernel
theorem dX0_isInTime_29 : decode cX0_isInTime 29 = .ok (.imul, 1) := by decide +kernel
theorem dX0_isInTime_30 : decode cX0_isInTime 30 = .ok (.istore 4, 2) := by decide +kernel
theorem dX0_isInTime_32 : decode cX0_isInTime 32 = .ok (.iload_n 2, 1) := by decide +kernel
theorem dX0_isInTime_33 : decode cX0_isInTime 33 = .ok (.aload_n 0, 1) := by decide +kernel
theorem dX0_isInTime_34 : decode cX0_isInTime 34 = .ok (.getfield 20, 3) := by decide +kernel
theorem dX0_isInTime_37 : decode cX0_isInTime 37 = .ok (.getfield 73, 3) := by decide +kernel
theorem dX0_isInTime_40 : decode cX0_isInTime 40 = .ok (.iload_n 1, 1) := by decide +kernel
theorem dX0_isInTime_41 : decode cX0_isInTime 41 = .ok (.iaload, 1) := by decide +kernel
theorem dX0_isInTime_42 : decode cX0_isInTime 42 = .ok (.isub, 1) := by decide +kernel
theorem dX0_isInTime_43 : decode cX0_isInTime 43 = .ok (.aload_n 0, 1) := by decide +kernel
theorem dX0_isInTime_44 : decode cX0_isInTime 44 = .ok (.getfield 24, 3) := by decide +kernel
theorem dX0_isInTime_47 : decode cX0_isInTime 47 = .ok (.getfield 63, 3) := by decide +kernel
theorem dX0_isInTime_50 : decode cX0_isInTime 50 = .ok (.iconst 0, 1) := by decide +kernel
theorem dX0_isInTime_51 : decode cX0_isInTime 51 = .ok (.iaload, 1) := by decide +kernel
theorem dX0_isInTime_52 : decode cX0_isInTime 52 = .ok (.iload 4, 2) := by decide +kernel
theorem dX0_isInTime_54 : decode cX0_isInTime 54 = .ok (.invokestatic 76, 3) := by decide +kernel
theorem dX0_isInTime_57 : decode cX0_isInTime 57 = .ok (.if_icmp .lt 7, 3) := by decide +kernel
theorem dX0_isInTime_60 : decode cX0_isInTime 60 = .ok (.iconst 1, 1) := by decide +kernel
theorem dX0_isInTime_61 : decode cX0_isInTime 61 = .ok (.goto 4, 3) := by decide +kernel
theorem dX0_isInTime_64 : decode cX0_isInTime 64 = .ok (.iconst 0, 1) := by decide +kernel
theorem dX0_isInTime_65 : decode cX0_isInTime 65 = .ok (.ireturn, 1) := by decide +kernel
set_option maxRecDepth 20000 in
theorem ggX0_areCrossed_X4_noteOf : GoodIn wsX0_areCrossed wsX4_noteOf := goodIn_r _ [8] (by decide +kernel) (by decide +kernel)
set_option maxRecDepth 20000 in
theorem gX0_areCrossed_X4_noteOf : GoodIn wsX0_areCrossed (va_wsS RX0 83 yX4_noteOf wsX4_noteOf) := goodIn_app (goodIn_of _ (by decide +kernel)) ggX0_areCrossed_X4_noteOf
theorem dX0_areCrossed_0 : decode cX0_areCrossed 0 = .ok (.aload_n 0, 1) := by decide +kernel
theorem dX0_areCrossed_1 : decode cX0_areCrossed 1 = .ok (.getfield 11, 3) := by decide +kernel
theorem dX0_areCrossed_4 : decode cX0_areCrossed 4 = .ok (.ifCond .eq 47, 3) := by decide +kernel
theorem dX0_areCrossed_7 : decode cX0_areCrossed 7 = .ok (.aload_n 0, 1) := by decide +kernel
theorem dX0_areCrossed_8 : decode cX0_areCrossed 8 = .ok (.getfield 17, 3) := by decide +kernel
theorem dX0_areCrossed_11 : decode cX0_areCrossed 11 = .ok (.ifCond .eq 40, 3) := by decide +kernel
theorem dX0_areCrossed_14 : decode cX0_areCrossed 14 = .ok (.aload_n 0, 1) := by decide +kernel
theorem dX0_areCrossed_15 : decode cX0_areCrossed 15 = .ok (.getfield 20, 3) := by decide +kernel
theorem dX0_areCrossed_18 : decode cX0_areCrossed 18 = .ok (.getfield 80, 3) := by decide +kernel
theorem dX0_areCrossed_21 : decode cX0_areCrossed 21 = .ok (.aload_n 0, 1) := by decide +kernel
theorem dX0_areCrossed_22 : decode cX0_areCrossed 22 = .ok (.getfield 17, 3) := by decide +kernel
theorem dX0_areCrossed_25 : decode cX0_areCrossed 25 = .ok (.invokestatic 83, 3) := by decide +kernel
theorem dX0_areCrossed_28 : decode cX0_areCrossed 28 = .ok (.iaload, 1) := by decide +kernel
theorem dX0_areCrossed_29 : decode cX0_areCrossed 29 = .ok (.aload_n 0, 1) := by decide +kernel
theorem dX0_areCrossed_30 : decode cX0_areCrossed 30 = .ok (.getfield 20, 3) := by decide +kernel
theorem dX0_areCrossed_33 : decode cX0_areCrossed 33 = .ok (.getfield 80, 3) := by decide +kernel
theorem dX0_areCrossed_36 : decode cX0_areCrossed 36 = .ok (.aload_n 0, 1) := by decide +kernel
theorem dX0_areCrossed_37 : decode cX0_areCrossed 37 = .ok (.getfield 11, 3) := by decide +kernel
theorem dX0_areCrossed_40 : decode cX0_areCrossed 40 = .ok (.invokestatic 83, 3) := by decide +kernel
theorem dX0_areCrossed_43 : decode cX0_areCrossed 43 = .ok (.iaload, 1) := by decide +kernel
theorem dX0_areCrossed_44 : decode cX0_areCrossed 44 = .ok (.if_icmp .ge 7, 3) := by decide +kernel
theorem dX0_areCrossed_47 : decode cX0_areCrossed 47 = .ok (.iconst 1, 1) := by decide +kernel
theorem dX0_areCrossed_48 : decode cX0_areCrossed 48 = .ok (.goto 4, 3) := by decide +kernel
theorem dX0_areCrossed_51 : decode cX0_areCrossed 51 = .ok (.iconst 0, 1) := by decide +kernel
theorem dX0_areCrossed_52 : decode cX0_areCrossed 52 = .ok (.ireturn, 1) := by decide +kernel
set_option maxRecDepth 20000 in
theorem ggX0_awkwardness_X0_areCrossed : GoodIn wsX0_awkwardness wsX0_areCrossed := goodIn_r _ [10, 11, 12, 1, 13, 14, 15, 16, 17, 24, 25, 26, 27, 28, 29, 30, 31, 32, 33, 34] (by decide +kernel) (by decide +kernel)
set_option maxRecDepth 20000 in
theorem gX0_awkwardness_X0_areCrossed : GoodIn wsX0_awkwardness (wsV RX0 86 RX0 yX0_areCrossed wsX0_areCrossed) := goodIn_app (goodIn_of _ (by decide +kernel)) ggX0_awkwardness_X0_areCrossed
set_option maxRecDepth 20000 in
theorem ggX0_awkwardness_X4_graces : GoodIn wsX0_awkwardness wsX4_graces := goodIn_r _ [21, 22, 23, 28, 29, 30, 31, 32, 33, 34] (by decide +kernel) (by decide +kernel)
set_option maxRecDepth 20000 in
theorem gX0_awkwardness_X4_graces : GoodIn wsX0_awkwardness (wsV RX0 50 RX4 yX4_graces wsX4_graces) := goodIn_app (goodIn_of _ (by decide +kernel)) ggX0_awkwardness_X4_graces
theorem dX0_awkwardness_0 : decode cX0_awkwardness 0 = .ok (.aload_n 0, 1) := by decide +kernel
theorem dX0_awkwardness_1 : decode cX0_awkwardness 1 = .ok (.invokevirtual 86, 3) := by decide +kernel
theorem dX0_awkwardness_4 : decode cX0_awkwardness 4 = .ok (.ifCond .eq 7, 3) := by decide +kernel
theorem dX0_awkwardness_7 : decode cX0_awkwardness 7 = .ok (.iconst 2, 1) := by decide +kernel
theorem dX0_awkwardness_8 : decode cX0_awkwardness 8 = .ok (.goto 4, 3) := by decide +kernel
theorem dX0_awkwardness_11 : decode cX0_awkwardness 11 = .ok (.iconst 0, 1) := by decide +kernel
theorem dX0_awkwardness_12 : decode cX0_awkwardness 12 = .ok (.istore 4, 2) := by decide +kernel
theorem dX0_awkwardness_14 : decode cX0_awkwardness 14 = .ok (.aload_n 0, 1) := by decide +kernel
theorem dX0_awkwardness_15 : decode cX0_awkwardness 15 = .ok (.getfield 20, 3) := by decide +kernel
theorem dX0_awkwardness_18 : decode cX0_awkwardness 18 = .ok (.getfield 90, 3) := by decide +kernel
theorem dX0_awkwardness_21 : decode cX0_awkwardness 21 = .ok (.iload_n 1, 1) := by decide +kernel
theorem dX0_awkwardness_22 : decode cX0_awkwardness 22 = .ok (.iaload, 1) := by decide +kernel
theorem dX0_awkwardness_23 : decode cX0_awkwardness 23 = .ok (.iconst 1, 1) := by decide +kernel
theorem dX0_awkwardness_24 : decode cX0_awkwardness 24 = .ok (.if_icmp .ne 10, 3) := by decide +kernel
theorem dX0_awkwardness_27 : decode cX0_awkwardness 27 = .ok (.iload_n 2, 1) := by decide +kernel
theorem dX0_awkwardness_28 : decode cX0_awkwardness 28 = .ok (.ifCond .ne 6, 3) := by decide +kernel
theorem dX0_awkwardness_31 : decode cX0_awkwardness 31 = .ok (.iinc 4 1, 3) := by decide +kernel
theorem dX0_awkwardness_34 : decode cX0_awkwardness 34 = .ok (.iload_n 1, 1) := by decide +kernel
theorem dX0_awkwardness_35 : decode cX0_awkwardness 35 = .ok (.ifCond .eq 8, 3) := by decide +kernel
theorem dX0_awkwardness_38 : decode cX0_awkwardness 38 = .ok (.iload_n 2, 1) := by decide +kernel
theorem dX0_awkwardness_39 : decode cX0_awkwardness 39 = .ok (.iload_n 3, 1) := by decide +kernel
theorem dX0_awkwardness_40 : decode cX0_awkwardness 40 = .ok (.if_icmp .eq 6, 3) := by decide +kernel
theorem dX0_awkwardness_43 : decode cX0_awkwardness 43 = .ok (.iload 4, 2) := by decide +kernel
theorem dX0_awkwardness_45 : decode cX0_awkwardness 45 = .ok (.ireturn, 1) := by decide +kernel
theorem dX0_awkwardness_46 : decode cX0_awkwardness 46 = .ok (.iinc 4 2, 3) := by decide +kernel
theorem dX0_awkwardness_49 : decode cX0_awkwardness 49 = .ok (.aload_n 0, 1) := by decide +kernel
theorem dX0_awkwardness_50 : decode cX0_awkwardness 50 = .ok (.getfield 20, 3) := by decide +kernel
theorem dX0_awkwardness_53 : decode cX0_awkwardness 53 = .ok (.getfield 39, 3) := by decide +kernel
theorem dX0_awkwardness_56 : decode cX0_awkwardness 56 = .ok (.iload_n 1, 1) := by decide +kernel
theorem dX0_awkwardness_57 : decode cX0_awkwardness 57 = .ok (.iaload, 1) := by decide +kernel
theorem dX0_awkwardness_58 : decode cX0_awkwardness 58 = .ok (.aload_n 0, 1) := by decide +kernel
theorem dX0_awkwardness_59 : decode cX0_awkwardness 59 = .ok (.getfield 20, 3) := by decide +kernel
theorem dX0_awkwardness_62 : decode cX0_awkwardness 62 = .ok (.getfield 39, 3) := by decide +kernel
theorem dX0_awkwardness_65 : decode cX0_awkwardness 65 = .ok (.iload_n 1, 1) := by decide +kernel
theorem dX0_awkwardness_66 : decode cX0_awkwardness 66 = .ok (.iconst 1, 1) := by decide +kernel
theorem dX0_awkwardness_67 : decode cX0_awkwardness 67 = .ok (.isub, 1) := by decide +kernel
theorem dX0_awkwardness_68 : decode cX0_awkwardness 68 = .ok (.iaload, 1) := by decide +kernel
theorem dX0_awkwardness_69 : decode cX0_awkwardness 69 = .ok (.isub, 1) := by decide +kernel
theorem dX0_awkwardness_70 : decode cX0_awkwardness 70 = .ok (.aload_n 0, 1) := by decide +kernel
theorem dX0_awkwardness_71 : decode cX0_awkwardness 71 = .ok (.getfield 24, 3) := by decide +kernel
theorem dX0_awkwardness_74 : decode cX0_awkwardness 74 = .ok (.getfield 63, 3) := by decide +kernel
theorem dX0_awkwardness_77 : decode cX0_awkwardness 77 = .ok (.iconst 3, 1) := by decide +kernel
theorem dX0_awkwardness_78 : decode cX0_awkwardness 78 = .ok (.iaload, 1) := by decide +kernel
theorem dX0_awkwardness_79 : decode cX0_awkwardness 79 = .ok (.if_icmp .ge 6, 3) := by decide +kernel
theorem dX0_awkwardness_82 : decode cX0_awkwardness 82 = .ok (.iinc 4 1, 3) := by decide +kernel
theorem dX0_awkwardness_85 : decode cX0_awkwardness 85 = .ok (.aload_n 0, 1) := by decide +kernel
theorem dX0_awkwardness_86 : decode cX0_awkwardness 86 = .ok (.getfield 20, 3) := by decide +kernel
theorem dX0_awkwardness_89 : decode cX0_awkwardness 89 = .ok (.iload_n 1, 1) := by decide +kernel
theorem dX0_awkwardness_90 : decode cX0_awkwardness 90 = .ok (.invokevirtual 50, 3) := by decide +kernel
theorem dX0_awkwardness_93 : decode cX0_awkwardness 93 = .ok (.ifCond .le 19, 3) := by decide +kernel
theorem dX0_awkwardness_96 : decode cX0_awkwardness 96 = .ok (.aload_n 0, 1) := by decide +kernel
theorem dX0_awkwardness_97 : decode cX0_awkwardness 97 = .ok (.getfield 20, 3) := by decide +kernel
theorem dX0_awkwardness_100 : decode cX0_awkwardness 100 = .ok (.iload_n 1, 1) := by decide +kernel
theorem dX0_awkwardness_101 : decode cX0_awkwardness 101 = .ok (.iconst 1, 1) := by decide +kernel
theorem dX0_awkwardness_102 : decode cX0_awkwardness 102 = .ok (.isub, 1) := by decide +kernel
theorem dX0_awkwardness_103 : decode cX0_awkwardness 103 = .ok (.invokevirtual 50, 3) := by decide +kernel
theorem dX0_awkwardness_106 : decode cX0_awkwardness 106 = .ok (.ifCond .le 6, 3) := by decide +kernel
theorem dX0_awkwardness_109 : decode cX0_awkwardness 109 = .ok (.iinc 4 3, 3) := by decide +kernel
theorem dX0_awkwardness_112 : decode cX0_awkwardness 112 = .ok (.iload 4, 2) := by decide +kernel
theorem dX0_awkwardness_114 : decode cX0_awkwardness 114 = .ok (.ireturn, 1) := by decide +kernel
theorem dX1_init_0 : decode cX1_init 0 = .ok (.aload_n 0, 1) := by decide +kernel
theorem dX1_init_1 : decode cX1_init 1 = .ok (.invokespecial 3, 3) := by decide +kernel
theorem dX1_init_4 : decode cX1_init 4 = .ok (.aload_n 0, 1) := by decide +kernel
theorem dX1_init_5 : decode cX1_init 5 = .ok (.bipush 31, 2) := by decide +kernel
theorem dX1_init_7 : decode cX1_init 7 = .ok (.putfield 11, 3) := by decide +kernel
theorem dX1_init_10 : decode cX1_init 10 = .ok (.aload_n 0, 1) := by decide +kernel
theorem dX1_init_11 : decode cX1_init 11 = .ok (.iconst 5, 1) := by decide +kernel
theorem dX1_init_12 : decode cX1_init 12 = .ok (.newarray .int, 2) := by decide +kernel
theorem dX1_init_14 : decode cX1_init 14 = .ok (.putfield 15, 3) := by decide +kernel
theorem dX1_init_17 : decode cX1_init 17 = .ok (.aload_n 0, 1) := by decide +kernel
theorem dX1_init_18 : decode cX1_init 18 = .ok (.aload_n 1, 1) := by decide +kernel
theorem dX1_init_19 : decode cX1_init 19 = .ok (.putfield 19, 3) := by decide +kernel
theorem dX1_init_22 : decode cX1_init 22 = .ok (.aload_n 0, 1) := by decide +kernel
theorem dX1_init_23 : decode cX1_init 23 = .ok (.aload_n 2, 1) := by decide +kernel
theorem dX1_init_24 : decode cX1_init 24 = .ok (.putfield 23, 3) := by decide +kernel
theorem dX1_init_27 : decode cX1_init 27 = .ok (.return_, 1) := by decide +kernel
theorem dX1_isThere_0 : decode cX1_isThere 0 = .ok (.aload_n 0, 1) := by decide +kernel
theorem dX1_isThere_1 : decode cX1_isThere 1 = .ok (.getfield 11, 3) := by decide +kernel
theorem dX1_isThere_4 : decode cX1_isThere 4 = .ok (.iload_n 1, 1) := by decide +kernel
theorem dX1_isThere_5 : decode cX1_isThere 5 = .ok (.iushr, 1) := by decide +kernel
theorem dX1_isThere_6 : decode cX1_isThere 6 = .ok (.iconst 1, 1) := by decide +kernel
theorem dX1_isThere_7 : decode cX1_isThere 7 = .ok (.iand, 1) := by decide +kernel
theorem dX1_isThere_8 : decode cX1_isThere 8 = .ok (.iconst 1, 1) := by decide +kernel
theorem dX1_isThere_9 : decode cX1_isThere 9 = .ok (.if_icmp .ne 7, 3) := by decide +kernel
theorem dX1_isThere_12 : decode cX1_isThere 12 = .ok (.iconst 1, 1) := by decide +kernel
theorem dX1_isThere_13 : decode cX1_isThere 13 = .ok (.goto 4, 3) := by decide +kernel
theorem dX1_isThere_16 : decode cX1_isThere 16 = .ok (.iconst 0, 1) := by decide +kernel
theorem dX1_isThere_17 : decode cX1_isThere 17 = .ok (.ireturn, 1) := by decide +kernel
theorem dX1_change_0 : decode cX1_change 0 = .ok (.aload_n 0, 1) := by decide +kernel
theorem dX1_change_1 : decode cX1_change 1 = .ok (.iload_n 2, 1) := by decide +kernel
theorem dX1_change_2 : decode cX1_change 2 = .ok (.ifCond .eq 14, 3) := by decide +kernel
theorem dX1_change_5 : decode cX1_change 5 = .ok (.aload_n 0, 1) := by decide +kernel
theorem dX1_change_6 : decode cX1_change 6 = .ok (.getfield 11, 3) := by decide +kernel
theorem dX1_change_9 : decode cX1_change 9 = .ok (.iconst 1, 1) := by decide +kernel
theorem dX1_change_10 : decode cX1_change 10 = .ok (.iload_n 1, 1) := by decide +kernel
theorem dX1_change_11 : decode cX1_change 11 = .ok (.ishl, 1) := by decide +kernel
theorem dX1_change_12 : decode cX1_change 12 = .ok (.ior, 1) := by decide +kernel
theorem dX1_change_13 : decode cX1_change 13 = .ok (.goto 13, 3) := by decide +kernel
theorem dX1_change_16 : decode cX1_change 16 = .ok (.aload_n 0, 1) := by decide +kernel
theorem dX1_change_17 : decode cX1_change 17 = .ok (.getfield 11, 3) := by decide +kernel
theorem dX1_change_20 : decode cX1_change 20 = .ok (.iconst 1, 1) := by decide +kernel
theorem dX1_change_21 : decode cX1_change 21 = .ok (.iload_n 1, 1) := by decide +kernel
theorem dX1_change_22 : decode cX1_change 22 = .ok (.ishl, 1) := by decide +kernel
theorem dX1_change_23 : decode cX1_change 23 = .ok (.iconst (-1), 1) := by decide +kernel
theorem dX1_change_24 : decode cX1_change 24 = .ok (.ixor, 1) := by decide +kernel
theorem dX1_change_25 : decode cX1_change 25 = .ok (.iand, 1) := by decide +kernel
theorem dX1_change_26 : decode cX1_change 26 = .ok (.putfield 11, 3) := by decide +kernel
theorem dX1_change_29 : decode cX1_change 29 = .ok (.return_, 1) := by decide +kernel
set_option maxRecDepth 20000 in
theorem ggX1_owner_X1_written : GoodIn wsX1_owner wsX1_written := goodIn_r _ [4, 5] (by decide +kernel) (by decide +kernel)
set_option maxRecDepth 20000 in
theorem gX1_owner_X1_written : GoodIn wsX1_owner (va_wsS RX1 27 yX1_written wsX1_written) := goodIn_app (goodIn_of _ (by decide +kernel)) ggX1_owner_X1_written
set_option maxRecDepth 20000 in
theorem ggX1_owner_X1_isThere : GoodIn wsX1_owner wsX1_isThere := goodIn_r _ [9, 10, 11, 12, 13, 14] (by decide +kernel) (by decide +kernel)
set_option maxRecDepth 20000 in
theorem gX1_owner_X1_isThere : GoodIn wsX1_owner (wsV RX1 31 RX1 yX1_isThere wsX1_isThere) := goodIn_app (goodIn_of _ (by decide +kernel)) ggX1_owner_X1_isThere
theorem dX1_owner_0 : decode cX1_owner 0 = .ok (.iload_n 1, 1) := by decide +kernel
theorem dX1_owner_1 : decode cX1_owner 1 = .ok (.iload_n 2, 1) := by decide +kernel
theorem dX1_owner_2 : decode cX1_owner 2 = .ok (.invokestatic 27, 3) := by decide +kernel
theorem dX1_owner_5 : decode cX1_owner 5 = .ok (.istore_n 3, 1) := by decide +kernel
theorem dX1_owner_6 : decode cX1_owner 6 = .ok (.iload_n 3, 1) := by decide +kernel
theorem dX1_owner_7 : decode cX1_owner 7 = .ok (.istore 4, 2) := by decide +kernel
theorem dX1_owner_9 : decode cX1_owner 9 = .ok (.iload 4, 2) := by decide +kernel
theorem dX1_owner_11 : decode cX1_owner 11 = .ok (.ifCond .lt 21, 3) := by decide +kernel
theorem dX1_owner_14 : decode cX1_owner 14 = .ok (.aload_n 0, 1) := by decide +kernel
theorem dX1_owner_15 : decode cX1_owner 15 = .ok (.iload 4, 2) := by decide +kernel
theorem dX1_owner_17 : decode cX1_owner 17 = .ok (.invokevirtual 31, 3) := by decide +kernel
theorem dX1_owner_20 : decode cX1_owner 20 = .ok (.ifCond .eq 6, 3) := by decide +kernel
theorem dX1_owner_23 : decode cX1_owner 23 = .ok (.iload 4, 2) := by decide +kernel
theorem dX1_owner_25 : decode cX1_owner 25 = .ok (.ireturn, 1) := by decide +kernel
theorem dX1_owner_26 : decode cX1_owner 26 = .ok (.iinc 4 (-1), 3) := by decide +kernel
theorem dX1_owner_29 : decode cX1_owner 29 = .ok (.goto (-20), 3) := by decide +kernel
theorem dX1_owner_32 : decode cX1_owner 32 = .ok (.iload_n 3, 1) := by decide +kernel
theorem dX1_owner_33 : decode cX1_owner 33 = .ok (.iconst 1, 1) := by decide +kernel
theorem dX1_owner_34 : decode cX1_owner 34 = .ok (.iadd, 1) := by decide +kernel
theorem dX1_owner_35 : decode cX1_owner 35 = .ok (.istore 4, 2) := by decide +kernel
theorem dX1_owner_37 : decode cX1_owner 37 = .ok (.iload 4, 2) := by decide +kernel
theorem dX1_owner_39 : decode cX1_owner 39 = .ok (.iconst 5, 1) := by decide +kernel
theorem dX1_owner_40 : decode cX1_owner 40 = .ok (.if_icmp .ge 21, 3) := by decide +kernel
theorem dX1_owner_43 : decode cX1_owner 43 = .ok (.aload_n 0, 1) := by decide +kernel
theorem dX1_owner_44 : decode cX1_owner 44 = .ok (.iload 4, 2) := by decide +kernel
theorem dX1_owner_46 : decode cX1_owner 46 = .ok (.invokevirtual 31, 3) := by decide +kernel
theorem dX1_owner_49 : decode cX1_owner 49 = .ok (.ifCond .eq 6, 3) := by decide +kernel
theorem dX1_owner_52 : decode cX1_owner 52 = .ok (.iload 4, 2) := by decide +kernel
theorem dX1_owner_54 : decode cX1_owner 54 = .ok (.ireturn, 1) := by decide +kernel
theorem dX1_owner_55 : decode cX1_owner 55 = .ok (.iinc 4 1, 3) := by decide +kernel
theorem dX1_owner_58 : decode cX1_owner 58 = .ok (.goto (-21), 3) := by decide +kernel
theorem dX1_owner_61 : decode cX1_owner 61 = .ok (.iload_n 3, 1) := by decide +kernel
theorem dX1_owner_62 : decode cX1_owner 62 = .ok (.ireturn, 1) := by decide +kernel
theorem dX1_written_0 : decode cX1_written 0 = .ok (.iload_n 0, 1) := by decide +kernel
theorem dX1_written_1 : decode cX1_written 1 = .ok (.ifCond .ne 7, 3) := by decide +kernel
theorem dX1_written_4 : decode cX1_written 4 = .ok (.iload_n 1, 1) := by decide +kernel
theorem dX1_written_5 : decode cX1_written 5 = .ok (.iconst 5, 1) := by decide +kernel
theorem dX1_written_6 : decode cX1_written 6 = .ok (.irem, 1) := by decide +kernel
theorem dX1_written_7 : decode cX1_written 7 = .ok (.ireturn, 1) := by decide +kernel
theorem dX1_written_8 : decode cX1_written 8 = .ok (.iload_n 0, 1) := by decide +kernel
theorem dX1_written_9 : decode cX1_written 9 = .ok (.iconst 1, 1) := by decide +kernel
theorem dX1_written_10 : decode cX1_written 10 = .ok (.if_icmp .ne 9, 3) := by decide +kernel
theorem dX1_written_13 : decode cX1_written 13 = .ok (.iconst 4, 1) := by decide +kernel
theorem dX1_written_14 : decode cX1_written 14 = .ok (.iload_n 1, 1) := by decide +kernel
theorem dX1_written_15 : decode cX1_written 15 = .ok (.iconst 5, 1) := by decide +kernel
theorem dX1_written_16 : decode cX1_written 16 = .ok (.irem, 1) := by decide +kernel
theorem dX1_written_17 : decode cX1_written 17 = .ok (.isub, 1) := by decide +kernel
theorem dX1_written_18 : decode cX1_written 18 = .ok (.ireturn, 1) := by decide +kernel
theorem dX1_written_19 : decode cX1_written 19 = .ok (.getstatic 35, 3) := by decide +kernel
theorem dX1_written_22 : decode cX1_written 22 = .ok (.iload_n 1, 1) := by decide +kernel
theorem dX1_written_23 : decode cX1_written 23 = .ok (.getstatic 35, 3) := by decide +kernel
theorem dX1_written_26 : decode cX1_written 26 = .ok (.arraylength, 1) := by decide +kernel
theorem dX1_written_27 : decode cX1_written 27 = .ok (.irem, 1) := by decide +kernel
theorem dX1_written_28 : decode cX1_written 28 = .ok (.iaload, 1) := by decide +kernel
theorem dX1_written_29 : decode cX1_written 29 = .ok (.ireturn, 1) := by decide +kernel
set_option maxRecDepth 20000 in
theorem ggX1_notesOf_X1_owner : GoodIn wsX1_notesOf wsX1_owner := goodIn_r _ [5, 6, 7, 4, 8, 9, 10, 11, 12, 13, 14, 15, 16, 17, 18] (by decide +kernel) (by decide +kernel)
set_option maxRecDepth 20000 in
theorem gX1_notesOf_X1_owner : GoodIn wsX1_notesOf (wsV RX1 38 RX1 yX1_owner wsX1_owner) := goodIn_app (goodIn_of _ (by decide +kernel)) ggX1_notesOf_X1_owner
theorem dX1_notesOf_0 : decode cX1_notesOf 0 = .ok (.iconst 0, 1) := by decide +kernel
theorem dX1_notesOf_1 : decode cX1_notesOf 1 = .ok (.istore 5, 2) := by decide +kernel
theorem dX1_notesOf_3 : decode cX1_notesOf 3 = .ok (.iload_n 2, 1) := by decide +kernel
theorem dX1_notesOf_4 : decode cX1_notesOf 4 = .ok (.istore 6, 2) := by decide +kernel
theorem dX1_notesOf_6 : decode cX1_notesOf 6 = .ok (.iload 6, 2) := by decide +kernel
theorem dX1_notesOf_8 : decode cX1_notesOf 8 = .ok (.iload_n 3, 1) := by decide +kernel
theorem dX1_notesOf_9 : decode cX1_notesOf 9 = .ok (.if_icmp .gt 26, 3) := by decide +kernel
theorem dX1_notesOf_12 : decode cX1_notesOf 12 = .ok (.aload_n 0, 1) := by decide +kernel
theorem dX1_notesOf_13 : decode cX1_notesOf 13 = .ok (.iload 4, 2) := by decide +kernel
theorem dX1_notesOf_15 : decode cX1_notesOf 15 = .ok (.iload 6, 2) := by decide +kernel
theorem dX1_notesOf_17 : decode cX1_notesOf 17 = .ok (.iload_n 2, 1) := by decide +kernel
theorem dX1_notesOf_18 : decode cX1_notesOf 18 = .ok (.isub, 1) := by decide +kernel
theorem dX1_notesOf_19 : decode cX1_notesOf 19 = .ok (.invokevirtual 38, 3) := by decide +kernel
theorem dX1_notesOf_22 : decode cX1_notesOf 22 = .ok (.iload_n 1, 1) := by decide +kernel
theorem dX1_notesOf_23 : decode cX1_notesOf 23 = .ok (.if_icmp .ne 6, 3) := by decide +kernel
theorem dX1_notesOf_26 : decode cX1_notesOf 26 = .ok (.iinc 5 1, 3) := by decide +kernel
theorem dX1_notesOf_29 : decode cX1_notesOf 29 = .ok (.iinc 6 1, 3) := by decide +kernel
theorem dX1_notesOf_32 : decode cX1_notesOf 32 = .ok (.goto (-26), 3) := by decide +kernel
theorem dX1_notesOf_35 : decode cX1_notesOf 35 = .ok (.iload 5, 2) := by decide +kernel
theorem dX1_notesOf_37 : decode cX1_notesOf 37 = .ok (.ireturn, 1) := by decide +kernel
set_option maxRecDepth 20000 in
theorem ggX1_tooFast_X1_owner : GoodIn wsX1_tooFast wsX1_owner := goodIn_r _ [10, 11, 12, 9, 13, 14, 15, 16, 17, 18, 19, 20, 21, 22, 23] (by decide +kernel) (by decide +kernel)
set_option maxRecDepth 20000 in
theorem gX1_tooFast_X1_owner : GoodIn wsX1_tooFast (wsV RX1 38 RX1 yX1_owner wsX1_owner) := goodIn_app (goodIn_of _ (by decide +kernel)) ggX1_tooFast_X1_owner
theorem dX1_tooFast_0 : decode cX1_tooFast 0 = .ok (.iconst 0, 1) := by decide +kernel
theorem dX1_tooFast_1 : decode cX1_tooFast 1 = .ok (.istore 4, 2) := by decide +kernel
theorem dX1_tooFast_3 : decode cX1_tooFast 3 = .ok (.iload 4, 2) := by decide +kernel
theorem dX1_tooFast_5 : decode cX1_tooFast 5 = .ok (.iconst 5, 1) := by decide +kernel
theorem dX1_tooFast_6 : decode cX1_tooFast 6 = .ok (.if_icmp .ge 17, 3) := by decide +kernel
theorem dX1_tooFast_9 : decode cX1_tooFast 9 = .ok (.aload_n 0, 1) := by decide +kernel
theorem dX1_tooFast_10 : decode cX1_tooFast 10 = .ok (.getfield 15, 3) := by decide +kernel
theorem dX1_tooFast_13 : decode cX1_tooFast 13 = .ok (.iload 4, 2) := by decide +kernel
theorem dX1_tooFast_15 : decode cX1_tooFast 15 = .ok (.iconst (-1), 1) := by decide +kernel
theorem dX1_tooFast_16 : decode cX1_tooFast 16 = .ok (.iastore, 1) := by decide +kernel
theorem dX1_tooFast_17 : decode cX1_tooFast 17 = .ok (.iinc 4 1, 3) := by decide +kernel
theorem dX1_tooFast_20 : decode cX1_tooFast 20 = .ok (.goto (-17), 3) := by decide +kernel
theorem dX1_tooFast_23 : decode cX1_tooFast 23 = .ok (.iconst 0, 1) := by decide +kernel
theorem dX1_tooFast_24 : decode cX1_tooFast 24 = .ok (.istore 4, 2) := by decide +kernel
theorem dX1_tooFast_26 : decode cX1_tooFast 26 = .ok (.iload_n 1, 1) := by decide +kernel
theorem dX1_tooFast_27 : decode cX1_tooFast 27 = .ok (.istore 5, 2) := by decide +kernel
theorem dX1_tooFast_29 : decode cX1_tooFast 29 = .ok (.iload 5, 2) := by decide +kernel
theorem dX1_tooFast_31 : decode cX1_tooFast 31 = .ok (.iload_n 2, 1) := by decide +kernel
theorem dX1_tooFast_32 : decode cX1_tooFast 32 = .ok (.if_icmp .gt 78, 3) := by decide +kernel
theorem dX1_tooFast_35 : decode cX1_tooFast 35 = .ok (.aload_n 0, 1) := by decide +kernel
theorem dX1_tooFast_36 : decode cX1_tooFast 36 = .ok (.iload_n 3, 1) := by decide +kernel
theorem dX1_tooFast_37 : decode cX1_tooFast 37 = .ok (.iload 5, 2) := by decide +kernel
theorem dX1_tooFast_39 : decode cX1_tooFast 39 = .ok (.iload_n 1, 1) := by decide +kernel
theorem dX1_tooFast_40 : decode cX1_tooFast 40 = .ok (.isub, 1) := by decide +kernel
theorem dX1_tooFast_41 : decode cX1_tooFast 41 = .ok (.invokevirtual 38, 3) := by decide +kernel
theorem dX1_tooFast_44 : decode cX1_tooFast 44 = .ok (.istore 6, 2) := by decide +kernel
theorem dX1_tooFast_46 : decode cX1_tooFast 46 = .ok (.aload_n 0, 1) := by decide +kernel
theorem dX1_tooFast_47 : decode cX1_tooFast 47 = .ok (.getfield 19, 3) := by decide +kernel
theorem dX1_tooFast_50 : decode cX1_tooFast 50 = .ok (.getfield 41, 3) := by decide +kernel
theorem dX1_tooFast_53 : decode cX1_tooFast 53 = .ok (.iload 5, 2) := by decide +kernel
theorem dX1_tooFast_55 : decode cX1_tooFast 55 = .ok (.iaload, 1) := by decide +kernel
theorem dX1_tooFast_56 : decode cX1_tooFast 56 = .ok (.istore 7, 2) := by decide +kernel
theorem dX1_tooFast_58 : decode cX1_tooFast 58 = .ok (.aload_n 0, 1) := by decide +kernel
theorem dX1_tooFast_59 : decode cX1_tooFast 59 = .ok (.getfield 15, 3) := by decide +kernel
theorem dX1_tooFast_62 : decode cX1_tooFast 62 = .ok (.iload 6, 2) := by decide +kernel
theorem dX1_tooFast_64 : decode cX1_tooFast 64 = .ok (.iaload, 1) := by decide +kernel
theorem dX1_tooFast_65 : decode cX1_tooFast 65 = .ok (.istore 8, 2) := by decide +kernel
theorem dX1_tooFast_67 : decode cX1_tooFast 67 = .ok (.iload 8, 2) := by decide +kernel
theorem dX1_tooFast_69 : decode cX1_tooFast 69 = .ok (.iconst (-1), 1) := by decide +kernel
theorem dX1_tooFast_70 : decode cX1_tooFast 70 = .ok (.if_icmp .eq 25, 3) := by decide +kernel
theorem dX1_tooFast_73 : decode cX1_tooFast 73 = .ok (.iload 7, 2) := by decide +kernel
theorem dX1_tooFast_75 : decode cX1_tooFast 75 = .ok (.iload 8, 2) := by decide +kernel
theorem dX1_tooFast_77 : decode cX1_tooFast 77 = .ok (.isub, 1) := by decide +kernel
theorem dX1_tooFast_78 : decode cX1_tooFast 78 = .ok (.iconst 2, 1) := by decide +kernel
theorem dX1_tooFast_79 : decode cX1_tooFast 79 = .ok (.aload_n 0, 1) := by decide +kernel
theorem dX1_tooFast_80 : decode cX1_tooFast 80 = .ok (.getfield 23, 3) := by decide +kernel
theorem dX1_tooFast_83 : decode cX1_tooFast 83 = .ok (.getfield 46, 3) := by decide +kernel
theorem dX1_tooFast_86 : decode cX1_tooFast 86 = .ok (.iconst 0, 1) := by decide +kernel
theorem dX1_tooFast_87 : decode cX1_tooFast 87 = .ok (.iaload, 1) := by decide +kernel
theorem dX1_tooFast_88 : decode cX1_tooFast 88 = .ok (.imul, 1) := by decide +kernel
theorem dX1_tooFast_89 : decode cX1_tooFast 89 = .ok (.if_icmp .ge 6, 3) := by decide +kernel
theorem dX1_tooFast_92 : decode cX1_tooFast 92 = .ok (.iinc 4 1, 3) := by decide +kernel
theorem dX1_tooFast_95 : decode cX1_tooFast 95 = .ok (.aload_n 0, 1) := by decide +kernel
theorem dX1_tooFast_96 : decode cX1_tooFast 96 = .ok (.getfield 15, 3) := by decide +kernel
theorem dX1_tooFast_99 : decode cX1_tooFast 99 = .ok (.iload 6, 2) := by decide +kernel
theorem dX1_tooFast_101 : decode cX1_tooFast 101 = .ok (.iload 7, 2) := by decide +kernel
theorem dX1_tooFast_103 : decode cX1_tooFast 103 = .ok (.iastore, 1) := by decide +kernel
theorem dX1_tooFast_104 : decode cX1_tooFast 104 = .ok (.iinc 5 1, 3) := by decide +kernel
theorem dX1_tooFast_107 : decode cX1_tooFast 107 = .ok (.goto (-78), 3) := by decide +kernel
theorem dX1_tooFast_110 : decode cX1_tooFast 110 = .ok (.iload 4, 2) := by decide +kernel
theorem dX1_tooFast_112 : decode cX1_tooFast 112 = .ok (.ireturn, 1) := by decide +kernel
set_option maxRecDepth 20000 in
theorem ggX1_slowestShape_X1_tooFast : GoodIn wsX1_slowestShape wsX1_tooFast := goodIn_r _ [5, 6, 7, 8, 9, 10, 11, 12, 13, 4, 14, 15, 16, 17, 18, 19, 20, 21, 22, 23, 24, 25, 26, 27, 28, 29, 30, 31, 32, 33, 34, 35] (by decide +kernel) (by decide +kernel)
set_option maxRecDepth 20000 in
theorem gX1_slowestShape_X1_tooFast : GoodIn wsX1_slowestShape (wsV RX1 51 RX1 yX1_tooFast wsX1_tooFast) := goodIn_app (goodIn_of _ (by decide +kernel)) ggX1_slowestShape_X1_tooFast
theorem dX1_slowestShape_0 : decode cX1_slowestShape 0 = .ok (.iconst 0, 1) := by decide +kernel
theorem dX1_slowestShape_1 : decode cX1_slowestShape 1 = .ok (.istore_n 3, 1) := by decide +kernel
theorem dX1_slowestShape_2 : decode cX1_slowestShape 2 = .ok (.aload_n 0, 1) := by decide +kernel
theorem dX1_slowestShape_3 : decode cX1_slowestShape 3 = .ok (.iload_n 1, 1) := by decide +kernel
theorem dX1_slowestShape_4 : decode cX1_slowestShape 4 = .ok (.iload_n 2, 1) := by decide +kernel
theorem dX1_slowestShape_5 : decode cX1_slowestShape 5 = .ok (.iconst 0, 1) := by decide +kernel
theorem dX1_slowestShape_6 : decode cX1_slowestShape 6 = .ok (.invokevirtual 51, 3) := by decide +kernel
theorem dX1_slowestShape_9 : decode cX1_slowestShape 9 = .ok (.istore 4, 2) := by decide +kernel
theorem dX1_slowestShape_11 : decode cX1_slowestShape 11 = .ok (.iconst 1, 1) := by decide +kernel
theorem dX1_slowestShape_12 : decode cX1_slowestShape 12 = .ok (.istore 5, 2) := by decide +kernel
theorem dX1_slowestShape_14 : decode cX1_slowestShape 14 = .ok (.iload 5, 2) := by decide +kernel
theorem dX1_slowestShape_16 : decode cX1_slowestShape 16 = .ok (.iconst 3, 1) := by decide +kernel
theorem dX1_slowestShape_17 : decode cX1_slowestShape 17 = .ok (.if_icmp .ge 33, 3) := by decide +kernel
theorem dX1_slowestShape_20 : decode cX1_slowestShape 20 = .ok (.aload_n 0, 1) := by decide +kernel
theorem dX1_slowestShape_21 : decode cX1_slowestShape 21 = .ok (.iload_n 1, 1) := by decide +kernel
theorem dX1_slowestShape_22 : decode cX1_slowestShape 22 = .ok (.iload_n 2, 1) := by decide +kernel
theorem dX1_slowestShape_23 : decode cX1_slowestShape 23 = .ok (.iload 5, 2) := by decide +kernel
theorem dX1_slowestShape_25 : decode cX1_slowestShape 25 = .ok (.invokevirtual 51, 3) := by decide +kernel
theorem dX1_slowestShape_28 : decode cX1_slowestShape 28 = .ok (.istore 6, 2) := by decide +kernel
theorem dX1_slowestShape_30 : decode cX1_slowestShape 30 = .ok (.iload 6, 2) := by decide +kernel
theorem dX1_slowestShape_32 : decode cX1_slowestShape 32 = .ok (.iload 4, 2) := by decide +kernel
theorem dX1_slowestShape_34 : decode cX1_slowestShape 34 = .ok (.if_icmp .ge 10, 3) := by decide +kernel
theorem dX1_slowestShape_37 : decode cX1_slowestShape 37 = .ok (.iload 6, 2) := by decide +kernel
theorem dX1_slowestShape_39 : decode cX1_slowestShape 39 = .ok (.istore 4, 2) := by decide +kernel
theorem dX1_slowestShape_41 : decode cX1_slowestShape 41 = .ok (.iload 5, 2) := by decide +kernel
theorem dX1_slowestShape_43 : decode cX1_slowestShape 43 = .ok (.istore_n 3, 1) := by decide +kernel
theorem dX1_slowestShape_44 : decode cX1_slowestShape 44 = .ok (.iinc 5 1, 3) := by decide +kernel
theorem dX1_slowestShape_47 : decode cX1_slowestShape 47 = .ok (.goto (-33), 3) := by decide +kernel
theorem dX1_slowestShape_50 : decode cX1_slowestShape 50 = .ok (.iload_n 3, 1) := by decide +kernel
theorem dX1_slowestShape_51 : decode cX1_slowestShape 51 = .ok (.ireturn, 1) := by decide +kernel
theorem dX2_init_0 : decode cX2_init 0 = .ok (.aload_n 0, 1) := by decide +kernel
theorem dX2_init_1 : decode cX2_init 1 = .ok (.invokespecial 7, 3) := by decide +kernel
theorem dX2_init_4 : decode cX2_init 4 = .ok (.aload_n 0, 1) := by decide +kernel
theorem dX2_init_5 : decode cX2_init 5 = .ok (.sipush 410, 3) := by decide +kernel
theorem dX2_init_8 : decode cX2_init 8 = .ok (.newarray .int, 2) := by decide +kernel
theorem dX2_init_10 : decode cX2_init 10 = .ok (.putfield 13, 3) := by decide +kernel
theorem dX2_init_13 : decode cX2_init 13 = .ok (.aload_n 0, 1) := by decide +kernel
theorem dX2_init_14 : decode cX2_init 14 = .ok (.sipush 410, 3) := by decide +kernel
theorem dX2_init_17 : decode cX2_init 17 = .ok (.newarray .int, 2) := by decide +kernel
theorem dX2_init_19 : decode cX2_init 19 = .ok (.putfield 17, 3) := by decide +kernel
theorem dX2_init_22 : decode cX2_init 22 = .ok (.aload_n 0, 1) := by decide +kernel
theorem dX2_init_23 : decode cX2_init 23 = .ok (.sipush 410, 3) := by decide +kernel
theorem dX2_init_26 : decode cX2_init 26 = .ok (.newarray .int, 2) := by decide +kernel
theorem dX2_init_28 : decode cX2_init 28 = .ok (.putfield 20, 3) := by decide +kernel
theorem dX2_init_31 : decode cX2_init 31 = .ok (.aload_n 0, 1) := by decide +kernel
theorem dX2_init_32 : decode cX2_init 32 = .ok (.sipush 410, 3) := by decide +kernel
theorem dX2_init_35 : decode cX2_init 35 = .ok (.newarray .int, 2) := by decide +kernel
theorem dX2_init_37 : decode cX2_init 37 = .ok (.putfield 23, 3) := by decide +kernel
theorem dX2_init_40 : decode cX2_init 40 = .ok (.aload_n 0, 1) := by decide +kernel
theorem dX2_init_41 : decode cX2_init 41 = .ok (.iconst 0, 1) := by decide +kernel
theorem dX2_init_42 : decode cX2_init 42 = .ok (.putfield 26, 3) := by decide +kernel
theorem dX2_init_45 : decode cX2_init 45 = .ok (.return_, 1) := by decide +kernel
theorem dX2_keyOf_0 : decode cX2_keyOf 0 = .ok (.iload_n 0, 1) := by decide +kernel
theorem dX2_keyOf_1 : decode cX2_keyOf 1 = .ok (.bipush 41, 2) := by decide +kernel
theorem dX2_keyOf_3 : decode cX2_keyOf 3 = .ok (.imul, 1) := by decide +kernel
theorem dX2_keyOf_4 : decode cX2_keyOf 4 = .ok (.iload_n 1, 1) := by decide +kernel
theorem dX2_keyOf_5 : decode cX2_keyOf 5 = .ok (.iadd, 1) := by decide +kernel
theorem dX2_keyOf_6 : decode cX2_keyOf 6 = .ok (.iconst 5, 1) := by decide +kernel
theorem dX2_keyOf_7 : decode cX2_keyOf 7 = .ok (.imul, 1) := by decide +kernel
theorem dX2_keyOf_8 : decode cX2_keyOf 8 = .ok (.iload_n 2, 1) := by decide +kernel
theorem dX2_keyOf_9 : decode cX2_keyOf 9 = .ok (.iadd, 1) := by decide +kernel
theorem dX2_keyOf_10 : decode cX2_keyOf 10 = .ok (.ireturn, 1) := by decide +kernel
theorem dX2_handOf_0 : decode cX2_handOf 0 = .ok (.iload_n 0, 1) := by decide +kernel
theorem dX2_handOf_1 : decode cX2_handOf 1 = .ok (.iconst 5, 1) := by decide +kernel
theorem dX2_handOf_2 : decode cX2_handOf 2 = .ok (.idiv, 1) := by decide +kernel
theorem dX2_handOf_3 : decode cX2_handOf 3 = .ok (.bipush 41, 2) := by decide +kernel
theorem dX2_handOf_5 : decode cX2_handOf 5 = .ok (.idiv, 1) := by decide +kernel
theorem dX2_handOf_6 : decode cX2_handOf 6 = .ok (.ireturn, 1) := by decide +kernel
theorem dX2_otherStrokeOf_0 : decode cX2_otherStrokeOf 0 = .ok (.iload_n 0, 1) := by decide +kernel
theorem dX2_otherStrokeOf_1 : decode cX2_otherStrokeOf 1 = .ok (.iconst 5, 1) := by decide +kernel
theorem dX2_otherStrokeOf_2 : decode cX2_otherStrokeOf 2 = .ok (.idiv, 1) := by decide +kernel
theorem dX2_otherStrokeOf_3 : decode cX2_otherStrokeOf 3 = .ok (.bipush 41, 2) := by decide +kernel
theorem dX2_otherStrokeOf_5 : decode cX2_otherStrokeOf 5 = .ok (.irem, 1) := by decide +kernel
theorem dX2_otherStrokeOf_6 : decode cX2_otherStrokeOf 6 = .ok (.ireturn, 1) := by decide +kernel
theorem dX2_crossesOf_0 : decode cX2_crossesOf 0 = .ok (.iload_n 0, 1) := by decide +kernel
theorem dX2_crossesOf_1 : decode cX2_crossesOf 1 = .ok (.iconst 5, 1) := by decide +kernel
theorem dX2_crossesOf_2 : decode cX2_crossesOf 2 = .ok (.irem, 1) := by decide +kernel
theorem dX2_crossesOf_3 : decode cX2_crossesOf 3 = .ok (.ireturn, 1) := by decide +kernel
theorem dX2_clear_0 : decode cX2_clear 0 = .ok (.iconst 0, 1) := by decide +kernel
theorem dX2_clear_1 : decode cX2_clear 1 = .ok (.istore_n 1, 1) := by decide +kernel
theorem dX2_clear_2 : decode cX2_clear 2 = .ok (.iload_n 1, 1) := by decide +kernel
theorem dX2_clear_3 : decode cX2_clear 3 = .ok (.aload_n 0, 1) := by decide +kernel
theorem dX2_clear_4 : decode cX2_clear 4 = .ok (.getfield 26, 3) := by decide +kernel
theorem dX2_clear_7 : decode cX2_clear 7 = .ok (.if_icmp .ge 21, 3) := by decide +kernel
theorem dX2_clear_10 : decode cX2_clear 10 = .ok (.aload_n 0, 1) := by decide +kernel
theorem dX2_clear_11 : decode cX2_clear 11 = .ok (.getfield 23, 3) := by decide +kernel
theorem dX2_clear_14 : decode cX2_clear 14 = .ok (.aload_n 0, 1) := by decide +kernel
theorem dX2_clear_15 : decode cX2_clear 15 = .ok (.getfield 13, 3) := by decide +kernel
theorem dX2_clear_18 : decode cX2_clear 18 = .ok (.iload_n 1, 1) := by decide +kernel
theorem dX2_clear_19 : decode cX2_clear 19 = .ok (.iaload, 1) := by decide +kernel
theorem dX2_clear_20 : decode cX2_clear 20 = .ok (.iconst 0, 1) := by decide +kernel
theorem dX2_clear_21 : decode cX2_clear 21 = .ok (.iastore, 1) := by decide +kernel
theorem dX2_clear_22 : decode cX2_clear 22 = .ok (.iinc 1 1, 3) := by decide +kernel
theorem dX2_clear_25 : decode cX2_clear 25 = .ok (.goto (-23), 3) := by decide +kernel
theorem dX2_clear_28 : decode cX2_clear 28 = .ok (.aload_n 0, 1) := by decide +kernel
theorem dX2_clear_29 : decode cX2_clear 29 = .ok (.iconst 0, 1) := by decide +kernel
theorem dX2_clear_30 : decode cX2_clear 30 = .ok (.putfield 26, 3) := by decide +kernel
theorem dX2_clear_33 : decode cX2_clear 33 = .ok (.return_, 1) := by decide +kernel
set_option maxRecDepth 20000 in
theorem ggX2_offer_X10_isBelow : GoodIn wsX2_offer wsX10_isBelow := goodIn_r _ [12] (by decide +kernel) (by decide +kernel)
set_option maxRecDepth 20000 in
theorem gX2_offer_X10_isBelow_n30 : GoodIn wsX2_offer (wsX10_isBelow) := ggX2_offer_X10_isBelow
theorem dX2_offer_0 : decode cX2_offer 0 = .ok (.iload_n 1, 1) := by decide +kernel
theorem dX2_offer_1 : decode cX2_offer 1 = .ok (.sipush 410, 3) := by decide +kernel
theorem dX2_offer_4 : decode cX2_offer 4 = .ok (.invokestatic 30, 3) := by decide +kernel
theorem dX2_offer_7 : decode cX2_offer 7 = .ok (.ifCond .ne 4, 3) := by decide +kernel
theorem dX2_offer_10 : decode cX2_offer 10 = .ok (.return_, 1) := by decide +kernel
theorem dX2_offer_11 : decode cX2_offer 11 = .ok (.aload_n 0, 1) := by decide +kernel
theorem dX2_offer_12 : decode cX2_offer 12 = .ok (.getfield 23, 3) := by decide +kernel
theorem dX2_offer_15 : decode cX2_offer 15 = .ok (.iload_n 1, 1) := by decide +kernel
theorem dX2_offer_16 : decode cX2_offer 16 = .ok (.iaload, 1) := by decide +kernel
theorem dX2_offer_17 : decode cX2_offer 17 = .ok (.ifCond .ne 36, 3) := by decide +kernel
theorem dX2_offer_20 : decode cX2_offer 20 = .ok (.aload_n 0, 1) := by decide +kernel
theorem dX2_offer_21 : decode cX2_offer 21 = .ok (.getfield 26, 3) := by decide +kernel
theorem dX2_offer_24 : decode cX2_offer 24 = .ok (.sipush 410, 3) := by decide +kernel
theorem dX2_offer_27 : decode cX2_offer 27 = .ok (.if_icmp .ge 26, 3) := by decide +kernel
theorem dX2_offer_30 : decode cX2_offer 30 = .ok (.aload_n 0, 1) := by decide +kernel
theorem dX2_offer_31 : decode cX2_offer 31 = .ok (.getfield 13, 3) := by decide +kernel
theorem dX2_offer_34 : decode cX2_offer 34 = .ok (.aload_n 0, 1) := by decide +kernel
theorem dX2_offer_35 : decode cX2_offer 35 = .ok (.getfield 26, 3) := by decide +kernel
theorem dX2_offer_38 : decode cX2_offer 38 = .ok (.iload_n 1, 1) := by decide +kernel
theorem dX2_offer_39 : decode cX2_offer 39 = .ok (.iastore, 1) := by decide +kernel
theorem dX2_offer_40 : decode cX2_offer 40 = .ok (.aload_n 0, 1) := by decide +kernel
theorem dX2_offer_41 : decode cX2_offer 41 = .ok (.dup, 1) := by decide +kernel
theorem dX2_offer_42 : decode cX2_offer 42 = .ok (.getfield 26, 3) := by decide +kernel
theorem dX2_offer_45 : decode cX2_offer 45 = .ok (.iconst 1, 1) := by decide +kernel
theorem dX2_offer_46 : decode cX2_offer 46 = .ok (.iadd, 1) := by decide +kernel
theorem dX2_offer_47 : decode cX2_offer 47 = .ok (.putfield 26, 3) := by decide +kernel
theorem dX2_offer_50 : decode cX2_offer 50 = .ok (.goto 52, 3) := by decide +kernel
theorem dX2_offer_53 : decode cX2_offer 53 = .ok (.iload_n 2, 1) := by decide +kernel
theorem dX2_offer_54 : decode cX2_offer 54 = .ok (.aload_n 0, 1) := by decide +kernel
theorem dX2_offer_55 : decode cX2_offer 55 = .ok (.getfield 17, 3) := by decide +kernel
theorem dX2_offer_58 : decode cX2_offer 58 = .ok (.iload_n 1, 1) := by decide +kernel
theorem dX2_offer_59 : decode cX2_offer 59 = .ok (.iaload, 1) := by decide +kernel
theorem dX2_offer_60 : decode cX2_offer 60 = .ok (.if_icmp .le 4, 3) := by decide +kernel
theorem dX2_offer_63 : decode cX2_offer 63 = .ok (.return_, 1) := by decide +kernel
theorem dX2_offer_64 : decode cX2_offer 64 = .ok (.iload_n 2, 1) := by decide +kernel
theorem dX2_offer_65 : decode cX2_offer 65 = .ok (.aload_n 0, 1) := by decide +kernel
theorem dX2_offer_66 : decode cX2_offer 66 = .ok (.getfield 17, 3) := by decide +kernel
theorem dX2_offer_69 : decode cX2_offer 69 = .ok (.iload_n 1, 1) := by decide +kernel
theorem dX2_offer_70 : decode cX2_offer 70 = .ok (.iaload, 1) := by decide +kernel
theorem dX2_offer_71 : decode cX2_offer 71 = .ok (.if_icmp .ne 31, 3) := by decide +kernel
theorem dX2_offer_74 : decode cX2_offer 74 = .ok (.aload_n 0, 1) := by decide +kernel
theorem dX2_offer_75 : decode cX2_offer 75 = .ok (.getfield 20, 3) := by decide +kernel
theorem dX2_offer_78 : decode cX2_offer 78 = .ok (.iload_n 1, 1) := by decide +kernel
theorem dX2_offer_79 : decode cX2_offer 79 = .ok (.iload_n 3, 1) := by decide +kernel
theorem dX2_offer_80 : decode cX2_offer 80 = .ok (.aload_n 0, 1) := by decide +kernel
theorem dX2_offer_81 : decode cX2_offer 81 = .ok (.getfield 20, 3) := by decide +kernel
theorem dX2_offer_84 : decode cX2_offer 84 = .ok (.iload_n 1, 1) := by decide +kernel
theorem dX2_offer_85 : decode cX2_offer 85 = .ok (.iaload, 1) := by decide +kernel
theorem dX2_offer_86 : decode cX2_offer 86 = .ok (.invokestatic 34, 3) := by decide +kernel
theorem dX2_offer_89 : decode cX2_offer 89 = .ok (.iastore, 1) := by decide +kernel
theorem dX2_offer_90 : decode cX2_offer 90 = .ok (.aload_n 0, 1) := by decide +kernel
theorem dX2_offer_91 : decode cX2_offer 91 = .ok (.getfield 23, 3) := by decide +kernel
theorem dX2_offer_94 : decode cX2_offer 94 = .ok (.iload_n 1, 1) := by decide +kernel
theorem dX2_offer_95 : decode cX2_offer 95 = .ok (.dup2, 1) := by decide +kernel
theorem dX2_offer_96 : decode cX2_offer 96 = .ok (.iaload, 1) := by decide +kernel
theorem dX2_offer_97 : decode cX2_offer 97 = .ok (.iload 4, 2) := by decide +kernel
theorem dX2_offer_99 : decode cX2_offer 99 = .ok (.iadd, 1) := by decide +kernel
theorem dX2_offer_100 : decode cX2_offer 100 = .ok (.iastore, 1) := by decide +kernel
theorem dX2_offer_101 : decode cX2_offer 101 = .ok (.return_, 1) := by decide +kernel
theorem dX2_offer_102 : decode cX2_offer 102 = .ok (.aload_n 0, 1) := by decide +kernel
theorem dX2_offer_103 : decode cX2_offer 103 = .ok (.getfield 17, 3) := by decide +kernel
theorem dX2_offer_106 : decode cX2_offer 106 = .ok (.iload_n 1, 1) := by decide +kernel
theorem dX2_offer_107 : decode cX2_offer 107 = .ok (.iload_n 2, 1) := by decide +kernel
theorem dX2_offer_108 : decode cX2_offer 108 = .ok (.iastore, 1) := by decide +kernel
theorem dX2_offer_109 : decode cX2_offer 109 = .ok (.aload_n 0, 1) := by decide +kernel
theorem dX2_offer_110 : decode cX2_offer 110 = .ok (.getfield 20, 3) := by decide +kernel
theorem dX2_offer_113 : decode cX2_offer 113 = .ok (.iload_n 1, 1) := by decide +kernel
theorem dX2_offer_114 : decode cX2_offer 114 = .ok (.iload_n 3, 1) := by decide +kernel
theorem dX2_offer_115 : decode cX2_offer 115 = .ok (.iastore, 1) := by decide +kernel
theorem dX2_offer_116 : decode cX2_offer 116 = .ok (.aload_n 0, 1) := by decide +kernel
theorem dX2_offer_117 : decode cX2_offer 117 = .ok (.getfield 23, 3) := by decide +kernel
theorem dX2_offer_120 : decode cX2_offer 120 = .ok (.iload_n 1, 1) := by decide +kernel
theorem dX2_offer_121 : decode cX2_offer 121 = .ok (.iload 4, 2) := by decide +kernel
theorem dX2_offer_123 : decode cX2_offer 123 = .ok (.iastore, 1) := by decide +kernel
theorem dX2_offer_124 : decode cX2_offer 124 = .ok (.return_, 1) := by decide +kernel
set_option maxRecDepth 20000 in
theorem ggX3_init_X2_init : GoodIn wsX3_init wsX2_init := goodIn_r _ [22, 23, 2, 3, 24, 25, 26, 27, 28, 29, 49, 50, 51, 52, 53] (by decide +kernel) (by decide +kernel)
set_option maxRecDepth 20000 in
theorem gX3_init_X2_init_n29 : GoodIn wsX3_init (wsX2_init) := ggX3_init_X2_init
set_option maxRecDepth 20000 in
theorem ggX3_init_X0_init : GoodIn wsX3_init wsX0_init := goodIn_r _ [32, 33, 2, 3, 34, 35, 36, 37, 54, 55, 56, 57] (by decide +kernel) (by decide +kernel)
set_option maxRecDepth 20000 in
theorem gX3_init_X0_init : GoodIn wsX3_init (wsX0_init) := ggX3_init_X0_init
theorem dX3_init_0 : decode cX3_init 0 = .ok (.aload_n 0, 1) := by decide +kernel
theorem dX3_init_1 : decode cX3_init 1 = .ok (.invokespecial 3, 3) := by decide +kernel
theorem dX3_init_4 : decode cX3_init 4 = .ok (.aload_n 0, 1) := by decide +kernel
theorem dX3_init_5 : decode cX3_init 5 = .ok (.iconst 0, 1) := by decide +kernel
theorem dX3_init_6 : decode cX3_init 6 = .ok (.putfield 9, 3) := by decide +kernel
theorem dX3_init_9 : decode cX3_init 9 = .ok (.aload_n 0, 1) := by decide +kernel
theorem dX3_init_10 : decode cX3_init 10 = .ok (.iconst 0, 1) := by decide +kernel
theorem dX3_init_11 : decode cX3_init 11 = .ok (.putfield 15, 3) := by decide +kernel
theorem dX3_init_14 : decode cX3_init 14 = .ok (.aload_n 0, 1) := by decide +kernel
theorem dX3_init_15 : decode cX3_init 15 = .ok (.iconst 0, 1) := by decide +kernel
theorem dX3_init_16 : decode cX3_init 16 = .ok (.putfield 18, 3) := by decide +kernel
theorem dX3_init_19 : decode cX3_init 19 = .ok (.aload_n 0, 1) := by decide +kernel
theorem dX3_init_20 : decode cX3_init 20 = .ok (.iconst (-1), 1) := by decide +kernel
theorem dX3_init_21 : decode cX3_init 21 = .ok (.putfield 21, 3) := by decide +kernel
theorem dX3_init_24 : decode cX3_init 24 = .ok (.aload_n 0, 1) := by decide +kernel
theorem dX3_init_25 : decode cX3_init 25 = .ok (.iconst 0, 1) := by decide +kernel
theorem dX3_init_26 : decode cX3_init 26 = .ok (.putfield 24, 3) := by decide +kernel
theorem dX3_init_29 : decode cX3_init 29 = .ok (.aload_n 0, 1) := by decide +kernel
theorem dX3_init_30 : decode cX3_init 30 = .ok (.new 27, 3) := by decide +kernel
theorem dX3_init_33 : decode cX3_init 33 = .ok (.dup, 1) := by decide +kernel
theorem dX3_init_34 : decode cX3_init 34 = .ok (.invokespecial 29, 3) := by decide +kernel
theorem dX3_init_37 : decode cX3_init 37 = .ok (.putfield 30, 3) := by decide +kernel
theorem dX3_init_40 : decode cX3_init 40 = .ok (.aload_n 0, 1) := by decide +kernel
theorem dX3_init_41 : decode cX3_init 41 = .ok (.new 27, 3) := by decide +kernel
theorem dX3_init_44 : decode cX3_init 44 = .ok (.dup, 1) := by decide +kernel
theorem dX3_init_45 : decode cX3_init 45 = .ok (.invokespecial 29, 3) := by decide +kernel
theorem dX3_init_48 : decode cX3_init 48 = .ok (.putfield 34, 3) := by decide +kernel
theorem dX3_init_51 : decode cX3_init 51 = .ok (.aload_n 0, 1) := by decide +kernel
theorem dX3_init_52 : decode cX3_init 52 = .ok (.iconst 0, 1) := by decide +kernel
theorem dX3_init_53 : decode cX3_init 53 = .ok (.putfield 37, 3) := by decide +kernel
theorem dX3_init_56 : decode cX3_init 56 = .ok (.aload_n 0, 1) := by decide +kernel
theorem dX3_init_57 : decode cX3_init 57 = .ok (.aload_n 1, 1) := by decide +kernel
theorem dX3_init_58 : decode cX3_init 58 = .ok (.putfield 41, 3) := by decide +kernel
theorem dX3_init_61 : decode cX3_init 61 = .ok (.aload_n 0, 1) := by decide +kernel
theorem dX3_init_62 : decode cX3_init 62 = .ok (.aload_n 2, 1) := by decide +kernel
theorem dX3_init_63 : decode cX3_init 63 = .ok (.putfield 45, 3) := by decide +kernel
theorem dX3_init_66 : decode cX3_init 66 = .ok (.aload_n 0, 1) := by decide +kernel
theorem dX3_init_67 : decode cX3_init 67 = .ok (.new 49, 3) := by decide +kernel
theorem dX3_init_70 : decode cX3_init 70 = .ok (.dup, 1) := by decide +kernel
theorem dX3_init_71 : decode cX3_init 71 = .ok (.aload_n 1, 1) := by decide +kernel
theorem dX3_init_72 : decode cX3_init 72 = .ok (.aload_n 2, 1) := by decide +kernel
theorem dX3_init_73 : decode cX3_init 73 = .ok (.invokespecial 51, 3) := by decide +kernel
theorem dX3_init_76 : decode cX3_init 76 = .ok (.putfield 54, 3) := by decide +kernel
theorem dX3_init_79 : decode cX3_init 79 = .ok (.return_, 1) := by decide +kernel
theorem dX3_forget_0 : decode cX3_forget 0 = .ok (.aload_n 0, 1) := by decide +kernel
theorem dX3_forget_1 : decode cX3_forget 1 = .ok (.iconst 0, 1) := by decide +kernel
theorem dX3_forget_2 : decode cX3_forget 2 = .ok (.putfield 37, 3) := by decide +kernel
theorem dX3_forget_5 : decode cX3_forget 5 = .ok (.return_, 1) := by decide +kernel
set_option maxRecDepth 20000 in
theorem ggX3_exist_X3_solve : GoodIn wsX3_exist wsX3_solve := goodIn_r _ [7, 8, 2, 9, 10, 11, 12, 13, 14, 15, 16, 17, 18, 19, 20, 21, 22, 23, 24, 25, 26, 27, 28, 29, 30, 31, 32, 33, 34, 35, 36, 37, 38, 6, 39, 40, 41, 42, 43, 44, 45, 46, 47, 48, 49, 50, 51, 52, 53, 54, 55, 56, 57, 58, 59, 60, 61, 62, 63, 64, 65, 66, 67, 68, 69, 70, 71, 72, 73, 74, 75, 76, 77, 78, 79, 80, 81, 82, 83, 84, 85, 86, 87, 88, 89, 90, 91, 92, 93, 94, 95, 96, 97, 98, 99, 100, 101, 102, 103, 104, 105, 106, 107, 108, 109, 110, 111, 112, 113, 114, 115, 116, 117, 118, 119, 120, 121, 122, 123, 124, 125, 126, 127, 128, 129, 130, 131, 132, 133, 134, 135, 136, 137, 138, 139, 140, 141, 142, 143, 144, 145, 146, 147, 148, 149, 150, 151, 152, 153, 154, 155, 156, 157, 158, 159, 160, 161, 162] (by decide +kernel) (by decide +kernel)
set_option maxRecDepth 20000 in
theorem gX3_exist_X3_solve : GoodIn wsX3_exist (wsV RX3 58 RX3 yX3_solve wsX3_solve) := goodIn_app (goodIn_of _ (by decide +kernel)) ggX3_exist_X3_solve
theorem dX3_exist_0 : decode cX3_exist 0 = .ok (.aload_n 0, 1) := by decide +kernel
theorem dX3_exist_1 : decode cX3_exist 1 = .ok (.getfield 37, 3) := by decide +kernel
theorem dX3_exist_4 : decode cX3_exist 4 = .ok (.ifCond .ne 12, 3) := by decide +kernel
theorem dX3_exist_7 : decode cX3_exist 7 = .ok (.aload_n 0, 1) := by decide +kernel
theorem dX3_exist_8 : decode cX3_exist 8 = .ok (.invokevirtual 58, 3) := by decide +kernel
theorem dX3_exist_11 : decode cX3_exist 11 = .ok (.aload_n 0, 1) := by decide +kernel
theorem dX3_exist_12 : decode cX3_exist 12 = .ok (.iconst 1, 1) := by decide +kernel
theorem dX3_exist_13 : decode cX3_exist 13 = .ok (.putfield 37, 3) := by decide +kernel
theorem dX3_exist_16 : decode cX3_exist 16 = .ok (.aload_n 0, 1) := by decide +kernel
theorem dX3_exist_17 : decode cX3_exist 17 = .ok (.getfield 21, 3) := by decide +kernel
theorem dX3_exist_20 : decode cX3_exist 20 = .ok (.ifCond .ge 7, 3) := by decide +kernel
theorem dX3_exist_23 : decode cX3_exist 23 = .ok (.iconst 1, 1) := by decide +kernel
theorem dX3_exist_24 : decode cX3_exist 24 = .ok (.goto 4, 3) := by decide +kernel
theorem dX3_exist_27 : decode cX3_exist 27 = .ok (.iconst 0, 1) := by decide +kernel
theorem dX3_exist_28 : decode cX3_exist 28 = .ok (.ireturn, 1) := by decide +kernel
set_option maxRecDepth 20000 in
theorem ggX3_solve_X2_clear : GoodIn wsX3_solve wsX2_clear := goodIn_r _ [10, 11, 12, 13, 148, 149, 150, 151, 152] (by decide +kernel) (by decide +kernel)
set_option maxRecDepth 20000 in
theorem gX3_solve_X2_clear : GoodIn wsX3_solve (wsV RX3 61 RX2 yX2_clear wsX2_clear) := goodIn_app (goodIn_of _ (by decide +kernel)) ggX3_solve_X2_clear
set_option maxRecDepth 20000 in
theorem ggX3_solve_X2_keyOf : GoodIn wsX3_solve wsX2_keyOf := goodIn_r _ [16] (by decide +kernel) (by decide +kernel)
set_option maxRecDepth 20000 in
theorem gX3_solve_X2_keyOf : GoodIn wsX3_solve (va_wsS RX3 66 yX2_keyOf wsX2_keyOf) := goodIn_app (goodIn_of _ (by decide +kernel)) ggX3_solve_X2_keyOf
set_option maxRecDepth 20000 in
theorem ggX3_solve_X2_offer : GoodIn wsX3_solve wsX2_offer := goodIn_r _ [20, 12, 11, 13, 21, 22, 23, 24, 25, 26, 27, 28, 29, 148, 149, 150, 151, 152] (by decide +kernel) (by decide +kernel)
set_option maxRecDepth 20000 in
theorem gX3_solve_X2_offer : GoodIn wsX3_solve (wsV RX3 70 RX2 yX2_offer wsX2_offer) := goodIn_app (goodIn_of _ (by decide +kernel)) ggX3_solve_X2_offer
set_option maxRecDepth 20000 in
theorem ggX3_solve_X3_extend : GoodIn wsX3_solve wsX3_extend := goodIn_r _ [34, 35, 36, 37, 1, 5, 38, 39, 9, 40, 41, 42, 43, 44, 45, 46, 47, 48, 49, 50, 51, 52, 53, 54, 55, 56, 57, 58, 59, 60, 61, 62, 63, 64, 65, 66, 67, 68, 69, 70, 71, 72, 73, 74, 75, 76, 77, 78, 79, 25, 80, 81, 82, 83, 84, 85, 86, 87, 88, 89, 90, 91, 92, 93, 94, 95, 96, 97, 98, 99, 100, 101, 102, 103, 104, 105, 106, 107, 108, 109, 110, 111, 112, 113, 114, 115, 116, 117, 14, 15, 16, 17, 18, 19, 20, 12, 11, 13, 21, 22, 23, 24, 26, 27, 28, 29, 130, 131, 132, 133, 134, 135, 136, 137, 138, 139, 140, 153, 148, 149, 150, 151, 152, 154, 155, 156, 157, 141, 142, 143, 144, 145, 146, 147] (by decide +kernel) (by decide +kernel)
set_option maxRecDepth 20000 in
theorem gX3_solve_X3_extend : GoodIn wsX3_solve (wsV RX3 84 RX3 yX3_extend wsX3_extend) := goodIn_app (goodIn_of _ (by decide +kernel)) ggX3_solve_X3_extend
set_option maxRecDepth 20000 in
theorem ggX3_solve_X3_chooseBest : GoodIn wsX3_solve wsX3_chooseBest := goodIn_r _ [121, 122, 1, 123, 124, 24, 25, 26, 125, 126, 127, 128, 33, 129, 3, 4, 130, 131, 132, 133, 134, 135, 136, 137, 138, 139, 140, 148, 149, 150, 151, 152, 141, 142, 143, 144, 145, 146, 147] (by decide +kernel) (by decide +kernel)
set_option maxRecDepth 20000 in
theorem gX3_solve_X3_chooseBest : GoodIn wsX3_solve (wsV RX3 88 RX3 yX3_chooseBest wsX3_chooseBest) := goodIn_app (goodIn_of _ (by decide +kernel)) ggX3_solve_X3_chooseBest
theorem dX3_solve_0 : decode cX3_solve 0 = .ok (.aload_n 0, 1) := by decide +kernel
theorem dX3_solve_1 : decode cX3_solve 1 = .ok (.getfield 30, 3) := by decide +kernel
theorem dX3_solve_4 : decode cX3_solve 4 = .ok (.invokevirtual 61, 3) := by decide +kernel
theorem dX3_solve_7 : decode cX3_solve 7 = .ok (.aload_n 0, 1) := by decide +kernel
theorem dX3_solve_8 : decode cX3_solve 8 = .ok (.getfield 30, 3) := by decide +kernel
theorem dX3_solve_11 : decode cX3_solve 11 = .ok (.iconst 0, 1) := by decide +kernel
theorem dX3_solve_12 : decode cX3_solve 12 = .ok (.iconst 0, 1) := by decide +kernel
theorem dX3_solve_13 : decode cX3_solve 13 = .ok (.iconst 0, 1) := by decide +kernel
theorem dX3_solve_14 : decode cX3_solve 14 = .ok (.invokestatic 66, 3) := by decide +kernel
theorem dX3_solve_17 : decode cX3_solve 17 = .ok (.iconst 0, 1) := by decide +kernel
theorem dX3_solve_18 : decode cX3_solve 18 = .ok (.iconst 0, 1) := by decide +kernel
theorem dX3_solve_19 : decode cX3_solve 19 = .ok (.iconst 1, 1) := by decide +kernel
theorem dX3_solve_20 : decode cX3_solve 20 = .ok (.invokevirtual 70, 3) := by decide +kernel
theorem dX3_solve_23 : decode cX3_solve 23 = .ok (.aload_n 0, 1) := by decide +kernel
theorem dX3_solve_24 : decode cX3_solve 24 = .ok (.iconst (-1), 1) := by decide +kernel
theorem dX3_solve_25 : decode cX3_solve 25 = .ok (.putfield 21, 3) := by decide +kernel
theorem dX3_solve_28 : decode cX3_solve 28 = .ok (.iconst 0, 1) := by decide +kernel
theorem dX3_solve_29 : decode cX3_solve 29 = .ok (.istore_n 1, 1) := by decide +kernel
theorem dX3_solve_30 : decode cX3_solve 30 = .ok (.iload_n 1, 1) := by decide +kernel
theorem dX3_solve_31 : decode cX3_solve 31 = .ok (.aload_n 0, 1) := by decide +kernel
theorem dX3_solve_32 : decode cX3_solve 32 = .ok (.getfield 41, 3) := by decide +kernel
theorem dX3_solve_35 : decode cX3_solve 35 = .ok (.getfield 74, 3) := by decide +kernel
theorem dX3_solve_38 : decode cX3_solve 38 = .ok (.if_icmp .ge 99, 3) := by decide +kernel
theorem dX3_solve_41 : decode cX3_solve 41 = .ok (.aload_n 0, 1) := by decide +kernel
theorem dX3_solve_42 : decode cX3_solve 42 = .ok (.getfield 34, 3) := by decide +kernel
theorem dX3_solve_45 : decode cX3_solve 45 = .ok (.invokevirtual 61, 3) := by decide +kernel
theorem dX3_solve_48 : decode cX3_solve 48 = .ok (.iconst 0, 1) := by decide +kernel
theorem dX3_solve_49 : decode cX3_solve 49 = .ok (.istore_n 2, 1) := by decide +kernel
theorem dX3_solve_50 : decode cX3_solve 50 = .ok (.iload_n 2, 1) := by decide +kernel
theorem dX3_solve_51 : decode cX3_solve 51 = .ok (.aload_n 0, 1) := by decide +kernel
theorem dX3_solve_52 : decode cX3_solve 52 = .ok (.getfield 30, 3) := by decide +kernel
theorem dX3_solve_55 : decode cX3_solve 55 = .ok (.getfield 77, 3) := by decide +kernel
theorem dX3_solve_58 : decode cX3_solve 58 = .ok (.if_icmp .ge 39, 3) := by decide +kernel
theorem dX3_solve_61 : decode cX3_solve 61 = .ok (.aload_n 0, 1) := by decide +kernel
theorem dX3_solve_62 : decode cX3_solve 62 = .ok (.iload_n 1, 1) := by decide +kernel
theorem dX3_solve_63 : decode cX3_solve 63 = .ok (.aload_n 0, 1) := by decide +kernel
theorem dX3_solve_64 : decode cX3_solve 64 = .ok (.getfield 30, 3) := by decide +kernel
theorem dX3_solve_67 : decode cX3_solve 67 = .ok (.getfield 80, 3) := by decide +kernel
theorem dX3_solve_70 : decode cX3_solve 70 = .ok (.iload_n 2, 1) := by decide +kernel
theorem dX3_solve_71 : decode cX3_solve 71 = .ok (.iaload, 1) := by decide +kernel
theorem dX3_solve_72 : decode cX3_solve 72 = .ok (.iconst 0, 1) := by decide +kernel
theorem dX3_solve_73 : decode cX3_solve 73 = .ok (.invokevirtual 84, 3) := by decide +kernel
theorem dX3_solve_76 : decode cX3_solve 76 = .ok (.aload_n 0, 1) := by decide +kernel
theorem dX3_solve_77 : decode cX3_solve 77 = .ok (.iload_n 1, 1) := by decide +kernel
theorem dX3_solve_78 : decode cX3_solve 78 = .ok (.aload_n 0, 1) := by decide +kernel
theorem dX3_solve_79 : decode cX3_solve 79 = .ok (.getfield 30, 3) := by decide +kernel
theorem dX3_solve_82 : decode cX3_solve 82 = .ok (.getfield 80, 3) := by decide +kernel
theorem dX3_solve_85 : decode cX3_solve 85 = .ok (.iload_n 2, 1) := by decide +kernel
theorem dX3_solve_86 : decode cX3_solve 86 = .ok (.iaload, 1) := by decide +kernel
theorem dX3_solve_87 : decode cX3_solve 87 = .ok (.iconst 1, 1) := by decide +kernel
theorem dX3_solve_88 : decode cX3_solve 88 = .ok (.invokevirtual 84, 3) := by decide +kernel
theorem dX3_solve_91 : decode cX3_solve 91 = .ok (.iinc 2 1, 3) := by decide +kernel
theorem dX3_solve_94 : decode cX3_solve 94 = .ok (.goto (-44), 3) := by decide +kernel
theorem dX3_solve_97 : decode cX3_solve 97 = .ok (.aload_n 0, 1) := by decide +kernel
theorem dX3_solve_98 : decode cX3_solve 98 = .ok (.getfield 34, 3) := by decide +kernel
theorem dX3_solve_101 : decode cX3_solve 101 = .ok (.getfield 77, 3) := by decide +kernel
theorem dX3_solve_104 : decode cX3_solve 104 = .ok (.ifCond .ne 9, 3) := by decide +kernel
theorem dX3_solve_107 : decode cX3_solve 107 = .ok (.aload_n 0, 1) := by decide +kernel
theorem dX3_solve_108 : decode cX3_solve 108 = .ok (.iload_n 1, 1) := by decide +kernel
theorem dX3_solve_109 : decode cX3_solve 109 = .ok (.putfield 21, 3) := by decide +kernel
theorem dX3_solve_112 : decode cX3_solve 112 = .ok (.return_, 1) := by decide +kernel
theorem dX3_solve_113 : decode cX3_solve 113 = .ok (.aload_n 0, 1) := by decide +kernel
theorem dX3_solve_114 : decode cX3_solve 114 = .ok (.getfield 30, 3) := by decide +kernel
theorem dX3_solve_117 : decode cX3_solve 117 = .ok (.astore_n 2, 1) := by decide +kernel
theorem dX3_solve_118 : decode cX3_solve 118 = .ok (.aload_n 0, 1) := by decide +kernel
theorem dX3_solve_119 : decode cX3_solve 119 = .ok (.aload_n 0, 1) := by decide +kernel
theorem dX3_solve_120 : decode cX3_solve 120 = .ok (.getfield 34, 3) := by decide +kernel
theorem dX3_solve_123 : decode cX3_solve 123 = .ok (.putfield 30, 3) := by decide +kernel
theorem dX3_solve_126 : decode cX3_solve 126 = .ok (.aload_n 0, 1) := by decide +kernel
theorem dX3_solve_127 : decode cX3_solve 127 = .ok (.aload_n 2, 1) := by decide +kernel
theorem dX3_solve_128 : decode cX3_solve 128 = .ok (.putfield 34, 3) := by decide +kernel
theorem dX3_solve_131 : decode cX3_solve 131 = .ok (.iinc 1 1, 3) := by decide +kernel
theorem dX3_solve_134 : decode cX3_solve 134 = .ok (.goto (-104), 3) := by decide +kernel
theorem dX3_solve_137 : decode cX3_solve 137 = .ok (.aload_n 0, 1) := by decide +kernel
theorem dX3_solve_138 : decode cX3_solve 138 = .ok (.invokevirtual 88, 3) := by decide +kernel
theorem dX3_solve_141 : decode cX3_solve 141 = .ok (.return_, 1) := by decide +kernel
set_option maxRecDepth 20000 in
theorem ggX3_extend_X2_handOf : GoodIn wsX3_extend wsX2_handOf := goodIn_r _ [9] (by decide +kernel) (by decide +kernel)
set_option maxRecDepth 20000 in
theorem gX3_extend_X2_handOf : GoodIn wsX3_extend (va_wsS RX3 91 yX2_handOf wsX2_handOf) := goodIn_app (goodIn_of _ (by decide +kernel)) ggX3_extend_X2_handOf
set_option maxRecDepth 20000 in
theorem ggX3_extend_X4_mainOf : GoodIn wsX3_extend wsX4_mainOf := goodIn_r _ [13] (by decide +kernel) (by decide +kernel)
set_option maxRecDepth 20000 in
theorem gX3_extend_X4_mainOf : GoodIn wsX3_extend (va_wsS RX3 95 yX4_mainOf wsX4_mainOf) := goodIn_app (goodIn_of _ (by decide +kernel)) ggX3_extend_X4_mainOf
set_option maxRecDepth 20000 in
theorem ggX3_extend_X2_otherStrokeOf : GoodIn wsX3_extend wsX2_otherStrokeOf := goodIn_r _ [16] (by decide +kernel) (by decide +kernel)
set_option maxRecDepth 20000 in
theorem gX3_extend_X2_otherStrokeOf : GoodIn wsX3_extend (va_wsS RX3 98 yX2_otherStrokeOf wsX2_otherStrokeOf) := goodIn_app (goodIn_of _ (by decide +kernel)) ggX3_extend_X2_otherStrokeOf
set_option maxRecDepth 20000 in
theorem ggX3_extend_X0_hold : GoodIn wsX3_extend wsX0_hold := goodIn_r _ [21, 22, 23, 123, 124, 125, 126] (by decide +kernel) (by decide +kernel)
set_option maxRecDepth 20000 in
theorem gX3_extend_X0_hold : GoodIn wsX3_extend (wsV RX3 101 RX0 yX0_hold wsX0_hold) := goodIn_app (goodIn_of _ (by decide +kernel)) ggX3_extend_X0_hold
set_option maxRecDepth 20000 in
theorem ggX3_extend_X0_strike : GoodIn wsX3_extend wsX0_strike := goodIn_r _ [27, 28, 29, 30, 31, 11, 12, 13, 32, 33, 34, 20, 35, 22, 23, 36, 37, 38, 39, 40, 41, 42, 43, 44, 45, 46, 47, 48, 49, 50, 51, 52, 53, 54, 55, 56, 57, 58, 59, 60, 61, 18, 19, 21, 62, 63, 64, 65, 66, 67, 68, 69, 123, 124, 125, 126, 127, 128, 129, 130, 131, 132, 133, 117] (by decide +kernel) (by decide +kernel)
set_option maxRecDepth 20000 in
theorem gX3_extend_X0_strike : GoodIn wsX3_extend (wsV RX3 104 RX0 yX0_strike wsX0_strike) := goodIn_app (goodIn_of _ (by decide +kernel)) ggX3_extend_X0_strike
set_option maxRecDepth 20000 in
theorem ggX3_extend_X2_crossesOf : GoodIn wsX3_extend wsX2_crossesOf := goodIn_r _ [72] (by decide +kernel) (by decide +kernel)
set_option maxRecDepth 20000 in
theorem gX3_extend_X2_crossesOf : GoodIn wsX3_extend (va_wsS RX3 108 yX2_crossesOf wsX2_crossesOf) := goodIn_app (goodIn_of _ (by decide +kernel)) ggX3_extend_X2_crossesOf
set_option maxRecDepth 20000 in
theorem ggX3_extend_X0_areCrossed : GoodIn wsX3_extend wsX0_areCrossed := goodIn_r _ [76, 22, 23, 28, 77, 78, 79, 12, 80, 123, 124, 125, 126, 127, 128, 129, 130, 131, 132, 133] (by decide +kernel) (by decide +kernel)
set_option maxRecDepth 20000 in
theorem gX3_extend_X0_areCrossed : GoodIn wsX3_extend (wsV RX3 111 RX0 yX0_areCrossed wsX0_areCrossed) := goodIn_app (goodIn_of _ (by decide +kernel)) ggX3_extend_X0_areCrossed
set_option maxRecDepth 20000 in
theorem ggX3_extend_X0_awkwardness : GoodIn wsX3_extend wsX0_awkwardness := goodIn_r _ [84, 28, 85, 29, 45, 46, 86, 74, 75, 20, 76, 22, 23, 77, 78, 79, 12, 80, 55, 56, 57, 58, 59, 60, 123, 124, 125, 126, 127, 128, 129, 130, 131, 132, 133, 117] (by decide +kernel) (by decide +kernel)
set_option maxRecDepth 20000 in
theorem gX3_extend_X0_awkwardness : GoodIn wsX3_extend (wsV RX3 123 RX0 yX0_awkwardness wsX0_awkwardness) := goodIn_app (goodIn_of _ (by decide +kernel)) ggX3_extend_X0_awkwardness
set_option maxRecDepth 20000 in
theorem ggX3_extend_X0_strokeOf : GoodIn wsX3_extend wsX0_strokeOf := goodIn_r _ [35, 22, 23, 123, 124, 125, 126] (by decide +kernel) (by decide +kernel)
set_option maxRecDepth 20000 in
theorem gX3_extend_X0_strokeOf : GoodIn wsX3_extend (wsV RX3 126 RX0 yX0_strokeOf wsX0_strokeOf) := goodIn_app (goodIn_of _ (by decide +kernel)) ggX3_extend_X0_strokeOf
set_option maxRecDepth 20000 in
theorem ggX3_extend_X2_keyOf : GoodIn wsX3_extend wsX2_keyOf := goodIn_r _ [90] (by decide +kernel) (by decide +kernel)
set_option maxRecDepth 20000 in
theorem gX3_extend_X2_keyOf : GoodIn wsX3_extend (va_wsS RX3 66 yX2_keyOf wsX2_keyOf) := goodIn_app (goodIn_of _ (by decide +kernel)) ggX3_extend_X2_keyOf
set_option maxRecDepth 20000 in
theorem ggX3_extend_X2_offer : GoodIn wsX3_extend wsX2_offer := goodIn_r _ [94, 95, 96, 97, 98, 99, 100, 101, 49, 102, 103, 104, 105, 118, 119, 120, 121, 122] (by decide +kernel) (by decide +kernel)
set_option maxRecDepth 20000 in
theorem gX3_extend_X2_offer : GoodIn wsX3_extend (wsV RX3 70 RX2 yX2_offer wsX2_offer) := goodIn_app (goodIn_of _ (by decide +kernel)) ggX3_extend_X2_offer
theorem dX3_extend_0 : decode cX3_extend 0 = .ok (.iload_n 2, 1) := by decide +kernel
theorem dX3_extend_1 : decode cX3_extend 1 = .ok (.invokestatic 91, 3) := by decide +kernel
theorem dX3_extend_4 : decode cX3_extend 4 = .ok (.istore 4, 2) := by decide +kernel
theorem dX3_extend_6 : decode cX3_extend 6 = .ok (.iload_n 1, 1) := by decide +kernel
theorem dX3_extend_7 : decode cX3_extend 7 = .ok (.ifCond .ne 7, 3) := by decide +kernel
theorem dX3_extend_10 : decode cX3_extend 10 = .ok (.iconst 0, 1) := by decide +kernel
theorem dX3_extend_11 : decode cX3_extend 11 = .ok (.goto 9, 3) := by decide +kernel
theorem dX3_extend_14 : decode cX3_extend 14 = .ok (.iload_n 1, 1) := by decide +kernel
theorem dX3_extend_15 : decode cX3_extend 15 = .ok (.iconst 1, 1) := by decide +kernel
theorem dX3_extend_16 : decode cX3_extend 16 = .ok (.isub, 1) := by decide +kernel
theorem dX3_extend_17 : decode cX3_extend 17 = .ok (.invokestatic 95, 3) := by decide +kernel
theorem dX3_extend_20 : decode cX3_extend 20 = .ok (.istore 5, 2) := by decide +kernel
theorem dX3_extend_22 : decode cX3_extend 22 = .ok (.aload_n 0, 1) := by decide +kernel
theorem dX3_extend_23 : decode cX3_extend 23 = .ok (.getfield 54, 3) := by decide +kernel
theorem dX3_extend_26 : decode cX3_extend 26 = .ok (.iload 4, 2) := by decide +kernel
theorem dX3_extend_28 : decode cX3_extend 28 = .ok (.iload 5, 2) := by decide +kernel
theorem dX3_extend_30 : decode cX3_extend 30 = .ok (.iload_n 2, 1) := by decide +kernel
theorem dX3_extend_31 : decode cX3_extend 31 = .ok (.invokestatic 98, 3) := by decide +kernel
theorem dX3_extend_34 : decode cX3_extend 34 = .ok (.invokevirtual 101, 3) := by decide +kernel
theorem dX3_extend_37 : decode cX3_extend 37 = .ok (.aload_n 0, 1) := by decide +kernel
theorem dX3_extend_38 : decode cX3_extend 38 = .ok (.getfield 54, 3) := by decide +kernel
theorem dX3_extend_41 : decode cX3_extend 41 = .ok (.iload_n 1, 1) := by decide +kernel
theorem dX3_extend_42 : decode cX3_extend 42 = .ok (.iload_n 3, 1) := by decide +kernel
theorem dX3_extend_43 : decode cX3_extend 43 = .ok (.invokevirtual 104, 3) := by decide +kernel
theorem dX3_extend_46 : decode cX3_extend 46 = .ok (.ifCond .ne 4, 3) := by decide +kernel
theorem dX3_extend_49 : decode cX3_extend 49 = .ok (.return_, 1) := by decide +kernel
theorem dX3_extend_50 : decode cX3_extend 50 = .ok (.iload_n 2, 1) := by decide +kernel
theorem dX3_extend_51 : decode cX3_extend 51 = .ok (.invokestatic 108, 3) := by decide +kernel
theorem dX3_extend_54 : decode cX3_extend 54 = .ok (.aload_n 0, 1) := by decide +kernel
theorem dX3_extend_55 : decode cX3_extend 55 = .ok (.getfield 54, 3) := by decide +kernel
theorem dX3_extend_58 : decode cX3_extend 58 = .ok (.invokevirtual 111, 3) := by decide +kernel
theorem dX3_extend_61 : decode cX3_extend 61 = .ok (.ifCond .eq 7, 3) := by decide +kernel
theorem dX3_extend_64 : decode cX3_extend 64 = .ok (.iconst 1, 1) := by decide +kernel
theorem dX3_extend_65 : decode cX3_extend 65 = .ok (.goto 4, 3) := by decide +kernel
theorem dX3_extend_68 : decode cX3_extend 68 = .ok (.iconst 0, 1) := by decide +kernel
theorem dX3_extend_69 : decode cX3_extend 69 = .ok (.iadd, 1) := by decide +kernel
theorem dX3_extend_70 : decode cX3_extend 70 = .ok (.istore 6, 2) := by decide +kernel
theorem dX3_extend_72 : decode cX3_extend 72 = .ok (.iload 6, 2) := by decide +kernel
theorem dX3_extend_74 : decode cX3_extend 74 = .ok (.aload_n 0, 1) := by decide +kernel
theorem dX3_extend_75 : decode cX3_extend 75 = .ok (.getfield 45, 3) := by decide +kernel
theorem dX3_extend_78 : decode cX3_extend 78 = .ok (.getfield 115, 3) := by decide +kernel
theorem dX3_extend_81 : decode cX3_extend 81 = .ok (.iconst 2, 1) := by decide +kernel
theorem dX3_extend_82 : decode cX3_extend 82 = .ok (.iaload, 1) := by decide +kernel
theorem dX3_extend_83 : decode cX3_extend 83 = .ok (.if_icmp .le 4, 3) := by decide +kernel
theorem dX3_extend_86 : decode cX3_extend 86 = .ok (.return_, 1) := by decide +kernel
theorem dX3_extend_87 : decode cX3_extend 87 = .ok (.aload_n 0, 1) := by decide +kernel
theorem dX3_extend_88 : decode cX3_extend 88 = .ok (.getfield 30, 3) := by decide +kernel
theorem dX3_extend_91 : decode cX3_extend 91 = .ok (.getfield 120, 3) := by decide +kernel
theorem dX3_extend_94 : decode cX3_extend 94 = .ok (.iload_n 2, 1) := by decide +kernel
theorem dX3_extend_95 : decode cX3_extend 95 = .ok (.iaload, 1) := by decide +kernel
theorem dX3_extend_96 : decode cX3_extend 96 = .ok (.aload_n 0, 1) := by decide +kernel
theorem dX3_extend_97 : decode cX3_extend 97 = .ok (.getfield 54, 3) := by decide +kernel
theorem dX3_extend_100 : decode cX3_extend 100 = .ok (.iload_n 1, 1) := by decide +kernel
theorem dX3_extend_101 : decode cX3_extend 101 = .ok (.iload_n 3, 1) := by decide +kernel
theorem dX3_extend_102 : decode cX3_extend 102 = .ok (.iload 4, 2) := by decide +kernel
theorem dX3_extend_104 : decode cX3_extend 104 = .ok (.invokevirtual 123, 3) := by decide +kernel
theorem dX3_extend_107 : decode cX3_extend 107 = .ok (.iadd, 1) := by decide +kernel
theorem dX3_extend_108 : decode cX3_extend 108 = .ok (.istore 7, 2) := by decide +kernel
theorem dX3_extend_110 : decode cX3_extend 110 = .ok (.iload_n 3, 1) := by decide +kernel
theorem dX3_extend_111 : decode cX3_extend 111 = .ok (.aload_n 0, 1) := by decide +kernel
theorem dX3_extend_112 : decode cX3_extend 112 = .ok (.getfield 54, 3) := by decide +kernel
theorem dX3_extend_115 : decode cX3_extend 115 = .ok (.iconst 1, 1) := by decide +kernel
theorem dX3_extend_116 : decode cX3_extend 116 = .ok (.iload_n 3, 1) := by decide +kernel
theorem dX3_extend_117 : decode cX3_extend 117 = .ok (.isub, 1) := by decide +kernel
theorem dX3_extend_118 : decode cX3_extend 118 = .ok (.invokevirtual 126, 3) := by decide +kernel
theorem dX3_extend_121 : decode cX3_extend 121 = .ok (.iload 6, 2) := by decide +kernel
theorem dX3_extend_123 : decode cX3_extend 123 = .ok (.invokestatic 66, 3) := by decide +kernel
theorem dX3_extend_126 : decode cX3_extend 126 = .ok (.istore 8, 2) := by decide +kernel
theorem dX3_extend_128 : decode cX3_extend 128 = .ok (.aload_n 0, 1) := by decide +kernel
theorem dX3_extend_129 : decode cX3_extend 129 = .ok (.getfield 34, 3) := by decide +kernel
theorem dX3_extend_132 : decode cX3_extend 132 = .ok (.iload 8, 2) := by decide +kernel
theorem dX3_extend_134 : decode cX3_extend 134 = .ok (.iload 7, 2) := by decide +kernel
theorem dX3_extend_136 : decode cX3_extend 136 = .ok (.aload_n 0, 1) := by decide +kernel
theorem dX3_extend_137 : decode cX3_extend 137 = .ok (.getfield 30, 3) := by decide +kernel
theorem dX3_extend_140 : decode cX3_extend 140 = .ok (.getfield 129, 3) := by decide +kernel
theorem dX3_extend_143 : decode cX3_extend 143 = .ok (.iload_n 2, 1) := by decide +kernel
theorem dX3_extend_144 : decode cX3_extend 144 = .ok (.iaload, 1) := by decide +kernel
theorem dX3_extend_145 : decode cX3_extend 145 = .ok (.iconst 2, 1) := by decide +kernel
theorem dX3_extend_146 : decode cX3_extend 146 = .ok (.imul, 1) := by decide +kernel
theorem dX3_extend_147 : decode cX3_extend 147 = .ok (.iload_n 3, 1) := by decide +kernel
theorem dX3_extend_148 : decode cX3_extend 148 = .ok (.iadd, 1) := by decide +kernel
theorem dX3_extend_149 : decode cX3_extend 149 = .ok (.aload_n 0, 1) := by decide +kernel
theorem dX3_extend_150 : decode cX3_extend 150 = .ok (.getfield 30, 3) := by decide +kernel
theorem dX3_extend_153 : decode cX3_extend 153 = .ok (.getfield 132, 3) := by decide +kernel
theorem dX3_extend_156 : decode cX3_extend 156 = .ok (.iload_n 2, 1) := by decide +kernel
theorem dX3_extend_157 : decode cX3_extend 157 = .ok (.iaload, 1) := by decide +kernel
theorem dX3_extend_158 : decode cX3_extend 158 = .ok (.invokevirtual 70, 3) := by decide +kernel
theorem dX3_extend_161 : decode cX3_extend 161 = .ok (.return_, 1) := by decide +kernel
set_option maxRecDepth 20000 in
theorem ggX3_chooseBest_X3_withNoteZeroLowest : GoodIn wsX3_chooseBest wsX3_withNoteZeroLowest := goodIn_r _ [13, 14, 15, 16, 17, 18, 19, 20, 21, 22, 23, 24, 25, 26, 32, 33, 34, 35, 36, 37, 38] (by decide +kernel) (by decide +kernel)
set_option maxRecDepth 20000 in
theorem gX3_chooseBest_X3_withNoteZeroLowest : GoodIn wsX3_chooseBest (wsV RX3 141 RX3 yX3_withNoteZeroLowest wsX3_withNoteZeroLowest) := goodIn_app (goodIn_of _ (by decide +kernel)) ggX3_chooseBest_X3_withNoteZeroLowest
theorem dX3_chooseBest_0 : decode cX3_chooseBest 0 = .ok (.iconst 0, 1) := by decide +kernel
theorem dX3_chooseBest_1 : decode cX3_chooseBest 1 = .ok (.istore_n 1, 1) := by decide +kernel
theorem dX3_chooseBest_2 : decode cX3_chooseBest 2 = .ok (.aload_n 0, 1) := by decide +kernel
theorem dX3_chooseBest_3 : decode cX3_chooseBest 3 = .ok (.iconst 0, 1) := by decide +kernel
theorem dX3_chooseBest_4 : decode cX3_chooseBest 4 = .ok (.putfield 18, 3) := by decide +kernel
theorem dX3_chooseBest_7 : decode cX3_chooseBest 7 = .ok (.iconst 0, 1) := by decide +kernel
theorem dX3_chooseBest_8 : decode cX3_chooseBest 8 = .ok (.istore_n 2, 1) := by decide +kernel
theorem dX3_chooseBest_9 : decode cX3_chooseBest 9 = .ok (.iload_n 2, 1) := by decide +kernel
theorem dX3_chooseBest_10 : decode cX3_chooseBest 10 = .ok (.aload_n 0, 1) := by decide +kernel
theorem dX3_chooseBest_11 : decode cX3_chooseBest 11 = .ok (.getfield 30, 3) := by decide +kernel
theorem dX3_chooseBest_14 : decode cX3_chooseBest 14 = .ok (.getfield 77, 3) := by decide +kernel
theorem dX3_chooseBest_17 : decode cX3_chooseBest 17 = .ok (.if_icmp .ge 119, 3) := by decide +kernel
theorem dX3_chooseBest_20 : decode cX3_chooseBest 20 = .ok (.aload_n 0, 1) := by decide +kernel
theorem dX3_chooseBest_21 : decode cX3_chooseBest 21 = .ok (.getfield 30, 3) := by decide +kernel
theorem dX3_chooseBest_24 : decode cX3_chooseBest 24 = .ok (.getfield 80, 3) := by decide +kernel
theorem dX3_chooseBest_27 : decode cX3_chooseBest 27 = .ok (.iload_n 2, 1) := by decide +kernel
theorem dX3_chooseBest_28 : decode cX3_chooseBest 28 = .ok (.iaload, 1) := by decide +kernel
theorem dX3_chooseBest_29 : decode cX3_chooseBest 29 = .ok (.istore_n 3, 1) := by decide +kernel
theorem dX3_chooseBest_30 : decode cX3_chooseBest 30 = .ok (.aload_n 0, 1) := by decide +kernel
theorem dX3_chooseBest_31 : decode cX3_chooseBest 31 = .ok (.getfield 30, 3) := by decide +kernel
theorem dX3_chooseBest_34 : decode cX3_chooseBest 34 = .ok (.getfield 120, 3) := by decide +kernel
theorem dX3_chooseBest_37 : decode cX3_chooseBest 37 = .ok (.iload_n 3, 1) := by decide +kernel
theorem dX3_chooseBest_38 : decode cX3_chooseBest 38 = .ok (.iaload, 1) := by decide +kernel
theorem dX3_chooseBest_39 : decode cX3_chooseBest 39 = .ok (.istore 4, 2) := by decide +kernel
theorem dX3_chooseBest_41 : decode cX3_chooseBest 41 = .ok (.aload_n 0, 1) := by decide +kernel
theorem dX3_chooseBest_42 : decode cX3_chooseBest 42 = .ok (.getfield 18, 3) := by decide +kernel
theorem dX3_chooseBest_45 : decode cX3_chooseBest 45 = .ok (.ifCond .eq 12, 3) := by decide +kernel
theorem dX3_chooseBest_48 : decode cX3_chooseBest 48 = .ok (.iload 4, 2) := by decide +kernel
theorem dX3_chooseBest_50 : decode cX3_chooseBest 50 = .ok (.aload_n 0, 1) := by decide +kernel
theorem dX3_chooseBest_51 : decode cX3_chooseBest 51 = .ok (.getfield 9, 3) := by decide +kernel
theorem dX3_chooseBest_54 : decode cX3_chooseBest 54 = .ok (.if_icmp .ge 35, 3) := by decide +kernel
theorem dX3_chooseBest_57 : decode cX3_chooseBest 57 = .ok (.aload_n 0, 1) := by decide +kernel
theorem dX3_chooseBest_58 : decode cX3_chooseBest 58 = .ok (.iload 4, 2) := by decide +kernel
theorem dX3_chooseBest_60 : decode cX3_chooseBest 60 = .ok (.putfield 9, 3) := by decide +kernel
theorem dX3_chooseBest_63 : decode cX3_chooseBest 63 = .ok (.aload_n 0, 1) := by decide +kernel
theorem dX3_chooseBest_64 : decode cX3_chooseBest 64 = .ok (.getfield 30, 3) := by decide +kernel
theorem dX3_chooseBest_67 : decode cX3_chooseBest 67 = .ok (.getfield 129, 3) := by decide +kernel
theorem dX3_chooseBest_70 : decode cX3_chooseBest 70 = .ok (.iload_n 3, 1) := by decide +kernel
theorem dX3_chooseBest_71 : decode cX3_chooseBest 71 = .ok (.iaload, 1) := by decide +kernel
theorem dX3_chooseBest_72 : decode cX3_chooseBest 72 = .ok (.istore_n 1, 1) := by decide +kernel
theorem dX3_chooseBest_73 : decode cX3_chooseBest 73 = .ok (.aload_n 0, 1) := by decide +kernel
theorem dX3_chooseBest_74 : decode cX3_chooseBest 74 = .ok (.aload_n 0, 1) := by decide +kernel
theorem dX3_chooseBest_75 : decode cX3_chooseBest 75 = .ok (.getfield 30, 3) := by decide +kernel
theorem dX3_chooseBest_78 : decode cX3_chooseBest 78 = .ok (.getfield 132, 3) := by decide +kernel
theorem dX3_chooseBest_81 : decode cX3_chooseBest 81 = .ok (.iload_n 3, 1) := by decide +kernel
theorem dX3_chooseBest_82 : decode cX3_chooseBest 82 = .ok (.iaload, 1) := by decide +kernel
theorem dX3_chooseBest_83 : decode cX3_chooseBest 83 = .ok (.putfield 18, 3) := by decide +kernel
theorem dX3_chooseBest_86 : decode cX3_chooseBest 86 = .ok (.goto 44, 3) := by decide +kernel
theorem dX3_chooseBest_89 : decode cX3_chooseBest 89 = .ok (.iload 4, 2) := by decide +kernel
theorem dX3_chooseBest_91 : decode cX3_chooseBest 91 = .ok (.aload_n 0, 1) := by decide +kernel
theorem dX3_chooseBest_92 : decode cX3_chooseBest 92 = .ok (.getfield 9, 3) := by decide +kernel
theorem dX3_chooseBest_95 : decode cX3_chooseBest 95 = .ok (.if_icmp .ne 35, 3) := by decide +kernel
theorem dX3_chooseBest_98 : decode cX3_chooseBest 98 = .ok (.iload_n 1, 1) := by decide +kernel
theorem dX3_chooseBest_99 : decode cX3_chooseBest 99 = .ok (.aload_n 0, 1) := by decide +kernel
theorem dX3_chooseBest_100 : decode cX3_chooseBest 100 = .ok (.getfield 30, 3) := by decide +kernel
theorem dX3_chooseBest_103 : decode cX3_chooseBest 103 = .ok (.getfield 129, 3) := by decide +kernel
theorem dX3_chooseBest_106 : decode cX3_chooseBest 106 = .ok (.iload_n 3, 1) := by decide +kernel
theorem dX3_chooseBest_107 : decode cX3_chooseBest 107 = .ok (.iaload, 1) := by decide +kernel
theorem dX3_chooseBest_108 : decode cX3_chooseBest 108 = .ok (.invokestatic 135, 3) := by decide +kernel
theorem dX3_chooseBest_111 : decode cX3_chooseBest 111 = .ok (.istore_n 1, 1) := by decide +kernel
theorem dX3_chooseBest_112 : decode cX3_chooseBest 112 = .ok (.aload_n 0, 1) := by decide +kernel
theorem dX3_chooseBest_113 : decode cX3_chooseBest 113 = .ok (.dup, 1) := by decide +kernel
theorem dX3_chooseBest_114 : decode cX3_chooseBest 114 = .ok (.getfield 18, 3) := by decide +kernel
theorem dX3_chooseBest_117 : decode cX3_chooseBest 117 = .ok (.aload_n 0, 1) := by decide +kernel
theorem dX3_chooseBest_118 : decode cX3_chooseBest 118 = .ok (.getfield 30, 3) := by decide +kernel
theorem dX3_chooseBest_121 : decode cX3_chooseBest 121 = .ok (.getfield 132, 3) := by decide +kernel
theorem dX3_chooseBest_124 : decode cX3_chooseBest 124 = .ok (.iload_n 3, 1) := by decide +kernel
theorem dX3_chooseBest_125 : decode cX3_chooseBest 125 = .ok (.iaload, 1) := by decide +kernel
theorem dX3_chooseBest_126 : decode cX3_chooseBest 126 = .ok (.iadd, 1) := by decide +kernel
theorem dX3_chooseBest_127 : decode cX3_chooseBest 127 = .ok (.putfield 18, 3) := by decide +kernel
theorem dX3_chooseBest_130 : decode cX3_chooseBest 130 = .ok (.iinc 2 1, 3) := by decide +kernel
theorem dX3_chooseBest_133 : decode cX3_chooseBest 133 = .ok (.goto (-124), 3) := by decide +kernel
theorem dX3_chooseBest_136 : decode cX3_chooseBest 136 = .ok (.aload_n 0, 1) := by decide +kernel
theorem dX3_chooseBest_137 : decode cX3_chooseBest 137 = .ok (.aload_n 0, 1) := by decide +kernel
theorem dX3_chooseBest_138 : decode cX3_chooseBest 138 = .ok (.iload_n 1, 1) := by decide +kernel
theorem dX3_chooseBest_139 : decode cX3_chooseBest 139 = .ok (.invokevirtual 141, 3) := by decide +kernel
theorem dX3_chooseBest_142 : decode cX3_chooseBest 142 = .ok (.putfield 15, 3) := by decide +kernel
theorem dX3_chooseBest_145 : decode cX3_chooseBest 145 = .ok (.return_, 1) := by decide +kernel
theorem dX3_withNoteZeroLowest_0 : decode cX3_withNoteZeroLowest 0 = .ok (.iconst 0, 1) := by decide +kernel
theorem dX3_withNoteZeroLowest_1 : decode cX3_withNoteZeroLowest 1 = .ok (.istore_n 2, 1) := by decide +kernel
theorem dX3_withNoteZeroLowest_2 : decode cX3_withNoteZeroLowest 2 = .ok (.iconst 0, 1) := by decide +kernel
theorem dX3_withNoteZeroLowest_3 : decode cX3_withNoteZeroLowest 3 = .ok (.istore_n 3, 1) := by decide +kernel
theorem dX3_withNoteZeroLowest_4 : decode cX3_withNoteZeroLowest 4 = .ok (.iload_n 3, 1) := by decide +kernel
theorem dX3_withNoteZeroLowest_5 : decode cX3_withNoteZeroLowest 5 = .ok (.aload_n 0, 1) := by decide +kernel
theorem dX3_withNoteZeroLowest_6 : decode cX3_withNoteZeroLowest 6 = .ok (.getfield 41, 3) := by decide +kernel
theorem dX3_withNoteZeroLowest_9 : decode cX3_withNoteZeroLowest 9 = .ok (.getfield 74, 3) := by decide +kernel
theorem dX3_withNoteZeroLowest_12 : decode cX3_withNoteZeroLowest 12 = .ok (.if_icmp .ge 29, 3) := by decide +kernel
theorem dX3_withNoteZeroLowest_15 : decode cX3_withNoteZeroLowest 15 = .ok (.iload_n 2, 1) := by decide +kernel
theorem dX3_withNoteZeroLowest_16 : decode cX3_withNoteZeroLowest 16 = .ok (.iload_n 1, 1) := by decide +kernel
theorem dX3_withNoteZeroLowest_17 : decode cX3_withNoteZeroLowest 17 = .ok (.aload_n 0, 1) := by decide +kernel
theorem dX3_withNoteZeroLowest_18 : decode cX3_withNoteZeroLowest 18 = .ok (.getfield 41, 3) := by decide +kernel
theorem dX3_withNoteZeroLowest_21 : decode cX3_withNoteZeroLowest 21 = .ok (.getfield 74, 3) := by decide +kernel
theorem dX3_withNoteZeroLowest_24 : decode cX3_withNoteZeroLowest 24 = .ok (.iconst 1, 1) := by decide +kernel
theorem dX3_withNoteZeroLowest_25 : decode cX3_withNoteZeroLowest 25 = .ok (.isub, 1) := by decide +kernel
theorem dX3_withNoteZeroLowest_26 : decode cX3_withNoteZeroLowest 26 = .ok (.iload_n 3, 1) := by decide +kernel
theorem dX3_withNoteZeroLowest_27 : decode cX3_withNoteZeroLowest 27 = .ok (.isub, 1) := by decide +kernel
theorem dX3_withNoteZeroLowest_28 : decode cX3_withNoteZeroLowest 28 = .ok (.iushr, 1) := by decide +kernel
theorem dX3_withNoteZeroLowest_29 : decode cX3_withNoteZeroLowest 29 = .ok (.iconst 1, 1) := by decide +kernel
theorem dX3_withNoteZeroLowest_30 : decode cX3_withNoteZeroLowest 30 = .ok (.iand, 1) := by decide +kernel
theorem dX3_withNoteZeroLowest_31 : decode cX3_withNoteZeroLowest 31 = .ok (.iload_n 3, 1) := by decide +kernel
theorem dX3_withNoteZeroLowest_32 : decode cX3_withNoteZeroLowest 32 = .ok (.ishl, 1) := by decide +kernel
theorem dX3_withNoteZeroLowest_33 : decode cX3_withNoteZeroLowest 33 = .ok (.ior, 1) := by decide +kernel
theorem dX3_withNoteZeroLowest_34 : decode cX3_withNoteZeroLowest 34 = .ok (.istore_n 2, 1) := by decide +kernel
theorem dX3_withNoteZeroLowest_35 : decode cX3_withNoteZeroLowest 35 = .ok (.iinc 3 1, 3) := by decide +kernel
theorem dX3_withNoteZeroLowest_38 : decode cX3_withNoteZeroLowest 38 = .ok (.goto (-34), 3) := by decide +kernel
theorem dX3_withNoteZeroLowest_41 : decode cX3_withNoteZeroLowest 41 = .ok (.iload_n 2, 1) := by decide +kernel
theorem dX3_withNoteZeroLowest_42 : decode cX3_withNoteZeroLowest 42 = .ok (.ireturn, 1) := by decide +kernel
set_option maxRecDepth 20000 in
theorem ggX3_walk_X0_hold : GoodIn wsX3_walk wsX0_hold := goodIn_r _ [11, 12, 13, 99, 100, 101, 102] (by decide +kernel) (by decide +kernel)
set_option maxRecDepth 20000 in
theorem gX3_walk_X0_hold : GoodIn wsX3_walk (wsV RX3 101 RX0 yX0_hold wsX0_hold) := goodIn_app (goodIn_of _ (by decide +kernel)) ggX3_walk_X0_hold
set_option maxRecDepth 20000 in
theorem ggX3_walk_X10_handIn : GoodIn wsX3_walk wsX10_handIn := goodIn_r _ [16] (by decide +kernel) (by decide +kernel)
set_option maxRecDepth 20000 in
theorem gX3_walk_X10_handIn_n144 : GoodIn wsX3_walk (wsX10_handIn) := ggX3_walk_X10_handIn
set_option maxRecDepth 20000 in
theorem ggX3_walk_X0_strike : GoodIn wsX3_walk wsX0_strike := goodIn_r _ [20, 21, 22, 23, 24, 25, 26, 27, 28, 29, 30, 10, 31, 12, 13, 32, 33, 34, 35, 36, 37, 38, 39, 40, 41, 42, 43, 44, 45, 46, 47, 48, 49, 50, 51, 52, 53, 54, 55, 56, 57, 8, 9, 11, 58, 59, 60, 61, 62, 63, 64, 65, 99, 100, 101, 102, 91, 92, 93, 94, 95, 96, 97, 98] (by decide +kernel) (by decide +kernel)
set_option maxRecDepth 20000 in
theorem gX3_walk_X0_strike : GoodIn wsX3_walk (wsV RX3 104 RX0 yX0_strike wsX0_strike) := goodIn_app (goodIn_of _ (by decide +kernel)) ggX3_walk_X0_strike
set_option maxRecDepth 20000 in
theorem ggX3_walk_X0_areCrossed : GoodIn wsX3_walk wsX0_areCrossed := goodIn_r _ [69, 12, 13, 21, 70, 71, 72, 26, 73, 99, 100, 101, 102, 91, 92, 93, 94, 95, 96, 97] (by decide +kernel) (by decide +kernel)
set_option maxRecDepth 20000 in
theorem gX3_walk_X0_areCrossed : GoodIn wsX3_walk (wsV RX3 111 RX0 yX0_areCrossed wsX0_areCrossed) := goodIn_app (goodIn_of _ (by decide +kernel)) ggX3_walk_X0_areCrossed
set_option maxRecDepth 20000 in
theorem ggX3_walk_X0_awkwardness : GoodIn wsX3_walk wsX0_awkwardness := goodIn_r _ [77, 21, 78, 22, 41, 42, 79, 67, 68, 10, 69, 12, 13, 70, 71, 72, 26, 73, 51, 52, 53, 54, 55, 56, 99, 100, 101, 102, 91, 92, 93, 94, 95, 96, 97, 98] (by decide +kernel) (by decide +kernel)
set_option maxRecDepth 20000 in
theorem gX3_walk_X0_awkwardness : GoodIn wsX3_walk (wsV RX3 123 RX0 yX0_awkwardness wsX0_awkwardness) := goodIn_app (goodIn_of _ (by decide +kernel)) ggX3_walk_X0_awkwardness
theorem dX3_walk_0 : decode cX3_walk 0 = .ok (.aload_n 0, 1) := by decide +kernel
theorem dX3_walk_1 : decode cX3_walk 1 = .ok (.getfield 54, 3) := by decide +kernel
theorem dX3_walk_4 : decode cX3_walk 4 = .ok (.iconst 0, 1) := by decide +kernel
theorem dX3_walk_5 : decode cX3_walk 5 = .ok (.iconst 0, 1) := by decide +kernel
theorem dX3_walk_6 : decode cX3_walk 6 = .ok (.iconst 0, 1) := by decide +kernel
theorem dX3_walk_7 : decode cX3_walk 7 = .ok (.invokevirtual 101, 3) := by decide +kernel
theorem dX3_walk_10 : decode cX3_walk 10 = .ok (.aload_n 0, 1) := by decide +kernel
theorem dX3_walk_11 : decode cX3_walk 11 = .ok (.iconst 0, 1) := by decide +kernel
theorem dX3_walk_12 : decode cX3_walk 12 = .ok (.putfield 24, 3) := by decide +kernel
theorem dX3_walk_15 : decode cX3_walk 15 = .ok (.iconst 0, 1) := by decide +kernel
theorem dX3_walk_16 : decode cX3_walk 16 = .ok (.istore_n 3, 1) := by decide +kernel
theorem dX3_walk_17 : decode cX3_walk 17 = .ok (.iconst (-1), 1) := by decide +kernel
theorem dX3_walk_18 : decode cX3_walk 18 = .ok (.istore 4, 2) := by decide +kernel
theorem dX3_walk_20 : decode cX3_walk 20 = .ok (.iconst 0, 1) := by decide +kernel
theorem dX3_walk_21 : decode cX3_walk 21 = .ok (.istore 5, 2) := by decide +kernel
theorem dX3_walk_23 : decode cX3_walk 23 = .ok (.iload 5, 2) := by decide +kernel
theorem dX3_walk_25 : decode cX3_walk 25 = .ok (.iload_n 2, 1) := by decide +kernel
theorem dX3_walk_26 : decode cX3_walk 26 = .ok (.if_icmp .gt 89, 3) := by decide +kernel
theorem dX3_walk_29 : decode cX3_walk 29 = .ok (.iload 5, 2) := by decide +kernel
theorem dX3_walk_31 : decode cX3_walk 31 = .ok (.aload_n 0, 1) := by decide +kernel
theorem dX3_walk_32 : decode cX3_walk 32 = .ok (.getfield 41, 3) := by decide +kernel
theorem dX3_walk_35 : decode cX3_walk 35 = .ok (.getfield 74, 3) := by decide +kernel
theorem dX3_walk_38 : decode cX3_walk 38 = .ok (.if_icmp .ge 77, 3) := by decide +kernel
theorem dX3_walk_41 : decode cX3_walk 41 = .ok (.iload_n 1, 1) := by decide +kernel
theorem dX3_walk_42 : decode cX3_walk 42 = .ok (.iload 5, 2) := by decide +kernel
theorem dX3_walk_44 : decode cX3_walk 44 = .ok (.invokestatic 144, 3) := by decide +kernel
theorem dX3_walk_47 : decode cX3_walk 47 = .ok (.istore 6, 2) := by decide +kernel
theorem dX3_walk_49 : decode cX3_walk 49 = .ok (.aload_n 0, 1) := by decide +kernel
theorem dX3_walk_50 : decode cX3_walk 50 = .ok (.getfield 54, 3) := by decide +kernel
theorem dX3_walk_53 : decode cX3_walk 53 = .ok (.iload 5, 2) := by decide +kernel
theorem dX3_walk_55 : decode cX3_walk 55 = .ok (.iload 6, 2) := by decide +kernel
theorem dX3_walk_57 : decode cX3_walk 57 = .ok (.invokevirtual 104, 3) := by decide +kernel
theorem dX3_walk_60 : decode cX3_walk 60 = .ok (.ifCond .ne 5, 3) := by decide +kernel
theorem dX3_walk_63 : decode cX3_walk 63 = .ok (.iconst 0, 1) := by decide +kernel
theorem dX3_walk_64 : decode cX3_walk 64 = .ok (.ireturn, 1) := by decide +kernel
theorem dX3_walk_65 : decode cX3_walk 65 = .ok (.iload_n 3, 1) := by decide +kernel
theorem dX3_walk_66 : decode cX3_walk 66 = .ok (.aload_n 0, 1) := by decide +kernel
theorem dX3_walk_67 : decode cX3_walk 67 = .ok (.getfield 54, 3) := by decide +kernel
theorem dX3_walk_70 : decode cX3_walk 70 = .ok (.invokevirtual 111, 3) := by decide +kernel
theorem dX3_walk_73 : decode cX3_walk 73 = .ok (.ifCond .eq 7, 3) := by decide +kernel
theorem dX3_walk_76 : decode cX3_walk 76 = .ok (.iconst 1, 1) := by decide +kernel
theorem dX3_walk_77 : decode cX3_walk 77 = .ok (.goto 4, 3) := by decide +kernel
theorem dX3_walk_80 : decode cX3_walk 80 = .ok (.iconst 0, 1) := by decide +kernel
theorem dX3_walk_81 : decode cX3_walk 81 = .ok (.iadd, 1) := by decide +kernel
theorem dX3_walk_82 : decode cX3_walk 82 = .ok (.istore_n 3, 1) := by decide +kernel
theorem dX3_walk_83 : decode cX3_walk 83 = .ok (.aload_n 0, 1) := by decide +kernel
theorem dX3_walk_84 : decode cX3_walk 84 = .ok (.dup, 1) := by decide +kernel
theorem dX3_walk_85 : decode cX3_walk 85 = .ok (.getfield 24, 3) := by decide +kernel
theorem dX3_walk_88 : decode cX3_walk 88 = .ok (.aload_n 0, 1) := by decide +kernel
theorem dX3_walk_89 : decode cX3_walk 89 = .ok (.getfield 54, 3) := by decide +kernel
theorem dX3_walk_92 : decode cX3_walk 92 = .ok (.iload 5, 2) := by decide +kernel
theorem dX3_walk_94 : decode cX3_walk 94 = .ok (.iload 6, 2) := by decide +kernel
theorem dX3_walk_96 : decode cX3_walk 96 = .ok (.iload 4, 2) := by decide +kernel
theorem dX3_walk_98 : decode cX3_walk 98 = .ok (.invokevirtual 123, 3) := by decide +kernel
theorem dX3_walk_101 : decode cX3_walk 101 = .ok (.iadd, 1) := by decide +kernel
theorem dX3_walk_102 : decode cX3_walk 102 = .ok (.putfield 24, 3) := by decide +kernel
theorem dX3_walk_105 : decode cX3_walk 105 = .ok (.iload 6, 2) := by decide +kernel
theorem dX3_walk_107 : decode cX3_walk 107 = .ok (.istore 4, 2) := by decide +kernel
theorem dX3_walk_109 : decode cX3_walk 109 = .ok (.iinc 5 1, 3) := by decide +kernel
theorem dX3_walk_112 : decode cX3_walk 112 = .ok (.goto (-89), 3) := by decide +kernel
theorem dX3_walk_115 : decode cX3_walk 115 = .ok (.iload_n 3, 1) := by decide +kernel
theorem dX3_walk_116 : decode cX3_walk 116 = .ok (.aload_n 0, 1) := by decide +kernel
theorem dX3_walk_117 : decode cX3_walk 117 = .ok (.getfield 45, 3) := by decide +kernel
theorem dX3_walk_120 : decode cX3_walk 120 = .ok (.getfield 115, 3) := by decide +kernel
theorem dX3_walk_123 : decode cX3_walk 123 = .ok (.iconst 2, 1) := by decide +kernel
theorem dX3_walk_124 : decode cX3_walk 124 = .ok (.iaload, 1) := by decide +kernel
theorem dX3_walk_125 : decode cX3_walk 125 = .ok (.if_icmp .gt 7, 3) := by decide +kernel
theorem dX3_walk_128 : decode cX3_walk 128 = .ok (.iconst 1, 1) := by decide +kernel
theorem dX3_walk_129 : decode cX3_walk 129 = .ok (.goto 4, 3) := by decide +kernel
theorem dX3_walk_132 : decode cX3_walk 132 = .ok (.iconst 0, 1) := by decide +kernel
theorem dX3_walk_133 : decode cX3_walk 133 = .ok (.ireturn, 1) := by decide +kernel
theorem dX4_init_0 : decode cX4_init 0 = .ok (.aload_n 0, 1) := by decide +kernel
theorem dX4_init_1 : decode cX4_init 1 = .ok (.invokespecial 3, 3) := by decide +kernel
theorem dX4_init_4 : decode cX4_init 4 = .ok (.aload_n 0, 1) := by decide +kernel
theorem dX4_init_5 : decode cX4_init 5 = .ok (.bipush 20, 2) := by decide +kernel
theorem dX4_init_7 : decode cX4_init 7 = .ok (.newarray .int, 2) := by decide +kernel
theorem dX4_init_9 : decode cX4_init 9 = .ok (.putfield 9, 3) := by decide +kernel
theorem dX4_init_12 : decode cX4_init 12 = .ok (.aload_n 0, 1) := by decide +kernel
theorem dX4_init_13 : decode cX4_init 13 = .ok (.bipush 20, 2) := by decide +kernel
theorem dX4_init_15 : decode cX4_init 15 = .ok (.newarray .int, 2) := by decide +kernel
theorem dX4_init_17 : decode cX4_init 17 = .ok (.putfield 15, 3) := by decide +kernel
theorem dX4_init_20 : decode cX4_init 20 = .ok (.aload_n 0, 1) := by decide +kernel
theorem dX4_init_21 : decode cX4_init 21 = .ok (.bipush 20, 2) := by decide +kernel
theorem dX4_init_23 : decode cX4_init 23 = .ok (.newarray .int, 2) := by decide +kernel
theorem dX4_init_25 : decode cX4_init 25 = .ok (.putfield 18, 3) := by decide +kernel
theorem dX4_init_28 : decode cX4_init 28 = .ok (.aload_n 0, 1) := by decide +kernel
theorem dX4_init_29 : decode cX4_init 29 = .ok (.bipush 20, 2) := by decide +kernel
theorem dX4_init_31 : decode cX4_init 31 = .ok (.newarray .int, 2) := by decide +kernel
theorem dX4_init_33 : decode cX4_init 33 = .ok (.putfield 21, 3) := by decide +kernel
theorem dX4_init_36 : decode cX4_init 36 = .ok (.aload_n 0, 1) := by decide +kernel
theorem dX4_init_37 : decode cX4_init 37 = .ok (.bipush 41, 2) := by decide +kernel
theorem dX4_init_39 : decode cX4_init 39 = .ok (.newarray .int, 2) := by decide +kernel
theorem dX4_init_41 : decode cX4_init 41 = .ok (.putfield 24, 3) := by decide +kernel
theorem dX4_init_44 : decode cX4_init 44 = .ok (.aload_n 0, 1) := by decide +kernel
theorem dX4_init_45 : decode cX4_init 45 = .ok (.bipush 41, 2) := by decide +kernel
theorem dX4_init_47 : decode cX4_init 47 = .ok (.newarray .int, 2) := by decide +kernel
theorem dX4_init_49 : decode cX4_init 49 = .ok (.putfield 27, 3) := by decide +kernel
theorem dX4_init_52 : decode cX4_init 52 = .ok (.aload_n 0, 1) := by decide +kernel
theorem dX4_init_53 : decode cX4_init 53 = .ok (.iconst 0, 1) := by decide +kernel
theorem dX4_init_54 : decode cX4_init 54 = .ok (.putfield 30, 3) := by decide +kernel
theorem dX4_init_57 : decode cX4_init 57 = .ok (.return_, 1) := by decide +kernel
theorem dX4_mainOf_0 : decode cX4_mainOf 0 = .ok (.iconst 1, 1) := by decide +kernel
theorem dX4_mainOf_1 : decode cX4_mainOf 1 = .ok (.iconst 2, 1) := by decide +kernel
theorem dX4_mainOf_2 : decode cX4_mainOf 2 = .ok (.iload_n 0, 1) := by decide +kernel
theorem dX4_mainOf_3 : decode cX4_mainOf 3 = .ok (.imul, 1) := by decide +kernel
theorem dX4_mainOf_4 : decode cX4_mainOf 4 = .ok (.iadd, 1) := by decide +kernel
theorem dX4_mainOf_5 : decode cX4_mainOf 5 = .ok (.ireturn, 1) := by decide +kernel
theorem dX4_graceOf_0 : decode cX4_graceOf 0 = .ok (.iconst 2, 1) := by decide +kernel
theorem dX4_graceOf_1 : decode cX4_graceOf 1 = .ok (.iconst 2, 1) := by decide +kernel
theorem dX4_graceOf_2 : decode cX4_graceOf 2 = .ok (.iload_n 0, 1) := by decide +kernel
theorem dX4_graceOf_3 : decode cX4_graceOf 3 = .ok (.imul, 1) := by decide +kernel
theorem dX4_graceOf_4 : decode cX4_graceOf 4 = .ok (.iadd, 1) := by decide +kernel
theorem dX4_graceOf_5 : decode cX4_graceOf 5 = .ok (.ireturn, 1) := by decide +kernel
theorem dX4_noteOf_0 : decode cX4_noteOf 0 = .ok (.iload_n 0, 1) := by decide +kernel
theorem dX4_noteOf_1 : decode cX4_noteOf 1 = .ok (.iconst 1, 1) := by decide +kernel
theorem dX4_noteOf_2 : decode cX4_noteOf 2 = .ok (.isub, 1) := by decide +kernel
theorem dX4_noteOf_3 : decode cX4_noteOf 3 = .ok (.iconst 2, 1) := by decide +kernel
theorem dX4_noteOf_4 : decode cX4_noteOf 4 = .ok (.idiv, 1) := by decide +kernel
theorem dX4_noteOf_5 : decode cX4_noteOf 5 = .ok (.ireturn, 1) := by decide +kernel
set_option maxRecDepth 20000 in
theorem ggX4_hasNote_X10_isBelow : GoodIn wsX4_hasNote wsX10_isBelow := goodIn_r _ [4] (by decide +kernel) (by decide +kernel)
set_option maxRecDepth 20000 in
theorem gX4_hasNote_X10_isBelow_n34 : GoodIn wsX4_hasNote (wsX10_isBelow) := ggX4_hasNote_X10_isBelow
theorem dX4_hasNote_0 : decode cX4_hasNote 0 = .ok (.iload_n 1, 1) := by decide +kernel
theorem dX4_hasNote_1 : decode cX4_hasNote 1 = .ok (.aload_n 0, 1) := by decide +kernel
theorem dX4_hasNote_2 : decode cX4_hasNote 2 = .ok (.getfield 30, 3) := by decide +kernel
theorem dX4_hasNote_5 : decode cX4_hasNote 5 = .ok (.invokestatic 34, 3) := by decide +kernel
theorem dX4_hasNote_8 : decode cX4_hasNote 8 = .ok (.ireturn, 1) := by decide +kernel
theorem dX4_latestTick_0 : decode cX4_latestTick 0 = .ok (.aload_n 0, 1) := by decide +kernel
theorem dX4_latestTick_1 : decode cX4_latestTick 1 = .ok (.getfield 30, 3) := by decide +kernel
theorem dX4_latestTick_4 : decode cX4_latestTick 4 = .ok (.ifCond .ne 7, 3) := by decide +kernel
theorem dX4_latestTick_7 : decode cX4_latestTick 7 = .ok (.iconst (-1), 1) := by decide +kernel
theorem dX4_latestTick_8 : decode cX4_latestTick 8 = .ok (.goto 14, 3) := by decide +kernel
theorem dX4_latestTick_11 : decode cX4_latestTick 11 = .ok (.aload_n 0, 1) := by decide +kernel
theorem dX4_latestTick_12 : decode cX4_latestTick 12 = .ok (.getfield 15, 3) := by decide +kernel
theorem dX4_latestTick_15 : decode cX4_latestTick 15 = .ok (.aload_n 0, 1) := by decide +kernel
theorem dX4_latestTick_16 : decode cX4_latestTick 16 = .ok (.getfield 30, 3) := by decide +kernel
theorem dX4_latestTick_19 : decode cX4_latestTick 19 = .ok (.iconst 1, 1) := by decide +kernel
theorem dX4_latestTick_20 : decode cX4_latestTick 20 = .ok (.isub, 1) := by decide +kernel
theorem dX4_latestTick_21 : decode cX4_latestTick 21 = .ok (.iaload, 1) := by decide +kernel
theorem dX4_latestTick_22 : decode cX4_latestTick 22 = .ok (.ireturn, 1) := by decide +kernel
set_option maxRecDepth 20000 in
theorem ggX4_append_X4_mainOf : GoodIn wsX4_append wsX4_mainOf := goodIn_r _ [12] (by decide +kernel) (by decide +kernel)
set_option maxRecDepth 20000 in
theorem gX4_append_X4_mainOf : GoodIn wsX4_append (va_wsS RX4 38 yX4_mainOf wsX4_mainOf) := goodIn_app (goodIn_of _ (by decide +kernel)) ggX4_append_X4_mainOf
set_option maxRecDepth 20000 in
theorem ggX4_append_X4_graceOf : GoodIn wsX4_append wsX4_graceOf := goodIn_r _ [15] (by decide +kernel) (by decide +kernel)
set_option maxRecDepth 20000 in
theorem gX4_append_X4_graceOf : GoodIn wsX4_append (va_wsS RX4 42 yX4_graceOf wsX4_graceOf) := goodIn_app (goodIn_of _ (by decide +kernel)) ggX4_append_X4_graceOf
theorem dX4_append_0 : decode cX4_append 0 = .ok (.aload_n 0, 1) := by decide +kernel
theorem dX4_append_1 : decode cX4_append 1 = .ok (.getfield 30, 3) := by decide +kernel
theorem dX4_append_4 : decode cX4_append 4 = .ok (.bipush 20, 2) := by decide +kernel
theorem dX4_append_6 : decode cX4_append 6 = .ok (.if_icmp .lt 4, 3) := by decide +kernel
theorem dX4_append_9 : decode cX4_append 9 = .ok (.return_, 1) := by decide +kernel
theorem dX4_append_10 : decode cX4_append 10 = .ok (.aload_n 0, 1) := by decide +kernel
theorem dX4_append_11 : decode cX4_append 11 = .ok (.getfield 9, 3) := by decide +kernel
theorem dX4_append_14 : decode cX4_append 14 = .ok (.aload_n 0, 1) := by decide +kernel
theorem dX4_append_15 : decode cX4_append 15 = .ok (.getfield 30, 3) := by decide +kernel
theorem dX4_append_18 : decode cX4_append 18 = .ok (.iload_n 1, 1) := by decide +kernel
theorem dX4_append_19 : decode cX4_append 19 = .ok (.iastore, 1) := by decide +kernel
theorem dX4_append_20 : decode cX4_append 20 = .ok (.aload_n 0, 1) := by decide +kernel
theorem dX4_append_21 : decode cX4_append 21 = .ok (.getfield 15, 3) := by decide +kernel
theorem dX4_append_24 : decode cX4_append 24 = .ok (.aload_n 0, 1) := by decide +kernel
theorem dX4_append_25 : decode cX4_append 25 = .ok (.getfield 30, 3) := by decide +kernel
theorem dX4_append_28 : decode cX4_append 28 = .ok (.iload_n 2, 1) := by decide +kernel
theorem dX4_append_29 : decode cX4_append 29 = .ok (.iastore, 1) := by decide +kernel
theorem dX4_append_30 : decode cX4_append 30 = .ok (.aload_n 0, 1) := by decide +kernel
theorem dX4_append_31 : decode cX4_append 31 = .ok (.getfield 18, 3) := by decide +kernel
theorem dX4_append_34 : decode cX4_append 34 = .ok (.aload_n 0, 1) := by decide +kernel
theorem dX4_append_35 : decode cX4_append 35 = .ok (.getfield 30, 3) := by decide +kernel
theorem dX4_append_38 : decode cX4_append 38 = .ok (.iload_n 3, 1) := by decide +kernel
theorem dX4_append_39 : decode cX4_append 39 = .ok (.iastore, 1) := by decide +kernel
theorem dX4_append_40 : decode cX4_append 40 = .ok (.aload_n 0, 1) := by decide +kernel
theorem dX4_append_41 : decode cX4_append 41 = .ok (.getfield 21, 3) := by decide +kernel
theorem dX4_append_44 : decode cX4_append 44 = .ok (.aload_n 0, 1) := by decide +kernel
theorem dX4_append_45 : decode cX4_append 45 = .ok (.getfield 30, 3) := by decide +kernel
theorem dX4_append_48 : decode cX4_append 48 = .ok (.iload 4, 2) := by decide +kernel
theorem dX4_append_50 : decode cX4_append 50 = .ok (.iastore, 1) := by decide +kernel
theorem dX4_append_51 : decode cX4_append 51 = .ok (.aload_n 0, 1) := by decide +kernel
theorem dX4_append_52 : decode cX4_append 52 = .ok (.getfield 24, 3) := by decide +kernel
theorem dX4_append_55 : decode cX4_append 55 = .ok (.aload_n 0, 1) := by decide +kernel
theorem dX4_append_56 : decode cX4_append 56 = .ok (.getfield 30, 3) := by decide +kernel
theorem dX4_append_59 : decode cX4_append 59 = .ok (.invokestatic 38, 3) := by decide +kernel
theorem dX4_append_62 : decode cX4_append 62 = .ok (.iload_n 2, 1) := by decide +kernel
theorem dX4_append_63 : decode cX4_append 63 = .ok (.iastore, 1) := by decide +kernel
theorem dX4_append_64 : decode cX4_append 64 = .ok (.aload_n 0, 1) := by decide +kernel
theorem dX4_append_65 : decode cX4_append 65 = .ok (.getfield 24, 3) := by decide +kernel
theorem dX4_append_68 : decode cX4_append 68 = .ok (.aload_n 0, 1) := by decide +kernel
theorem dX4_append_69 : decode cX4_append 69 = .ok (.getfield 30, 3) := by decide +kernel
theorem dX4_append_72 : decode cX4_append 72 = .ok (.invokestatic 42, 3) := by decide +kernel
theorem dX4_append_75 : decode cX4_append 75 = .ok (.iload_n 2, 1) := by decide +kernel
theorem dX4_append_76 : decode cX4_append 76 = .ok (.iconst 4, 1) := by decide +kernel
theorem dX4_append_77 : decode cX4_append 77 = .ok (.isub, 1) := by decide +kernel
theorem dX4_append_78 : decode cX4_append 78 = .ok (.iastore, 1) := by decide +kernel
theorem dX4_append_79 : decode cX4_append 79 = .ok (.aload_n 0, 1) := by decide +kernel
theorem dX4_append_80 : decode cX4_append 80 = .ok (.getfield 27, 3) := by decide +kernel
theorem dX4_append_83 : decode cX4_append 83 = .ok (.aload_n 0, 1) := by decide +kernel
theorem dX4_append_84 : decode cX4_append 84 = .ok (.getfield 30, 3) := by decide +kernel
theorem dX4_append_87 : decode cX4_append 87 = .ok (.invokestatic 38, 3) := by decide +kernel
theorem dX4_append_90 : decode cX4_append 90 = .ok (.getstatic 45, 3) := by decide +kernel
theorem dX4_append_93 : decode cX4_append 93 = .ok (.iload_n 1, 1) := by decide +kernel
theorem dX4_append_94 : decode cX4_append 94 = .ok (.iaload, 1) := by decide +kernel
theorem dX4_append_95 : decode cX4_append 95 = .ok (.iastore, 1) := by decide +kernel
theorem dX4_append_96 : decode cX4_append 96 = .ok (.aload_n 0, 1) := by decide +kernel
theorem dX4_append_97 : decode cX4_append 97 = .ok (.getfield 27, 3) := by decide +kernel
theorem dX4_append_100 : decode cX4_append 100 = .ok (.aload_n 0, 1) := by decide +kernel
theorem dX4_append_101 : decode cX4_append 101 = .ok (.getfield 30, 3) := by decide +kernel
theorem dX4_append_104 : decode cX4_append 104 = .ok (.invokestatic 42, 3) := by decide +kernel
theorem dX4_append_107 : decode cX4_append 107 = .ok (.iconst 1, 1) := by decide +kernel
theorem dX4_append_108 : decode cX4_append 108 = .ok (.iastore, 1) := by decide +kernel
theorem dX4_append_109 : decode cX4_append 109 = .ok (.aload_n 0, 1) := by decide +kernel
theorem dX4_append_110 : decode cX4_append 110 = .ok (.dup, 1) := by decide +kernel
theorem dX4_append_111 : decode cX4_append 111 = .ok (.getfield 30, 3) := by decide +kernel
theorem dX4_append_114 : decode cX4_append 114 = .ok (.iconst 1, 1) := by decide +kernel
theorem dX4_append_115 : decode cX4_append 115 = .ok (.iadd, 1) := by decide +kernel
theorem dX4_append_116 : decode cX4_append 116 = .ok (.putfield 30, 3) := by decide +kernel
theorem dX4_append_119 : decode cX4_append 119 = .ok (.return_, 1) := by decide +kernel
theorem dX4_removeLatest_0 : decode cX4_removeLatest 0 = .ok (.aload_n 0, 1) := by decide +kernel
theorem dX4_removeLatest_1 : decode cX4_removeLatest 1 = .ok (.getfield 30, 3) := by decide +kernel
theorem dX4_removeLatest_4 : decode cX4_removeLatest 4 = .ok (.ifCond .le 13, 3) := by decide +kernel
theorem dX4_removeLatest_7 : decode cX4_removeLatest 7 = .ok (.aload_n 0, 1) := by decide +kernel
theorem dX4_removeLatest_8 : decode cX4_removeLatest 8 = .ok (.dup, 1) := by decide +kernel
theorem dX4_removeLatest_9 : decode cX4_removeLatest 9 = .ok (.getfield 30, 3) := by decide +kernel
theorem dX4_removeLatest_12 : decode cX4_removeLatest 12 = .ok (.iconst 1, 1) := by decide +kernel
theorem dX4_removeLatest_13 : decode cX4_removeLatest 13 = .ok (.isub, 1) := by decide +kernel
theorem dX4_removeLatest_14 : decode cX4_removeLatest 14 = .ok (.putfield 30, 3) := by decide +kernel
theorem dX4_removeLatest_17 : decode cX4_removeLatest 17 = .ok (.return_, 1) := by decide +kernel
set_option maxRecDepth 20000 in
theorem ggX4_setMark_X4_hasNote : GoodIn wsX4_setMark wsX4_hasNote := goodIn_r _ [6, 7, 8, 9, 10, 11, 12, 13, 14, 15, 16, 17] (by decide +kernel) (by decide +kernel)
set_option maxRecDepth 20000 in
theorem gX4_setMark_X4_hasNote : GoodIn wsX4_setMark (wsV RX4 48 RX4 yX4_hasNote wsX4_hasNote) := goodIn_app (goodIn_of _ (by decide +kernel)) ggX4_setMark_X4_hasNote
theorem dX4_setMark_0 : decode cX4_setMark 0 = .ok (.aload_n 0, 1) := by decide +kernel
theorem dX4_setMark_1 : decode cX4_setMark 1 = .ok (.iload_n 1, 1) := by decide +kernel
theorem dX4_setMark_2 : decode cX4_setMark 2 = .ok (.invokevirtual 48, 3) := by decide +kernel
theorem dX4_setMark_5 : decode cX4_setMark 5 = .ok (.ifCond .eq 10, 3) := by decide +kernel
theorem dX4_setMark_8 : decode cX4_setMark 8 = .ok (.aload_n 0, 1) := by decide +kernel
theorem dX4_setMark_9 : decode cX4_setMark 9 = .ok (.getfield 21, 3) := by decide +kernel
theorem dX4_setMark_12 : decode cX4_setMark 12 = .ok (.iload_n 1, 1) := by decide +kernel
theorem dX4_setMark_13 : decode cX4_setMark 13 = .ok (.iload_n 2, 1) := by decide +kernel
theorem dX4_setMark_14 : decode cX4_setMark 14 = .ok (.iastore, 1) := by decide +kernel
theorem dX4_setMark_15 : decode cX4_setMark 15 = .ok (.return_, 1) := by decide +kernel
theorem dX4_countMarks_0 : decode cX4_countMarks 0 = .ok (.iconst 0, 1) := by decide +kernel
theorem dX4_countMarks_1 : decode cX4_countMarks 1 = .ok (.istore_n 1, 1) := by decide +kernel
theorem dX4_countMarks_2 : decode cX4_countMarks 2 = .ok (.iconst 0, 1) := by decide +kernel
theorem dX4_countMarks_3 : decode cX4_countMarks 3 = .ok (.istore_n 2, 1) := by decide +kernel
theorem dX4_countMarks_4 : decode cX4_countMarks 4 = .ok (.iload_n 2, 1) := by decide +kernel
theorem dX4_countMarks_5 : decode cX4_countMarks 5 = .ok (.aload_n 0, 1) := by decide +kernel
theorem dX4_countMarks_6 : decode cX4_countMarks 6 = .ok (.getfield 30, 3) := by decide +kernel
theorem dX4_countMarks_9 : decode cX4_countMarks 9 = .ok (.if_icmp .ge 22, 3) := by decide +kernel
theorem dX4_countMarks_12 : decode cX4_countMarks 12 = .ok (.aload_n 0, 1) := by decide +kernel
theorem dX4_countMarks_13 : decode cX4_countMarks 13 = .ok (.getfield 21, 3) := by decide +kernel
theorem dX4_countMarks_16 : decode cX4_countMarks 16 = .ok (.iload_n 2, 1) := by decide +kernel
theorem dX4_countMarks_17 : decode cX4_countMarks 17 = .ok (.iaload, 1) := by decide +kernel
theorem dX4_countMarks_18 : decode cX4_countMarks 18 = .ok (.iconst (-1), 1) := by decide +kernel
theorem dX4_countMarks_19 : decode cX4_countMarks 19 = .ok (.if_icmp .eq 6, 3) := by decide +kernel
theorem dX4_countMarks_22 : decode cX4_countMarks 22 = .ok (.iinc 1 1, 3) := by decide +kernel
theorem dX4_countMarks_25 : decode cX4_countMarks 25 = .ok (.iinc 2 1, 3) := by decide +kernel
theorem dX4_countMarks_28 : decode cX4_countMarks 28 = .ok (.goto (-24), 3) := by decide +kernel
theorem dX4_countMarks_31 : decode cX4_countMarks 31 = .ok (.iload_n 1, 1) := by decide +kernel
theorem dX4_countMarks_32 : decode cX4_countMarks 32 = .ok (.ireturn, 1) := by decide +kernel
theorem dX4_isOfKind_0 : decode cX4_isOfKind 0 = .ok (.aload_n 0, 1) := by decide +kernel
theorem dX4_isOfKind_1 : decode cX4_isOfKind 1 = .ok (.getfield 9, 3) := by decide +kernel
theorem dX4_isOfKind_4 : decode cX4_isOfKind 4 = .ok (.iload_n 1, 1) := by decide +kernel
theorem dX4_isOfKind_5 : decode cX4_isOfKind 5 = .ok (.iaload, 1) := by decide +kernel
theorem dX4_isOfKind_6 : decode cX4_isOfKind 6 = .ok (.istore_n 3, 1) := by decide +kernel
theorem dX4_isOfKind_7 : decode cX4_isOfKind 7 = .ok (.iload_n 2, 1) := by decide +kernel
theorem dX4_isOfKind_8 : decode cX4_isOfKind 8 = .ok (.iload_n 3, 1) := by decide +kernel
theorem dX4_isOfKind_9 : decode cX4_isOfKind 9 = .ok (.if_icmp .eq 17, 3) := by decide +kernel
theorem dX4_isOfKind_12 : decode cX4_isOfKind 12 = .ok (.iload_n 2, 1) := by decide +kernel
theorem dX4_isOfKind_13 : decode cX4_isOfKind 13 = .ok (.ifCond .eq 13, 3) := by decide +kernel
theorem dX4_isOfKind_16 : decode cX4_isOfKind 16 = .ok (.iload_n 2, 1) := by decide +kernel
theorem dX4_isOfKind_17 : decode cX4_isOfKind 17 = .ok (.iconst 2, 1) := by decide +kernel
theorem dX4_isOfKind_18 : decode cX4_isOfKind 18 = .ok (.if_icmp .ne 12, 3) := by decide +kernel
theorem dX4_isOfKind_21 : decode cX4_isOfKind 21 = .ok (.iload_n 3, 1) := by decide +kernel
theorem dX4_isOfKind_22 : decode cX4_isOfKind 22 = .ok (.iconst 3, 1) := by decide +kernel
theorem dX4_isOfKind_23 : decode cX4_isOfKind 23 = .ok (.if_icmp .ne 7, 3) := by decide +kernel
theorem dX4_isOfKind_26 : decode cX4_isOfKind 26 = .ok (.iconst 1, 1) := by decide +kernel
theorem dX4_isOfKind_27 : decode cX4_isOfKind 27 = .ok (.goto 4, 3) := by decide +kernel
theorem dX4_isOfKind_30 : decode cX4_isOfKind 30 = .ok (.iconst 0, 1) := by decide +kernel
theorem dX4_isOfKind_31 : decode cX4_isOfKind 31 = .ok (.ireturn, 1) := by decide +kernel
theorem dX4_graces_0 : decode cX4_graces 0 = .ok (.getstatic 52, 3) := by decide +kernel
theorem dX4_graces_3 : decode cX4_graces 3 = .ok (.aload_n 0, 1) := by decide +kernel
theorem dX4_graces_4 : decode cX4_graces 4 = .ok (.getfield 9, 3) := by decide +kernel
theorem dX4_graces_7 : decode cX4_graces 7 = .ok (.iload_n 1, 1) := by decide +kernel
theorem dX4_graces_8 : decode cX4_graces 8 = .ok (.iaload, 1) := by decide +kernel
theorem dX4_graces_9 : decode cX4_graces 9 = .ok (.iaload, 1) := by decide +kernel
theorem dX4_graces_10 : decode cX4_graces 10 = .ok (.ireturn, 1) := by decide +kernel
theorem dX4_firstGraceTick_0 : decode cX4_firstGraceTick 0 = .ok (.aload_n 0, 1) := by decide +kernel
theorem dX4_firstGraceTick_1 : decode cX4_firstGraceTick 1 = .ok (.getfield 15, 3) := by decide +kernel
theorem dX4_firstGraceTick_4 : decode cX4_firstGraceTick 4 = .ok (.iload_n 1, 1) := by decide +kernel
theorem dX4_firstGraceTick_5 : decode cX4_firstGraceTick 5 = .ok (.iaload, 1) := by decide +kernel
theorem dX4_firstGraceTick_6 : decode cX4_firstGraceTick 6 = .ok (.iconst 4, 1) := by decide +kernel
theorem dX4_firstGraceTick_7 : decode cX4_firstGraceTick 7 = .ok (.getstatic 52, 3) := by decide +kernel
theorem dX4_firstGraceTick_10 : decode cX4_firstGraceTick 10 = .ok (.aload_n 0, 1) := by decide +kernel
theorem dX4_firstGraceTick_11 : decode cX4_firstGraceTick 11 = .ok (.getfield 9, 3) := by decide +kernel
theorem dX4_firstGraceTick_14 : decode cX4_firstGraceTick 14 = .ok (.iload_n 1, 1) := by decide +kernel
theorem dX4_firstGraceTick_15 : decode cX4_firstGraceTick 15 = .ok (.iaload, 1) := by decide +kernel
theorem dX4_firstGraceTick_16 : decode cX4_firstGraceTick 16 = .ok (.iaload, 1) := by decide +kernel
theorem dX4_firstGraceTick_17 : decode cX4_firstGraceTick 17 = .ok (.imul, 1) := by decide +kernel
theorem dX4_firstGraceTick_18 : decode cX4_firstGraceTick 18 = .ok (.isub, 1) := by decide +kernel
theorem dX4_firstGraceTick_19 : decode cX4_firstGraceTick 19 = .ok (.ireturn, 1) := by decide +kernel
theorem dX4_mayBeBy_0 : decode cX4_mayBeBy 0 = .ok (.aload_n 0, 1) := by decide +kernel
theorem dX4_mayBeBy_1 : decode cX4_mayBeBy 1 = .ok (.getfield 21, 3) := by decide +kernel
theorem dX4_mayBeBy_4 : decode cX4_mayBeBy 4 = .ok (.iload_n 1, 1) := by decide +kernel
theorem dX4_mayBeBy_5 : decode cX4_mayBeBy 5 = .ok (.iaload, 1) := by decide +kernel
theorem dX4_mayBeBy_6 : decode cX4_mayBeBy 6 = .ok (.iconst (-1), 1) := by decide +kernel
theorem dX4_mayBeBy_7 : decode cX4_mayBeBy 7 = .ok (.if_icmp .eq 13, 3) := by decide +kernel
theorem dX4_mayBeBy_10 : decode cX4_mayBeBy 10 = .ok (.aload_n 0, 1) := by decide +kernel
theorem dX4_mayBeBy_11 : decode cX4_mayBeBy 11 = .ok (.getfield 21, 3) := by decide +kernel
theorem dX4_mayBeBy_14 : decode cX4_mayBeBy 14 = .ok (.iload_n 1, 1) := by decide +kernel
theorem dX4_mayBeBy_15 : decode cX4_mayBeBy 15 = .ok (.iaload, 1) := by decide +kernel
theorem dX4_mayBeBy_16 : decode cX4_mayBeBy 16 = .ok (.iload_n 2, 1) := by decide +kernel
theorem dX4_mayBeBy_17 : decode cX4_mayBeBy 17 = .ok (.if_icmp .ne 7, 3) := by decide +kernel
theorem dX4_mayBeBy_20 : decode cX4_mayBeBy 20 = .ok (.iconst 1, 1) := by decide +kernel
theorem dX4_mayBeBy_21 : decode cX4_mayBeBy 21 = .ok (.goto 4, 3) := by decide +kernel
theorem dX4_mayBeBy_24 : decode cX4_mayBeBy 24 = .ok (.iconst 0, 1) := by decide +kernel
theorem dX4_mayBeBy_25 : decode cX4_mayBeBy 25 = .ok (.ireturn, 1) := by decide +kernel
theorem dX5_init_0 : decode cX5_init 0 = .ok (.aload_n 0, 1) := by decide +kernel
theorem dX5_init_1 : decode cX5_init 1 = .ok (.invokespecial 3, 3) := by decide +kernel
theorem dX5_init_4 : decode cX5_init 4 = .ok (.aload_n 0, 1) := by decide +kernel
theorem dX5_init_5 : decode cX5_init 5 = .ok (.iconst 0, 1) := by decide +kernel
theorem dX5_init_6 : decode cX5_init 6 = .ok (.putfield 9, 3) := by decide +kernel
theorem dX5_init_9 : decode cX5_init 9 = .ok (.aload_n 0, 1) := by decide +kernel
theorem dX5_init_10 : decode cX5_init 10 = .ok (.bipush 20, 2) := by decide +kernel
theorem dX5_init_12 : decode cX5_init 12 = .ok (.newarray .int, 2) := by decide +kernel
theorem dX5_init_14 : decode cX5_init 14 = .ok (.putfield 15, 3) := by decide +kernel
theorem dX5_init_17 : decode cX5_init 17 = .ok (.aload_n 0, 1) := by decide +kernel
theorem dX5_init_18 : decode cX5_init 18 = .ok (.bipush 20, 2) := by decide +kernel
theorem dX5_init_20 : decode cX5_init 20 = .ok (.newarray .int, 2) := by decide +kernel
theorem dX5_init_22 : decode cX5_init 22 = .ok (.putfield 19, 3) := by decide +kernel
theorem dX5_init_25 : decode cX5_init 25 = .ok (.aload_n 0, 1) := by decide +kernel
theorem dX5_init_26 : decode cX5_init 26 = .ok (.bipush 20, 2) := by decide +kernel
theorem dX5_init_28 : decode cX5_init 28 = .ok (.newarray .int, 2) := by decide +kernel
theorem dX5_init_30 : decode cX5_init 30 = .ok (.putfield 22, 3) := by decide +kernel
theorem dX5_init_33 : decode cX5_init 33 = .ok (.aload_n 0, 1) := by decide +kernel
theorem dX5_init_34 : decode cX5_init 34 = .ok (.bipush 20, 2) := by decide +kernel
theorem dX5_init_36 : decode cX5_init 36 = .ok (.newarray .int, 2) := by decide +kernel
theorem dX5_init_38 : decode cX5_init 38 = .ok (.putfield 25, 3) := by decide +kernel
theorem dX5_init_41 : decode cX5_init 41 = .ok (.aload_n 0, 1) := by decide +kernel
theorem dX5_init_42 : decode cX5_init 42 = .ok (.bipush 20, 2) := by decide +kernel
theorem dX5_init_44 : decode cX5_init 44 = .ok (.newarray .int, 2) := by decide +kernel
theorem dX5_init_46 : decode cX5_init 46 = .ok (.putfield 28, 3) := by decide +kernel
theorem dX5_init_49 : decode cX5_init 49 = .ok (.aload_n 0, 1) := by decide +kernel
theorem dX5_init_50 : decode cX5_init 50 = .ok (.sipush 480, 3) := by decide +kernel
theorem dX5_init_53 : decode cX5_init 53 = .ok (.newarray .int, 2) := by decide +kernel
theorem dX5_init_55 : decode cX5_init 55 = .ok (.putfield 31, 3) := by decide +kernel
theorem dX5_init_58 : decode cX5_init 58 = .ok (.aload_n 0, 1) := by decide +kernel
theorem dX5_init_59 : decode cX5_init 59 = .ok (.iconst 0, 1) := by decide +kernel
theorem dX5_init_60 : decode cX5_init 60 = .ok (.putfield 34, 3) := by decide +kernel
theorem dX5_init_63 : decode cX5_init 63 = .ok (.return_, 1) := by decide +kernel
theorem dX5_keepAct_0 : decode cX5_keepAct 0 = .ok (.aload_n 0, 1) := by decide +kernel
theorem dX5_keepAct_1 : decode cX5_keepAct 1 = .ok (.aload_n 0, 1) := by decide +kernel
theorem dX5_keepAct_2 : decode cX5_keepAct 2 = .ok (.getfield 34, 3) := by decide +kernel
theorem dX5_keepAct_5 : decode cX5_keepAct 5 = .ok (.iconst 1, 1) := by decide +kernel
theorem dX5_keepAct_6 : decode cX5_keepAct 6 = .ok (.iadd, 1) := by decide +kernel
theorem dX5_keepAct_7 : decode cX5_keepAct 7 = .ok (.bipush 20, 2) := by decide +kernel
theorem dX5_keepAct_9 : decode cX5_keepAct 9 = .ok (.irem, 1) := by decide +kernel
theorem dX5_keepAct_10 : decode cX5_keepAct 10 = .ok (.putfield 34, 3) := by decide +kernel
theorem dX5_keepAct_13 : decode cX5_keepAct 13 = .ok (.aload_n 0, 1) := by decide +kernel
theorem dX5_keepAct_14 : decode cX5_keepAct 14 = .ok (.aload_n 0, 1) := by decide +kernel
theorem dX5_keepAct_15 : decode cX5_keepAct 15 = .ok (.getfield 9, 3) := by decide +kernel
theorem dX5_keepAct_18 : decode cX5_keepAct 18 = .ok (.iconst 1, 1) := by decide +kernel
theorem dX5_keepAct_19 : decode cX5_keepAct 19 = .ok (.iadd, 1) := by decide +kernel
theorem dX5_keepAct_20 : decode cX5_keepAct 20 = .ok (.bipush 20, 2) := by decide +kernel
theorem dX5_keepAct_22 : decode cX5_keepAct 22 = .ok (.invokestatic 37, 3) := by decide +kernel
theorem dX5_keepAct_25 : decode cX5_keepAct 25 = .ok (.putfield 9, 3) := by decide +kernel
theorem dX5_keepAct_28 : decode cX5_keepAct 28 = .ok (.aload_n 0, 1) := by decide +kernel
theorem dX5_keepAct_29 : decode cX5_keepAct 29 = .ok (.getfield 15, 3) := by decide +kernel
theorem dX5_keepAct_32 : decode cX5_keepAct 32 = .ok (.aload_n 0, 1) := by decide +kernel
theorem dX5_keepAct_33 : decode cX5_keepAct 33 = .ok (.getfield 34, 3) := by decide +kernel
theorem dX5_keepAct_36 : decode cX5_keepAct 36 = .ok (.iload_n 1, 1) := by decide +kernel
theorem dX5_keepAct_37 : decode cX5_keepAct 37 = .ok (.iastore, 1) := by decide +kernel
theorem dX5_keepAct_38 : decode cX5_keepAct 38 = .ok (.aload_n 0, 1) := by decide +kernel
theorem dX5_keepAct_39 : decode cX5_keepAct 39 = .ok (.getfield 19, 3) := by decide +kernel
theorem dX5_keepAct_42 : decode cX5_keepAct 42 = .ok (.aload_n 0, 1) := by decide +kernel
theorem dX5_keepAct_43 : decode cX5_keepAct 43 = .ok (.getfield 34, 3) := by decide +kernel
theorem dX5_keepAct_46 : decode cX5_keepAct 46 = .ok (.iload_n 2, 1) := by decide +kernel
theorem dX5_keepAct_47 : decode cX5_keepAct 47 = .ok (.iastore, 1) := by decide +kernel
theorem dX5_keepAct_48 : decode cX5_keepAct 48 = .ok (.aload_n 0, 1) := by decide +kernel
theorem dX5_keepAct_49 : decode cX5_keepAct 49 = .ok (.getfield 22, 3) := by decide +kernel
theorem dX5_keepAct_52 : decode cX5_keepAct 52 = .ok (.aload_n 0, 1) := by decide +kernel
theorem dX5_keepAct_53 : decode cX5_keepAct 53 = .ok (.getfield 34, 3) := by decide +kernel
theorem dX5_keepAct_56 : decode cX5_keepAct 56 = .ok (.iload_n 3, 1) := by decide +kernel
theorem dX5_keepAct_57 : decode cX5_keepAct 57 = .ok (.iastore, 1) := by decide +kernel
theorem dX5_keepAct_58 : decode cX5_keepAct 58 = .ok (.return_, 1) := by decide +kernel
theorem dX5_keepPlace_0 : decode cX5_keepPlace 0 = .ok (.aload_n 0, 1) := by decide +kernel
theorem dX5_keepPlace_1 : decode cX5_keepPlace 1 = .ok (.getfield 25, 3) := by decide +kernel
theorem dX5_keepPlace_4 : decode cX5_keepPlace 4 = .ok (.aload_n 0, 1) := by decide +kernel
theorem dX5_keepPlace_5 : decode cX5_keepPlace 5 = .ok (.getfield 34, 3) := by decide +kernel
