theorem dX10_has_44 : decode cX10_has 44 = .ok (.ldc 103, 2) := by decide +kernel
theorem dX10_has_46 : decode cX10_has 46 = .ok (.invokevirtual 82, 3) := by decide +kernel
theorem dX10_has_49 : decode cX10_has 49 = .ok (.ireturn, 1) := by decide +kernel
theorem dX10_has_50 : decode cX10_has 50 = .ok (.aload_n 0, 1) := by decide +kernel
theorem dX10_has_51 : decode cX10_has 51 = .ok (.getfield 35, 3) := by decide +kernel
theorem dX10_has_54 : decode cX10_has 54 = .ok (.iload 4, 2) := by decide +kernel
theorem dX10_has_56 : decode cX10_has 56 = .ok (.iload_n 1, 1) := by decide +kernel
theorem dX10_has_57 : decode cX10_has 57 = .ok (.iload_n 2, 1) := by decide +kernel
theorem dX10_has_58 : decode cX10_has 58 = .ok (.iload_n 3, 1) := by decide +kernel
theorem dX10_has_59 : decode cX10_has 59 = .ok (.invokevirtual 202, 3) := by decide +kernel
theorem dX10_has_62 : decode cX10_has 62 = .ok (.ireturn, 1) := by decide +kernel
set_option maxRecDepth 20000 in
theorem ggX10_fast_X10_isRun : GoodIn wsX10_fast wsX10_isRun := goodIn_r _ [9, 10, 11, 12, 13, 14, 15, 16, 17, 8, 18, 48, 49, 50, 51, 52, 53, 54, 55, 56, 61, 62, 63, 64, 65, 66, 67] (by decide +kernel) (by decide +kernel)
set_option maxRecDepth 20000 in
theorem gX10_fast_X10_isRun : GoodIn wsX10_fast (wsV RX10 196 RX10 yX10_isRun wsX10_isRun) := goodIn_app (goodIn_of _ (by decide +kernel)) ggX10_fast_X10_isRun
set_option maxRecDepth 20000 in
theorem ggX10_fast_X10_isBelow : GoodIn wsX10_fast wsX10_isBelow := goodIn_r _ [18] (by decide +kernel) (by decide +kernel)
set_option maxRecDepth 20000 in
theorem gX10_fast_X10_isBelow : GoodIn wsX10_fast (va_wsS RX10 73 yX10_isBelow wsX10_isBelow) := goodIn_app (goodIn_of _ (by decide +kernel)) ggX10_fast_X10_isBelow
set_option maxRecDepth 20000 in
theorem ggX10_fast_X10_finding : GoodIn wsX10_fast wsX10_finding := goodIn_r _ [23, 24, 48, 49, 50, 51, 52, 53, 54, 55, 56] (by decide +kernel) (by decide +kernel)
set_option maxRecDepth 20000 in
theorem gX10_fast_X10_finding : GoodIn wsX10_fast (wsV RX10 82 RX10 yX10_finding wsX10_finding) := goodIn_app (goodIn_of _ (by decide +kernel)) ggX10_fast_X10_finding
set_option maxRecDepth 20000 in
theorem ggX10_fast_X1_tooFast : GoodIn wsX10_fast wsX1_tooFast := goodIn_r _ [29, 30, 31, 32, 33, 34, 35, 36, 37, 28, 38, 39, 40, 41, 42, 43, 44, 45, 46, 47, 57, 58, 59, 60, 61, 62, 63, 64, 65, 66, 67, 68] (by decide +kernel) (by decide +kernel)
set_option maxRecDepth 20000 in
theorem gX10_fast_X1_tooFast : GoodIn wsX10_fast (wsV RX10 206 RX1 yX1_tooFast wsX1_tooFast) := goodIn_app (goodIn_of _ (by decide +kernel)) ggX10_fast_X1_tooFast
theorem dX10_fast_0 : decode cX10_fast 0 = .ok (.aload_n 0, 1) := by decide +kernel
theorem dX10_fast_1 : decode cX10_fast 1 = .ok (.iload_n 1, 1) := by decide +kernel
theorem dX10_fast_2 : decode cX10_fast 2 = .ok (.iload_n 2, 1) := by decide +kernel
theorem dX10_fast_3 : decode cX10_fast 3 = .ok (.invokevirtual 196, 3) := by decide +kernel
theorem dX10_fast_6 : decode cX10_fast 6 = .ok (.ifCond .eq 11, 3) := by decide +kernel
theorem dX10_fast_9 : decode cX10_fast 9 = .ok (.iload_n 3, 1) := by decide +kernel
theorem dX10_fast_10 : decode cX10_fast 10 = .ok (.iconst 3, 1) := by decide +kernel
theorem dX10_fast_11 : decode cX10_fast 11 = .ok (.invokestatic 73, 3) := by decide +kernel
theorem dX10_fast_14 : decode cX10_fast 14 = .ok (.ifCond .ne 10, 3) := by decide +kernel
theorem dX10_fast_17 : decode cX10_fast 17 = .ok (.aload_n 0, 1) := by decide +kernel
theorem dX10_fast_18 : decode cX10_fast 18 = .ok (.ldc 81, 2) := by decide +kernel
theorem dX10_fast_20 : decode cX10_fast 20 = .ok (.invokevirtual 82, 3) := by decide +kernel
theorem dX10_fast_23 : decode cX10_fast 23 = .ok (.ireturn, 1) := by decide +kernel
theorem dX10_fast_24 : decode cX10_fast 24 = .ok (.aload_n 0, 1) := by decide +kernel
theorem dX10_fast_25 : decode cX10_fast 25 = .ok (.getfield 35, 3) := by decide +kernel
theorem dX10_fast_28 : decode cX10_fast 28 = .ok (.getfield 190, 3) := by decide +kernel
theorem dX10_fast_31 : decode cX10_fast 31 = .ok (.ifCond .ne 10, 3) := by decide +kernel
theorem dX10_fast_34 : decode cX10_fast 34 = .ok (.aload_n 0, 1) := by decide +kernel
theorem dX10_fast_35 : decode cX10_fast 35 = .ok (.ldc 103, 2) := by decide +kernel
theorem dX10_fast_37 : decode cX10_fast 37 = .ok (.invokevirtual 82, 3) := by decide +kernel
theorem dX10_fast_40 : decode cX10_fast 40 = .ok (.ireturn, 1) := by decide +kernel
theorem dX10_fast_41 : decode cX10_fast 41 = .ok (.aload_n 0, 1) := by decide +kernel
theorem dX10_fast_42 : decode cX10_fast 42 = .ok (.getfield 35, 3) := by decide +kernel
theorem dX10_fast_45 : decode cX10_fast 45 = .ok (.iload_n 1, 1) := by decide +kernel
theorem dX10_fast_46 : decode cX10_fast 46 = .ok (.iload_n 2, 1) := by decide +kernel
theorem dX10_fast_47 : decode cX10_fast 47 = .ok (.iload_n 3, 1) := by decide +kernel
theorem dX10_fast_48 : decode cX10_fast 48 = .ok (.invokevirtual 206, 3) := by decide +kernel
theorem dX10_fast_51 : decode cX10_fast 51 = .ok (.ireturn, 1) := by decide +kernel
set_option maxRecDepth 20000 in
theorem ggX10_shape_X10_isRun : GoodIn wsX10_shape wsX10_isRun := goodIn_r _ [9, 10, 11, 12, 13, 14, 15, 16, 17, 8, 18, 51, 52, 53, 54, 55, 56, 57, 58, 59, 64, 65, 66, 67, 68, 69, 70] (by decide +kernel) (by decide +kernel)
set_option maxRecDepth 20000 in
theorem gX10_shape_X10_isRun : GoodIn wsX10_shape (wsV RX10 196 RX10 yX10_isRun wsX10_isRun) := goodIn_app (goodIn_of _ (by decide +kernel)) ggX10_shape_X10_isRun
set_option maxRecDepth 20000 in
theorem ggX10_shape_X10_finding : GoodIn wsX10_shape wsX10_finding := goodIn_r _ [22, 23, 51, 52, 53, 54, 55, 56, 57, 58, 59] (by decide +kernel) (by decide +kernel)
set_option maxRecDepth 20000 in
theorem gX10_shape_X10_finding : GoodIn wsX10_shape (wsV RX10 82 RX10 yX10_finding wsX10_finding) := goodIn_app (goodIn_of _ (by decide +kernel)) ggX10_shape_X10_finding
set_option maxRecDepth 20000 in
theorem ggX10_shape_X1_slowestShape : GoodIn wsX10_shape wsX1_slowestShape := goodIn_r _ [28, 29, 30, 31, 27, 32, 33, 34, 35, 36, 37, 38, 39, 40, 41, 42, 43, 44, 45, 46, 47, 48, 49, 50, 60, 61, 62, 63, 64, 65, 66, 67, 68, 69, 70, 71] (by decide +kernel) (by decide +kernel)
set_option maxRecDepth 20000 in
theorem gX10_shape_X1_slowestShape : GoodIn wsX10_shape (wsV RX10 210 RX1 yX1_slowestShape wsX1_slowestShape) := goodIn_app (goodIn_of _ (by decide +kernel)) ggX10_shape_X1_slowestShape
theorem dX10_shape_0 : decode cX10_shape 0 = .ok (.aload_n 0, 1) := by decide +kernel
theorem dX10_shape_1 : decode cX10_shape 1 = .ok (.iload_n 1, 1) := by decide +kernel
theorem dX10_shape_2 : decode cX10_shape 2 = .ok (.iload_n 2, 1) := by decide +kernel
theorem dX10_shape_3 : decode cX10_shape 3 = .ok (.invokevirtual 196, 3) := by decide +kernel
theorem dX10_shape_6 : decode cX10_shape 6 = .ok (.ifCond .ne 10, 3) := by decide +kernel
theorem dX10_shape_9 : decode cX10_shape 9 = .ok (.aload_n 0, 1) := by decide +kernel
theorem dX10_shape_10 : decode cX10_shape 10 = .ok (.ldc 81, 2) := by decide +kernel
theorem dX10_shape_12 : decode cX10_shape 12 = .ok (.invokevirtual 82, 3) := by decide +kernel
theorem dX10_shape_15 : decode cX10_shape 15 = .ok (.ireturn, 1) := by decide +kernel
theorem dX10_shape_16 : decode cX10_shape 16 = .ok (.aload_n 0, 1) := by decide +kernel
theorem dX10_shape_17 : decode cX10_shape 17 = .ok (.getfield 35, 3) := by decide +kernel
theorem dX10_shape_20 : decode cX10_shape 20 = .ok (.getfield 190, 3) := by decide +kernel
theorem dX10_shape_23 : decode cX10_shape 23 = .ok (.ifCond .ne 10, 3) := by decide +kernel
theorem dX10_shape_26 : decode cX10_shape 26 = .ok (.aload_n 0, 1) := by decide +kernel
theorem dX10_shape_27 : decode cX10_shape 27 = .ok (.ldc 103, 2) := by decide +kernel
theorem dX10_shape_29 : decode cX10_shape 29 = .ok (.invokevirtual 82, 3) := by decide +kernel
theorem dX10_shape_32 : decode cX10_shape 32 = .ok (.ireturn, 1) := by decide +kernel
theorem dX10_shape_33 : decode cX10_shape 33 = .ok (.aload_n 0, 1) := by decide +kernel
theorem dX10_shape_34 : decode cX10_shape 34 = .ok (.getfield 35, 3) := by decide +kernel
theorem dX10_shape_37 : decode cX10_shape 37 = .ok (.iload_n 1, 1) := by decide +kernel
theorem dX10_shape_38 : decode cX10_shape 38 = .ok (.iload_n 2, 1) := by decide +kernel
theorem dX10_shape_39 : decode cX10_shape 39 = .ok (.invokevirtual 210, 3) := by decide +kernel
theorem dX10_shape_42 : decode cX10_shape 42 = .ok (.ireturn, 1) := by decide +kernel
set_option maxRecDepth 20000 in
theorem ggX10_hit_X10_isBelow : GoodIn wsX10_hit wsX10_isBelow := goodIn_r _ [9] (by decide +kernel) (by decide +kernel)
set_option maxRecDepth 20000 in
theorem gX10_hit_X10_isBelow : GoodIn wsX10_hit (va_wsS RX10 73 yX10_isBelow wsX10_isBelow) := goodIn_app (goodIn_of _ (by decide +kernel)) ggX10_hit_X10_isBelow
set_option maxRecDepth 20000 in
theorem ggX10_hit_X10_isTick : GoodIn wsX10_hit wsX10_isTick := goodIn_r _ [12] (by decide +kernel) (by decide +kernel)
set_option maxRecDepth 20000 in
theorem gX10_hit_X10_isTick : GoodIn wsX10_hit (va_wsS RX10 77 yX10_isTick wsX10_isTick) := goodIn_app (goodIn_of _ (by decide +kernel)) ggX10_hit_X10_isTick
set_option maxRecDepth 20000 in
theorem ggX10_hit_X10_finding : GoodIn wsX10_hit wsX10_finding := goodIn_r _ [16, 17, 59, 60, 61, 62, 63, 64, 65, 66, 67] (by decide +kernel) (by decide +kernel)
set_option maxRecDepth 20000 in
theorem gX10_hit_X10_finding : GoodIn wsX10_hit (wsV RX10 82 RX10 yX10_finding wsX10_finding) := goodIn_app (goodIn_of _ (by decide +kernel)) ggX10_hit_X10_finding
set_option maxRecDepth 20000 in
theorem ggX10_hit_X9_latestTick : GoodIn wsX10_hit wsX9_latestTick := goodIn_r _ [22, 23, 24, 25, 26, 21, 27, 28, 68, 69] (by decide +kernel) (by decide +kernel)
set_option maxRecDepth 20000 in
theorem gX10_hit_X9_latestTick : GoodIn wsX10_hit (wsV RX10 213 RX9 yX9_latestTick wsX9_latestTick) := goodIn_app (goodIn_of _ (by decide +kernel)) ggX10_hit_X9_latestTick
set_option maxRecDepth 20000 in
theorem ggX10_hit_X10_keep : GoodIn wsX10_hit wsX10_keep := goodIn_r _ [32, 33, 34, 35, 36, 37, 38, 39, 40, 41, 42, 43, 44, 45, 46, 47, 48, 49, 50, 51, 52, 53, 54, 59, 60, 61, 62, 63, 64, 65, 66, 67, 70, 71, 72, 73, 74, 75, 76, 77, 78, 79, 80, 81, 82, 83, 84, 85, 86, 87, 88] (by decide +kernel) (by decide +kernel)
set_option maxRecDepth 20000 in
theorem gX10_hit_X10_keep : GoodIn wsX10_hit (wsV RX10 95 RX10 yX10_keep wsX10_keep) := goodIn_app (goodIn_of _ (by decide +kernel)) ggX10_hit_X10_keep
set_option maxRecDepth 20000 in
theorem ggX10_hit_X9_append : GoodIn wsX10_hit wsX9_append := goodIn_r _ [58, 23, 28, 68, 69] (by decide +kernel) (by decide +kernel)
set_option maxRecDepth 20000 in
theorem gX10_hit_X9_append : GoodIn wsX10_hit (wsV RX10 218 RX9 yX9_append wsX9_append) := goodIn_app (goodIn_of _ (by decide +kernel)) ggX10_hit_X9_append
theorem dX10_hit_0 : decode cX10_hit 0 = .ok (.iload_n 1, 1) := by decide +kernel
theorem dX10_hit_1 : decode cX10_hit 1 = .ok (.iconst 4, 1) := by decide +kernel
theorem dX10_hit_2 : decode cX10_hit 2 = .ok (.invokestatic 73, 3) := by decide +kernel
theorem dX10_hit_5 : decode cX10_hit 5 = .ok (.ifCond .eq 10, 3) := by decide +kernel
theorem dX10_hit_8 : decode cX10_hit 8 = .ok (.iload_n 2, 1) := by decide +kernel
theorem dX10_hit_9 : decode cX10_hit 9 = .ok (.invokestatic 77, 3) := by decide +kernel
theorem dX10_hit_12 : decode cX10_hit 12 = .ok (.ifCond .ne 10, 3) := by decide +kernel
theorem dX10_hit_15 : decode cX10_hit 15 = .ok (.aload_n 0, 1) := by decide +kernel
theorem dX10_hit_16 : decode cX10_hit 16 = .ok (.ldc 81, 2) := by decide +kernel
theorem dX10_hit_18 : decode cX10_hit 18 = .ok (.invokevirtual 82, 3) := by decide +kernel
theorem dX10_hit_21 : decode cX10_hit 21 = .ok (.ireturn, 1) := by decide +kernel
theorem dX10_hit_22 : decode cX10_hit 22 = .ok (.iload_n 2, 1) := by decide +kernel
theorem dX10_hit_23 : decode cX10_hit 23 = .ok (.aload_n 0, 1) := by decide +kernel
theorem dX10_hit_24 : decode cX10_hit 24 = .ok (.getfield 42, 3) := by decide +kernel
theorem dX10_hit_27 : decode cX10_hit 27 = .ok (.iload_n 1, 1) := by decide +kernel
theorem dX10_hit_28 : decode cX10_hit 28 = .ok (.invokevirtual 213, 3) := by decide +kernel
theorem dX10_hit_31 : decode cX10_hit 31 = .ok (.if_icmp .ge 10, 3) := by decide +kernel
theorem dX10_hit_34 : decode cX10_hit 34 = .ok (.aload_n 0, 1) := by decide +kernel
theorem dX10_hit_35 : decode cX10_hit 35 = .ok (.ldc 90, 2) := by decide +kernel
theorem dX10_hit_37 : decode cX10_hit 37 = .ok (.invokevirtual 82, 3) := by decide +kernel
theorem dX10_hit_40 : decode cX10_hit 40 = .ok (.ireturn, 1) := by decide +kernel
theorem dX10_hit_41 : decode cX10_hit 41 = .ok (.aload_n 0, 1) := by decide +kernel
theorem dX10_hit_42 : decode cX10_hit 42 = .ok (.getfield 42, 3) := by decide +kernel
theorem dX10_hit_45 : decode cX10_hit 45 = .ok (.getfield 215, 3) := by decide +kernel
theorem dX10_hit_48 : decode cX10_hit 48 = .ok (.iload_n 1, 1) := by decide +kernel
theorem dX10_hit_49 : decode cX10_hit 49 = .ok (.iaload, 1) := by decide +kernel
theorem dX10_hit_50 : decode cX10_hit 50 = .ok (.bipush 24, 2) := by decide +kernel
theorem dX10_hit_52 : decode cX10_hit 52 = .ok (.if_icmp .lt 10, 3) := by decide +kernel
theorem dX10_hit_55 : decode cX10_hit 55 = .ok (.aload_n 0, 1) := by decide +kernel
theorem dX10_hit_56 : decode cX10_hit 56 = .ok (.ldc 94, 2) := by decide +kernel
theorem dX10_hit_58 : decode cX10_hit 58 = .ok (.invokevirtual 82, 3) := by decide +kernel
theorem dX10_hit_61 : decode cX10_hit 61 = .ok (.ireturn, 1) := by decide +kernel
theorem dX10_hit_62 : decode cX10_hit 62 = .ok (.aload_n 0, 1) := by decide +kernel
theorem dX10_hit_63 : decode cX10_hit 63 = .ok (.iconst 5, 1) := by decide +kernel
theorem dX10_hit_64 : decode cX10_hit 64 = .ok (.iload_n 1, 1) := by decide +kernel
theorem dX10_hit_65 : decode cX10_hit 65 = .ok (.iconst 0, 1) := by decide +kernel
theorem dX10_hit_66 : decode cX10_hit 66 = .ok (.invokevirtual 95, 3) := by decide +kernel
theorem dX10_hit_69 : decode cX10_hit 69 = .ok (.aload_n 0, 1) := by decide +kernel
theorem dX10_hit_70 : decode cX10_hit 70 = .ok (.getfield 42, 3) := by decide +kernel
theorem dX10_hit_73 : decode cX10_hit 73 = .ok (.iload_n 1, 1) := by decide +kernel
theorem dX10_hit_74 : decode cX10_hit 74 = .ok (.iload_n 2, 1) := by decide +kernel
theorem dX10_hit_75 : decode cX10_hit 75 = .ok (.invokevirtual 218, 3) := by decide +kernel
theorem dX10_hit_78 : decode cX10_hit 78 = .ok (.aload_n 0, 1) := by decide +kernel
theorem dX10_hit_79 : decode cX10_hit 79 = .ok (.getfield 42, 3) := by decide +kernel
theorem dX10_hit_82 : decode cX10_hit 82 = .ok (.getfield 215, 3) := by decide +kernel
theorem dX10_hit_85 : decode cX10_hit 85 = .ok (.iload_n 1, 1) := by decide +kernel
theorem dX10_hit_86 : decode cX10_hit 86 = .ok (.iaload, 1) := by decide +kernel
theorem dX10_hit_87 : decode cX10_hit 87 = .ok (.ireturn, 1) := by decide +kernel
set_option maxRecDepth 20000 in
theorem ggX10_wipe_X10_isBelow : GoodIn wsX10_wipe wsX10_isBelow := goodIn_r _ [7] (by decide +kernel) (by decide +kernel)
set_option maxRecDepth 20000 in
theorem gX10_wipe_X10_isBelow : GoodIn wsX10_wipe (va_wsS RX10 73 yX10_isBelow wsX10_isBelow) := goodIn_app (goodIn_of _ (by decide +kernel)) ggX10_wipe_X10_isBelow
set_option maxRecDepth 20000 in
theorem ggX10_wipe_X10_finding : GoodIn wsX10_wipe wsX10_finding := goodIn_r _ [11, 12, 60, 61, 62, 63, 64, 65, 66, 67, 68] (by decide +kernel) (by decide +kernel)
set_option maxRecDepth 20000 in
theorem gX10_wipe_X10_finding : GoodIn wsX10_wipe (wsV RX10 82 RX10 yX10_finding wsX10_finding) := goodIn_app (goodIn_of _ (by decide +kernel)) ggX10_wipe_X10_finding
set_option maxRecDepth 20000 in
theorem ggX10_wipe_X10_keepTape : GoodIn wsX10_wipe wsX10_keepTape := goodIn_r _ [16, 2, 3, 17, 18, 19, 20, 6, 21, 22, 23, 24, 25, 26, 27, 28, 29, 30, 31, 32, 33, 34, 35, 36, 37, 38, 39, 40, 41, 42, 43, 44, 45, 46, 47, 48, 49, 50, 51, 52, 53, 54, 60, 61, 62, 63, 64, 65, 66, 67, 68, 69, 70, 71, 72, 73, 74, 75, 76, 77, 78, 79, 80, 81, 82, 83, 84, 85, 86, 87, 88, 89] (by decide +kernel) (by decide +kernel)
set_option maxRecDepth 20000 in
theorem gX10_wipe_X10_keepTape : GoodIn wsX10_wipe (wsV RX10 220 RX10 yX10_keepTape wsX10_keepTape) := goodIn_app (goodIn_of _ (by decide +kernel)) ggX10_wipe_X10_keepTape
set_option maxRecDepth 20000 in
theorem ggX10_wipe_X9_clear : GoodIn wsX10_wipe wsX9_clear := goodIn_r _ [58, 59, 69, 70] (by decide +kernel) (by decide +kernel)
set_option maxRecDepth 20000 in
theorem gX10_wipe_X9_clear : GoodIn wsX10_wipe (wsV RX10 224 RX9 yX9_clear wsX9_clear) := goodIn_app (goodIn_of _ (by decide +kernel)) ggX10_wipe_X9_clear
theorem dX10_wipe_0 : decode cX10_wipe 0 = .ok (.iload_n 1, 1) := by decide +kernel
theorem dX10_wipe_1 : decode cX10_wipe 1 = .ok (.iconst 4, 1) := by decide +kernel
theorem dX10_wipe_2 : decode cX10_wipe 2 = .ok (.invokestatic 73, 3) := by decide +kernel
theorem dX10_wipe_5 : decode cX10_wipe 5 = .ok (.ifCond .ne 10, 3) := by decide +kernel
theorem dX10_wipe_8 : decode cX10_wipe 8 = .ok (.aload_n 0, 1) := by decide +kernel
theorem dX10_wipe_9 : decode cX10_wipe 9 = .ok (.ldc 81, 2) := by decide +kernel
theorem dX10_wipe_11 : decode cX10_wipe 11 = .ok (.invokevirtual 82, 3) := by decide +kernel
theorem dX10_wipe_14 : decode cX10_wipe 14 = .ok (.ireturn, 1) := by decide +kernel
theorem dX10_wipe_15 : decode cX10_wipe 15 = .ok (.aload_n 0, 1) := by decide +kernel
theorem dX10_wipe_16 : decode cX10_wipe 16 = .ok (.getfield 42, 3) := by decide +kernel
theorem dX10_wipe_19 : decode cX10_wipe 19 = .ok (.getfield 215, 3) := by decide +kernel
theorem dX10_wipe_22 : decode cX10_wipe 22 = .ok (.iload_n 1, 1) := by decide +kernel
theorem dX10_wipe_23 : decode cX10_wipe 23 = .ok (.iaload, 1) := by decide +kernel
theorem dX10_wipe_24 : decode cX10_wipe 24 = .ok (.istore_n 2, 1) := by decide +kernel
theorem dX10_wipe_25 : decode cX10_wipe 25 = .ok (.aload_n 0, 1) := by decide +kernel
theorem dX10_wipe_26 : decode cX10_wipe 26 = .ok (.iload_n 1, 1) := by decide +kernel
theorem dX10_wipe_27 : decode cX10_wipe 27 = .ok (.invokevirtual 220, 3) := by decide +kernel
theorem dX10_wipe_30 : decode cX10_wipe 30 = .ok (.aload_n 0, 1) := by decide +kernel
theorem dX10_wipe_31 : decode cX10_wipe 31 = .ok (.getfield 42, 3) := by decide +kernel
theorem dX10_wipe_34 : decode cX10_wipe 34 = .ok (.iload_n 1, 1) := by decide +kernel
theorem dX10_wipe_35 : decode cX10_wipe 35 = .ok (.invokevirtual 224, 3) := by decide +kernel
theorem dX10_wipe_38 : decode cX10_wipe 38 = .ok (.iload_n 2, 1) := by decide +kernel
theorem dX10_wipe_39 : decode cX10_wipe 39 = .ok (.ireturn, 1) := by decide +kernel
set_option maxRecDepth 20000 in
theorem ggX10_price_X10_isBelow : GoodIn wsX10_price wsX10_isBelow := goodIn_r _ [6] (by decide +kernel) (by decide +kernel)
set_option maxRecDepth 20000 in
theorem gX10_price_X10_isBelow : GoodIn wsX10_price (va_wsS RX10 73 yX10_isBelow wsX10_isBelow) := goodIn_app (goodIn_of _ (by decide +kernel)) ggX10_price_X10_isBelow
set_option maxRecDepth 20000 in
theorem ggX10_price_X10_finding : GoodIn wsX10_price wsX10_finding := goodIn_r _ [10, 11, 61, 62, 63, 64, 65, 66, 67, 68, 69] (by decide +kernel) (by decide +kernel)
set_option maxRecDepth 20000 in
theorem gX10_price_X10_finding : GoodIn wsX10_price (wsV RX10 82 RX10 yX10_finding wsX10_finding) := goodIn_app (goodIn_of _ (by decide +kernel)) ggX10_price_X10_finding
set_option maxRecDepth 20000 in
theorem ggX10_price_X6_find : GoodIn wsX10_price wsX6_find := goodIn_r _ [16, 17, 18, 19, 20, 21, 22, 23, 24, 25, 15, 26, 27, 28, 29, 30, 31, 32, 33, 34, 35, 36, 37, 38, 39, 40, 41, 42, 43, 44, 45, 46, 47, 48, 49, 50, 51, 52, 53, 54, 55, 56, 70, 71, 72, 73, 74, 75, 76, 77, 78, 79, 80, 81, 82, 83, 84, 85, 86] (by decide +kernel) (by decide +kernel)
set_option maxRecDepth 20000 in
theorem gX10_price_X6_find : GoodIn wsX10_price (wsV RX10 227 RX6 yX6_find wsX6_find) := goodIn_app (goodIn_of _ (by decide +kernel)) ggX10_price_X6_find
set_option maxRecDepth 20000 in
theorem ggX10_price_X6_leastPrice : GoodIn wsX10_price wsX6_leastPrice := goodIn_r _ [60, 22, 70, 71, 72, 73, 74, 75, 76] (by decide +kernel) (by decide +kernel)
set_option maxRecDepth 20000 in
theorem gX10_price_X6_leastPrice : GoodIn wsX10_price (wsV RX10 230 RX6 yX6_leastPrice wsX6_leastPrice) := goodIn_app (goodIn_of _ (by decide +kernel)) ggX10_price_X6_leastPrice
theorem dX10_price_0 : decode cX10_price 0 = .ok (.iload_n 1, 1) := by decide +kernel
theorem dX10_price_1 : decode cX10_price 1 = .ok (.iconst 4, 1) := by decide +kernel
theorem dX10_price_2 : decode cX10_price 2 = .ok (.invokestatic 73, 3) := by decide +kernel
theorem dX10_price_5 : decode cX10_price 5 = .ok (.ifCond .ne 10, 3) := by decide +kernel
theorem dX10_price_8 : decode cX10_price 8 = .ok (.aload_n 0, 1) := by decide +kernel
theorem dX10_price_9 : decode cX10_price 9 = .ok (.ldc 81, 2) := by decide +kernel
theorem dX10_price_11 : decode cX10_price 11 = .ok (.invokevirtual 82, 3) := by decide +kernel
theorem dX10_price_14 : decode cX10_price 14 = .ok (.ireturn, 1) := by decide +kernel
theorem dX10_price_15 : decode cX10_price 15 = .ok (.aload_n 0, 1) := by decide +kernel
theorem dX10_price_16 : decode cX10_price 16 = .ok (.getfield 51, 3) := by decide +kernel
theorem dX10_price_19 : decode cX10_price 19 = .ok (.iload_n 1, 1) := by decide +kernel
theorem dX10_price_20 : decode cX10_price 20 = .ok (.invokevirtual 227, 3) := by decide +kernel
theorem dX10_price_23 : decode cX10_price 23 = .ok (.aload_n 0, 1) := by decide +kernel
theorem dX10_price_24 : decode cX10_price 24 = .ok (.getfield 51, 3) := by decide +kernel
theorem dX10_price_27 : decode cX10_price 27 = .ok (.invokevirtual 230, 3) := by decide +kernel
theorem dX10_price_30 : decode cX10_price 30 = .ok (.ireturn, 1) := by decide +kernel
set_option maxRecDepth 20000 in
theorem ggX10_read_X10_isBelow : GoodIn wsX10_read wsX10_isBelow := goodIn_r _ [9] (by decide +kernel) (by decide +kernel)
set_option maxRecDepth 20000 in
theorem gX10_read_X10_isBelow : GoodIn wsX10_read (va_wsS RX10 73 yX10_isBelow wsX10_isBelow) := goodIn_app (goodIn_of _ (by decide +kernel)) ggX10_read_X10_isBelow
set_option maxRecDepth 20000 in
theorem ggX10_read_X4_hasNote : GoodIn wsX10_read wsX4_hasNote := goodIn_r _ [14, 15, 7, 8, 9, 82, 83, 84, 85, 86, 87, 88] (by decide +kernel) (by decide +kernel)
set_option maxRecDepth 20000 in
theorem gX10_read_X4_hasNote : GoodIn wsX10_read (wsV RX10 124 RX4 yX4_hasNote wsX4_hasNote) := goodIn_app (goodIn_of _ (by decide +kernel)) ggX10_read_X4_hasNote
set_option maxRecDepth 20000 in
theorem ggX10_read_X10_finding : GoodIn wsX10_read wsX10_finding := goodIn_r _ [19, 20, 66, 67, 68, 69, 70, 71, 72, 73, 74] (by decide +kernel) (by decide +kernel)
set_option maxRecDepth 20000 in
theorem gX10_read_X10_finding : GoodIn wsX10_read (wsV RX10 82 RX10 yX10_finding wsX10_finding) := goodIn_app (goodIn_of _ (by decide +kernel)) ggX10_read_X10_finding
set_option maxRecDepth 20000 in
theorem ggX10_read_X6_find : GoodIn wsX10_read wsX6_find := goodIn_r _ [25, 26, 27, 28, 29, 30, 31, 32, 33, 34, 24, 35, 36, 37, 38, 39, 40, 41, 42, 43, 44, 45, 46, 47, 48, 49, 50, 51, 52, 53, 54, 55, 56, 57, 58, 59, 60, 61, 62, 63, 64, 65, 75, 76, 77, 78, 79, 80, 81, 89, 90, 82, 83, 84, 85, 86, 87, 88, 91] (by decide +kernel) (by decide +kernel)
set_option maxRecDepth 20000 in
theorem gX10_read_X6_find : GoodIn wsX10_read (wsV RX10 227 RX6 yX6_find wsX6_find) := goodIn_app (goodIn_of _ (by decide +kernel)) ggX10_read_X6_find
theorem dX10_read_0 : decode cX10_read 0 = .ok (.iload_n 1, 1) := by decide +kernel
theorem dX10_read_1 : decode cX10_read 1 = .ok (.iconst 4, 1) := by decide +kernel
theorem dX10_read_2 : decode cX10_read 2 = .ok (.invokestatic 73, 3) := by decide +kernel
theorem dX10_read_5 : decode cX10_read 5 = .ok (.ifCond .eq 14, 3) := by decide +kernel
theorem dX10_read_8 : decode cX10_read 8 = .ok (.aload_n 0, 1) := by decide +kernel
theorem dX10_read_9 : decode cX10_read 9 = .ok (.getfield 19, 3) := by decide +kernel
theorem dX10_read_12 : decode cX10_read 12 = .ok (.iload_n 2, 1) := by decide +kernel
theorem dX10_read_13 : decode cX10_read 13 = .ok (.invokevirtual 124, 3) := by decide +kernel
theorem dX10_read_16 : decode cX10_read 16 = .ok (.ifCond .ne 10, 3) := by decide +kernel
theorem dX10_read_19 : decode cX10_read 19 = .ok (.aload_n 0, 1) := by decide +kernel
theorem dX10_read_20 : decode cX10_read 20 = .ok (.ldc 81, 2) := by decide +kernel
theorem dX10_read_22 : decode cX10_read 22 = .ok (.invokevirtual 82, 3) := by decide +kernel
theorem dX10_read_25 : decode cX10_read 25 = .ok (.ireturn, 1) := by decide +kernel
theorem dX10_read_26 : decode cX10_read 26 = .ok (.aload_n 0, 1) := by decide +kernel
theorem dX10_read_27 : decode cX10_read 27 = .ok (.getfield 51, 3) := by decide +kernel
theorem dX10_read_30 : decode cX10_read 30 = .ok (.iload_n 1, 1) := by decide +kernel
theorem dX10_read_31 : decode cX10_read 31 = .ok (.invokevirtual 227, 3) := by decide +kernel
theorem dX10_read_34 : decode cX10_read 34 = .ok (.aload_n 0, 1) := by decide +kernel
theorem dX10_read_35 : decode cX10_read 35 = .ok (.getfield 51, 3) := by decide +kernel
theorem dX10_read_38 : decode cX10_read 38 = .ok (.getfield 232, 3) := by decide +kernel
theorem dX10_read_41 : decode cX10_read 41 = .ok (.iload_n 2, 1) := by decide +kernel
theorem dX10_read_42 : decode cX10_read 42 = .ok (.iaload, 1) := by decide +kernel
theorem dX10_read_43 : decode cX10_read 43 = .ok (.istore_n 3, 1) := by decide +kernel
theorem dX10_read_44 : decode cX10_read 44 = .ok (.iload_n 3, 1) := by decide +kernel
theorem dX10_read_45 : decode cX10_read 45 = .ok (.iconst (-1), 1) := by decide +kernel
theorem dX10_read_46 : decode cX10_read 46 = .ok (.if_icmp .ne 12, 3) := by decide +kernel
theorem dX10_read_49 : decode cX10_read 49 = .ok (.aload_n 0, 1) := by decide +kernel
theorem dX10_read_50 : decode cX10_read 50 = .ok (.ldc 103, 2) := by decide +kernel
theorem dX10_read_52 : decode cX10_read 52 = .ok (.invokevirtual 82, 3) := by decide +kernel
theorem dX10_read_55 : decode cX10_read 55 = .ok (.goto 4, 3) := by decide +kernel
theorem dX10_read_58 : decode cX10_read 58 = .ok (.iload_n 3, 1) := by decide +kernel
theorem dX10_read_59 : decode cX10_read 59 = .ok (.ireturn, 1) := by decide +kernel
set_option maxRecDepth 20000 in
theorem ggX10_late_X10_isBelow : GoodIn wsX10_late wsX10_isBelow := goodIn_r _ [11] (by decide +kernel) (by decide +kernel)
set_option maxRecDepth 20000 in
theorem gX10_late_X10_isBelow : GoodIn wsX10_late (va_wsS RX10 73 yX10_isBelow wsX10_isBelow) := goodIn_app (goodIn_of _ (by decide +kernel)) ggX10_late_X10_isBelow
set_option maxRecDepth 20000 in
theorem ggX10_late_X4_hasNote : GoodIn wsX10_late wsX4_hasNote := goodIn_r _ [16, 17, 9, 10, 11, 85, 86, 87, 88, 89, 90, 91] (by decide +kernel) (by decide +kernel)
set_option maxRecDepth 20000 in
theorem gX10_late_X4_hasNote : GoodIn wsX10_late (wsV RX10 124 RX4 yX4_hasNote wsX4_hasNote) := goodIn_app (goodIn_of _ (by decide +kernel)) ggX10_late_X4_hasNote
set_option maxRecDepth 20000 in
theorem ggX10_late_X10_finding : GoodIn wsX10_late wsX10_finding := goodIn_r _ [21, 22, 69, 70, 71, 72, 73, 74, 75, 76, 77] (by decide +kernel) (by decide +kernel)
set_option maxRecDepth 20000 in
theorem gX10_late_X10_finding : GoodIn wsX10_late (wsV RX10 82 RX10 yX10_finding wsX10_finding) := goodIn_app (goodIn_of _ (by decide +kernel)) ggX10_late_X10_finding
set_option maxRecDepth 20000 in
theorem ggX10_late_X6_find : GoodIn wsX10_late wsX6_find := goodIn_r _ [27, 28, 29, 30, 31, 32, 33, 34, 35, 36, 26, 37, 38, 39, 40, 41, 42, 43, 44, 45, 46, 47, 48, 49, 50, 51, 52, 53, 54, 55, 56, 57, 58, 59, 60, 61, 62, 63, 64, 65, 66, 67, 78, 79, 80, 81, 82, 83, 84, 92, 93, 85, 86, 87, 88, 89, 90, 91, 94] (by decide +kernel) (by decide +kernel)
set_option maxRecDepth 20000 in
theorem gX10_late_X6_find : GoodIn wsX10_late (wsV RX10 227 RX6 yX6_find wsX6_find) := goodIn_app (goodIn_of _ (by decide +kernel)) ggX10_late_X6_find
set_option maxRecDepth 20000 in
theorem ggX10_late_X9_tickAt : GoodIn wsX10_late wsX9_tickAt := goodIn_r _ [56, 57, 92, 93] (by decide +kernel) (by decide +kernel)
set_option maxRecDepth 20000 in
theorem gX10_late_X9_tickAt : GoodIn wsX10_late (wsV RX10 235 RX9 yX9_tickAt wsX9_tickAt) := goodIn_app (goodIn_of _ (by decide +kernel)) ggX10_late_X9_tickAt
theorem dX10_late_0 : decode cX10_late 0 = .ok (.iload_n 1, 1) := by decide +kernel
theorem dX10_late_1 : decode cX10_late 1 = .ok (.iconst 4, 1) := by decide +kernel
theorem dX10_late_2 : decode cX10_late 2 = .ok (.invokestatic 73, 3) := by decide +kernel
theorem dX10_late_5 : decode cX10_late 5 = .ok (.ifCond .eq 14, 3) := by decide +kernel
theorem dX10_late_8 : decode cX10_late 8 = .ok (.aload_n 0, 1) := by decide +kernel
theorem dX10_late_9 : decode cX10_late 9 = .ok (.getfield 19, 3) := by decide +kernel
theorem dX10_late_12 : decode cX10_late 12 = .ok (.iload_n 2, 1) := by decide +kernel
theorem dX10_late_13 : decode cX10_late 13 = .ok (.invokevirtual 124, 3) := by decide +kernel
theorem dX10_late_16 : decode cX10_late 16 = .ok (.ifCond .ne 10, 3) := by decide +kernel
theorem dX10_late_19 : decode cX10_late 19 = .ok (.aload_n 0, 1) := by decide +kernel
theorem dX10_late_20 : decode cX10_late 20 = .ok (.ldc 81, 2) := by decide +kernel
theorem dX10_late_22 : decode cX10_late 22 = .ok (.invokevirtual 82, 3) := by decide +kernel
theorem dX10_late_25 : decode cX10_late 25 = .ok (.ireturn, 1) := by decide +kernel
theorem dX10_late_26 : decode cX10_late 26 = .ok (.aload_n 0, 1) := by decide +kernel
theorem dX10_late_27 : decode cX10_late 27 = .ok (.getfield 51, 3) := by decide +kernel
theorem dX10_late_30 : decode cX10_late 30 = .ok (.iload_n 1, 1) := by decide +kernel
theorem dX10_late_31 : decode cX10_late 31 = .ok (.invokevirtual 227, 3) := by decide +kernel
theorem dX10_late_34 : decode cX10_late 34 = .ok (.aload_n 0, 1) := by decide +kernel
theorem dX10_late_35 : decode cX10_late 35 = .ok (.getfield 51, 3) := by decide +kernel
theorem dX10_late_38 : decode cX10_late 38 = .ok (.getfield 232, 3) := by decide +kernel
theorem dX10_late_41 : decode cX10_late 41 = .ok (.iload_n 2, 1) := by decide +kernel
theorem dX10_late_42 : decode cX10_late 42 = .ok (.iaload, 1) := by decide +kernel
theorem dX10_late_43 : decode cX10_late 43 = .ok (.istore_n 3, 1) := by decide +kernel
theorem dX10_late_44 : decode cX10_late 44 = .ok (.iload_n 3, 1) := by decide +kernel
theorem dX10_late_45 : decode cX10_late 45 = .ok (.iconst (-1), 1) := by decide +kernel
theorem dX10_late_46 : decode cX10_late 46 = .ok (.if_icmp .ne 10, 3) := by decide +kernel
theorem dX10_late_49 : decode cX10_late 49 = .ok (.aload_n 0, 1) := by decide +kernel
theorem dX10_late_50 : decode cX10_late 50 = .ok (.ldc 103, 2) := by decide +kernel
theorem dX10_late_52 : decode cX10_late 52 = .ok (.invokevirtual 82, 3) := by decide +kernel
theorem dX10_late_55 : decode cX10_late 55 = .ok (.ireturn, 1) := by decide +kernel
theorem dX10_late_56 : decode cX10_late 56 = .ok (.aload_n 0, 1) := by decide +kernel
theorem dX10_late_57 : decode cX10_late 57 = .ok (.getfield 42, 3) := by decide +kernel
theorem dX10_late_60 : decode cX10_late 60 = .ok (.iload_n 1, 1) := by decide +kernel
theorem dX10_late_61 : decode cX10_late 61 = .ok (.iload_n 3, 1) := by decide +kernel
theorem dX10_late_62 : decode cX10_late 62 = .ok (.invokevirtual 235, 3) := by decide +kernel
theorem dX10_late_65 : decode cX10_late 65 = .ok (.aload_n 0, 1) := by decide +kernel
theorem dX10_late_66 : decode cX10_late 66 = .ok (.getfield 19, 3) := by decide +kernel
theorem dX10_late_69 : decode cX10_late 69 = .ok (.getfield 111, 3) := by decide +kernel
theorem dX10_late_72 : decode cX10_late 72 = .ok (.iload_n 2, 1) := by decide +kernel
theorem dX10_late_73 : decode cX10_late 73 = .ok (.iaload, 1) := by decide +kernel
theorem dX10_late_74 : decode cX10_late 74 = .ok (.isub, 1) := by decide +kernel
theorem dX10_late_75 : decode cX10_late 75 = .ok (.ireturn, 1) := by decide +kernel
set_option maxRecDepth 20000 in
theorem ggX10_missed_X10_isBelow : GoodIn wsX10_missed wsX10_isBelow := goodIn_r _ [11] (by decide +kernel) (by decide +kernel)
set_option maxRecDepth 20000 in
theorem gX10_missed_X10_isBelow : GoodIn wsX10_missed (va_wsS RX10 73 yX10_isBelow wsX10_isBelow) := goodIn_app (goodIn_of _ (by decide +kernel)) ggX10_missed_X10_isBelow
set_option maxRecDepth 20000 in
theorem ggX10_missed_X10_finding : GoodIn wsX10_missed wsX10_finding := goodIn_r _ [15, 16, 62, 63, 64, 65, 66, 67, 68, 69, 70] (by decide +kernel) (by decide +kernel)
set_option maxRecDepth 20000 in
theorem gX10_missed_X10_finding : GoodIn wsX10_missed (wsV RX10 82 RX10 yX10_finding wsX10_finding) := goodIn_app (goodIn_of _ (by decide +kernel)) ggX10_missed_X10_finding
set_option maxRecDepth 20000 in
theorem ggX10_missed_X6_find : GoodIn wsX10_missed wsX6_find := goodIn_r _ [21, 22, 23, 24, 25, 26, 27, 28, 29, 30, 20, 31, 32, 33, 34, 35, 36, 37, 38, 39, 40, 41, 42, 43, 44, 45, 46, 47, 48, 49, 50, 51, 52, 53, 54, 55, 56, 57, 58, 59, 60, 61, 80, 81, 82, 83, 84, 85, 86, 71, 72, 73, 74, 75, 76, 77, 78, 79, 87] (by decide +kernel) (by decide +kernel)
set_option maxRecDepth 20000 in
theorem gX10_missed_X6_find : GoodIn wsX10_missed (wsV RX10 227 RX6 yX6_find wsX6_find) := goodIn_app (goodIn_of _ (by decide +kernel)) ggX10_missed_X6_find
theorem dX10_missed_0 : decode cX10_missed 0 = .ok (.iload_n 1, 1) := by decide +kernel
theorem dX10_missed_1 : decode cX10_missed 1 = .ok (.iconst 4, 1) := by decide +kernel
theorem dX10_missed_2 : decode cX10_missed 2 = .ok (.invokestatic 73, 3) := by decide +kernel
theorem dX10_missed_5 : decode cX10_missed 5 = .ok (.ifCond .ne 10, 3) := by decide +kernel
theorem dX10_missed_8 : decode cX10_missed 8 = .ok (.aload_n 0, 1) := by decide +kernel
theorem dX10_missed_9 : decode cX10_missed 9 = .ok (.ldc 81, 2) := by decide +kernel
theorem dX10_missed_11 : decode cX10_missed 11 = .ok (.invokevirtual 82, 3) := by decide +kernel
theorem dX10_missed_14 : decode cX10_missed 14 = .ok (.ireturn, 1) := by decide +kernel
theorem dX10_missed_15 : decode cX10_missed 15 = .ok (.aload_n 0, 1) := by decide +kernel
theorem dX10_missed_16 : decode cX10_missed 16 = .ok (.getfield 51, 3) := by decide +kernel
theorem dX10_missed_19 : decode cX10_missed 19 = .ok (.iload_n 1, 1) := by decide +kernel
theorem dX10_missed_20 : decode cX10_missed 20 = .ok (.invokevirtual 227, 3) := by decide +kernel
theorem dX10_missed_23 : decode cX10_missed 23 = .ok (.iload_n 2, 1) := by decide +kernel
theorem dX10_missed_24 : decode cX10_missed 24 = .ok (.ifCond .eq 15, 3) := by decide +kernel
theorem dX10_missed_27 : decode cX10_missed 27 = .ok (.aload_n 0, 1) := by decide +kernel
theorem dX10_missed_28 : decode cX10_missed 28 = .ok (.getfield 42, 3) := by decide +kernel
theorem dX10_missed_31 : decode cX10_missed 31 = .ok (.getfield 215, 3) := by decide +kernel
theorem dX10_missed_34 : decode cX10_missed 34 = .ok (.iload_n 1, 1) := by decide +kernel
theorem dX10_missed_35 : decode cX10_missed 35 = .ok (.iaload, 1) := by decide +kernel
theorem dX10_missed_36 : decode cX10_missed 36 = .ok (.goto 10, 3) := by decide +kernel
theorem dX10_missed_39 : decode cX10_missed 39 = .ok (.aload_n 0, 1) := by decide +kernel
theorem dX10_missed_40 : decode cX10_missed 40 = .ok (.getfield 19, 3) := by decide +kernel
theorem dX10_missed_43 : decode cX10_missed 43 = .ok (.getfield 91, 3) := by decide +kernel
theorem dX10_missed_46 : decode cX10_missed 46 = .ok (.istore_n 3, 1) := by decide +kernel
theorem dX10_missed_47 : decode cX10_missed 47 = .ok (.iload_n 3, 1) := by decide +kernel
theorem dX10_missed_48 : decode cX10_missed 48 = .ok (.aload_n 0, 1) := by decide +kernel
theorem dX10_missed_49 : decode cX10_missed 49 = .ok (.getfield 51, 3) := by decide +kernel
theorem dX10_missed_52 : decode cX10_missed 52 = .ok (.getfield 238, 3) := by decide +kernel
theorem dX10_missed_55 : decode cX10_missed 55 = .ok (.isub, 1) := by decide +kernel
theorem dX10_missed_56 : decode cX10_missed 56 = .ok (.ireturn, 1) := by decide +kernel
set_option maxRecDepth 20000 in
theorem ggX10_sheet_X10_isBelow : GoodIn wsX10_sheet wsX10_isBelow := goodIn_r _ [8] (by decide +kernel) (by decide +kernel)
set_option maxRecDepth 20000 in
theorem gX10_sheet_X10_isBelow : GoodIn wsX10_sheet (va_wsS RX10 73 yX10_isBelow wsX10_isBelow) := goodIn_app (goodIn_of _ (by decide +kernel)) ggX10_sheet_X10_isBelow
set_option maxRecDepth 20000 in
theorem ggX10_sheet_X8_areBits : GoodIn wsX10_sheet wsX8_areBits := goodIn_r _ [12] (by decide +kernel) (by decide +kernel)
set_option maxRecDepth 20000 in
theorem gX10_sheet_X8_areBits : GoodIn wsX10_sheet (va_wsS RX10 241 yX8_areBits wsX8_areBits) := goodIn_app (goodIn_of _ (by decide +kernel)) ggX10_sheet_X8_areBits
set_option maxRecDepth 20000 in
theorem ggX10_sheet_X10_finding : GoodIn wsX10_sheet wsX10_finding := goodIn_r _ [16, 17, 25, 26, 27, 28, 29, 30, 31, 32, 33] (by decide +kernel) (by decide +kernel)
set_option maxRecDepth 20000 in
theorem gX10_sheet_X10_finding : GoodIn wsX10_sheet (wsV RX10 82 RX10 yX10_finding wsX10_finding) := goodIn_app (goodIn_of _ (by decide +kernel)) ggX10_sheet_X10_finding
set_option maxRecDepth 20000 in
theorem ggX10_sheet_X8_become : GoodIn wsX10_sheet wsX8_become := goodIn_r _ [21, 22, 23, 24, 34, 35, 36] (by decide +kernel) (by decide +kernel)
set_option maxRecDepth 20000 in
theorem gX10_sheet_X8_become : GoodIn wsX10_sheet (wsV RX10 244 RX8 yX8_become wsX8_become) := goodIn_app (goodIn_of _ (by decide +kernel)) ggX10_sheet_X8_become
theorem dX10_sheet_0 : decode cX10_sheet 0 = .ok (.iload_n 1, 1) := by decide +kernel
theorem dX10_sheet_1 : decode cX10_sheet 1 = .ok (.iconst 4, 1) := by decide +kernel
theorem dX10_sheet_2 : decode cX10_sheet 2 = .ok (.invokestatic 73, 3) := by decide +kernel
theorem dX10_sheet_5 : decode cX10_sheet 5 = .ok (.ifCond .eq 10, 3) := by decide +kernel
theorem dX10_sheet_8 : decode cX10_sheet 8 = .ok (.iload_n 2, 1) := by decide +kernel
theorem dX10_sheet_9 : decode cX10_sheet 9 = .ok (.invokestatic 241, 3) := by decide +kernel
theorem dX10_sheet_12 : decode cX10_sheet 12 = .ok (.ifCond .ne 10, 3) := by decide +kernel
theorem dX10_sheet_15 : decode cX10_sheet 15 = .ok (.aload_n 0, 1) := by decide +kernel
theorem dX10_sheet_16 : decode cX10_sheet 16 = .ok (.ldc 81, 2) := by decide +kernel
theorem dX10_sheet_18 : decode cX10_sheet 18 = .ok (.invokevirtual 82, 3) := by decide +kernel
theorem dX10_sheet_21 : decode cX10_sheet 21 = .ok (.ireturn, 1) := by decide +kernel
theorem dX10_sheet_22 : decode cX10_sheet 22 = .ok (.iload_n 3, 1) := by decide +kernel
theorem dX10_sheet_23 : decode cX10_sheet 23 = .ok (.ifCond .ge 10, 3) := by decide +kernel
theorem dX10_sheet_26 : decode cX10_sheet 26 = .ok (.aload_n 0, 1) := by decide +kernel
theorem dX10_sheet_27 : decode cX10_sheet 27 = .ok (.ldc 90, 2) := by decide +kernel
theorem dX10_sheet_29 : decode cX10_sheet 29 = .ok (.invokevirtual 82, 3) := by decide +kernel
theorem dX10_sheet_32 : decode cX10_sheet 32 = .ok (.ireturn, 1) := by decide +kernel
theorem dX10_sheet_33 : decode cX10_sheet 33 = .ok (.iload_n 3, 1) := by decide +kernel
theorem dX10_sheet_34 : decode cX10_sheet 34 = .ok (.bipush 24, 2) := by decide +kernel
theorem dX10_sheet_36 : decode cX10_sheet 36 = .ok (.if_icmp .le 10, 3) := by decide +kernel
theorem dX10_sheet_39 : decode cX10_sheet 39 = .ok (.aload_n 0, 1) := by decide +kernel
theorem dX10_sheet_40 : decode cX10_sheet 40 = .ok (.ldc 81, 2) := by decide +kernel
theorem dX10_sheet_42 : decode cX10_sheet 42 = .ok (.invokevirtual 82, 3) := by decide +kernel
theorem dX10_sheet_45 : decode cX10_sheet 45 = .ok (.ireturn, 1) := by decide +kernel
theorem dX10_sheet_46 : decode cX10_sheet 46 = .ok (.aload_n 0, 1) := by decide +kernel
theorem dX10_sheet_47 : decode cX10_sheet 47 = .ok (.getfield 58, 3) := by decide +kernel
theorem dX10_sheet_50 : decode cX10_sheet 50 = .ok (.iload_n 1, 1) := by decide +kernel
theorem dX10_sheet_51 : decode cX10_sheet 51 = .ok (.iload_n 2, 1) := by decide +kernel
theorem dX10_sheet_52 : decode cX10_sheet 52 = .ok (.iload_n 3, 1) := by decide +kernel
theorem dX10_sheet_53 : decode cX10_sheet 53 = .ok (.invokevirtual 244, 3) := by decide +kernel
theorem dX10_sheet_56 : decode cX10_sheet 56 = .ok (.aload_n 0, 1) := by decide +kernel
theorem dX10_sheet_57 : decode cX10_sheet 57 = .ok (.getfield 58, 3) := by decide +kernel
theorem dX10_sheet_60 : decode cX10_sheet 60 = .ok (.getfield 247, 3) := by decide +kernel
theorem dX10_sheet_63 : decode cX10_sheet 63 = .ok (.iload_n 1, 1) := by decide +kernel
theorem dX10_sheet_64 : decode cX10_sheet 64 = .ok (.iaload, 1) := by decide +kernel
theorem dX10_sheet_65 : decode cX10_sheet 65 = .ok (.ireturn, 1) := by decide +kernel
set_option maxRecDepth 20000 in
theorem ggX10_put_X10_isBelow : GoodIn wsX10_put wsX10_isBelow := goodIn_r _ [8] (by decide +kernel) (by decide +kernel)
set_option maxRecDepth 20000 in
theorem gX10_put_X10_isBelow : GoodIn wsX10_put (va_wsS RX10 73 yX10_isBelow wsX10_isBelow) := goodIn_app (goodIn_of _ (by decide +kernel)) ggX10_put_X10_isBelow
set_option maxRecDepth 20000 in
theorem ggX10_put_X10_finding : GoodIn wsX10_put wsX10_finding := goodIn_r _ [12, 13, 25, 26, 27, 28, 29, 30, 31, 32, 33] (by decide +kernel) (by decide +kernel)
set_option maxRecDepth 20000 in
theorem gX10_put_X10_finding : GoodIn wsX10_put (wsV RX10 82 RX10 yX10_finding wsX10_finding) := goodIn_app (goodIn_of _ (by decide +kernel)) ggX10_put_X10_finding
set_option maxRecDepth 20000 in
theorem ggX10_put_X8_isMissing : GoodIn wsX10_put wsX8_isMissing := goodIn_r _ [18, 19, 34, 35, 36] (by decide +kernel) (by decide +kernel)
set_option maxRecDepth 20000 in
theorem gX10_put_X8_isMissing : GoodIn wsX10_put (wsV RX10 250 RX8 yX8_isMissing wsX8_isMissing) := goodIn_app (goodIn_of _ (by decide +kernel)) ggX10_put_X8_isMissing
set_option maxRecDepth 20000 in
theorem ggX10_put_X8_write : GoodIn wsX10_put wsX8_write := goodIn_r _ [23, 19, 24, 34, 35, 36] (by decide +kernel) (by decide +kernel)
set_option maxRecDepth 20000 in
theorem gX10_put_X8_write : GoodIn wsX10_put (wsV RX10 254 RX8 yX8_write wsX8_write) := goodIn_app (goodIn_of _ (by decide +kernel)) ggX10_put_X8_write
theorem dX10_put_0 : decode cX10_put 0 = .ok (.iload_n 1, 1) := by decide +kernel
theorem dX10_put_1 : decode cX10_put 1 = .ok (.iconst 4, 1) := by decide +kernel
theorem dX10_put_2 : decode cX10_put 2 = .ok (.invokestatic 73, 3) := by decide +kernel
theorem dX10_put_5 : decode cX10_put 5 = .ok (.ifCond .ne 10, 3) := by decide +kernel
theorem dX10_put_8 : decode cX10_put 8 = .ok (.aload_n 0, 1) := by decide +kernel
theorem dX10_put_9 : decode cX10_put 9 = .ok (.ldc 81, 2) := by decide +kernel
theorem dX10_put_11 : decode cX10_put 11 = .ok (.invokevirtual 82, 3) := by decide +kernel
theorem dX10_put_14 : decode cX10_put 14 = .ok (.ireturn, 1) := by decide +kernel
theorem dX10_put_15 : decode cX10_put 15 = .ok (.aload_n 0, 1) := by decide +kernel
theorem dX10_put_16 : decode cX10_put 16 = .ok (.getfield 58, 3) := by decide +kernel
theorem dX10_put_19 : decode cX10_put 19 = .ok (.iload_n 1, 1) := by decide +kernel
theorem dX10_put_20 : decode cX10_put 20 = .ok (.invokevirtual 250, 3) := by decide +kernel
theorem dX10_put_23 : decode cX10_put 23 = .ok (.ifCond .eq 10, 3) := by decide +kernel
theorem dX10_put_26 : decode cX10_put 26 = .ok (.aload_n 0, 1) := by decide +kernel
theorem dX10_put_27 : decode cX10_put 27 = .ok (.ldc 253, 2) := by decide +kernel
theorem dX10_put_29 : decode cX10_put 29 = .ok (.invokevirtual 82, 3) := by decide +kernel
theorem dX10_put_32 : decode cX10_put 32 = .ok (.ireturn, 1) := by decide +kernel
theorem dX10_put_33 : decode cX10_put 33 = .ok (.iload_n 2, 1) := by decide +kernel
theorem dX10_put_34 : decode cX10_put 34 = .ok (.aload_n 0, 1) := by decide +kernel
theorem dX10_put_35 : decode cX10_put 35 = .ok (.getfield 58, 3) := by decide +kernel
theorem dX10_put_38 : decode cX10_put 38 = .ok (.getfield 247, 3) := by decide +kernel
theorem dX10_put_41 : decode cX10_put 41 = .ok (.iload_n 1, 1) := by decide +kernel
theorem dX10_put_42 : decode cX10_put 42 = .ok (.iaload, 1) := by decide +kernel
theorem dX10_put_43 : decode cX10_put 43 = .ok (.invokestatic 73, 3) := by decide +kernel
theorem dX10_put_46 : decode cX10_put 46 = .ok (.ifCond .ne 10, 3) := by decide +kernel
theorem dX10_put_49 : decode cX10_put 49 = .ok (.aload_n 0, 1) := by decide +kernel
theorem dX10_put_50 : decode cX10_put 50 = .ok (.ldc 81, 2) := by decide +kernel
theorem dX10_put_52 : decode cX10_put 52 = .ok (.invokevirtual 82, 3) := by decide +kernel
theorem dX10_put_55 : decode cX10_put 55 = .ok (.ireturn, 1) := by decide +kernel
theorem dX10_put_56 : decode cX10_put 56 = .ok (.aload_n 0, 1) := by decide +kernel
theorem dX10_put_57 : decode cX10_put 57 = .ok (.getfield 58, 3) := by decide +kernel
theorem dX10_put_60 : decode cX10_put 60 = .ok (.iload_n 1, 1) := by decide +kernel
theorem dX10_put_61 : decode cX10_put 61 = .ok (.iload_n 2, 1) := by decide +kernel
theorem dX10_put_62 : decode cX10_put 62 = .ok (.iload_n 3, 1) := by decide +kernel
theorem dX10_put_63 : decode cX10_put 63 = .ok (.invokevirtual 254, 3) := by decide +kernel
theorem dX10_put_66 : decode cX10_put 66 = .ok (.iconst 0, 1) := by decide +kernel
theorem dX10_put_67 : decode cX10_put 67 = .ok (.ireturn, 1) := by decide +kernel
set_option maxRecDepth 20000 in
theorem ggX10_copy_X10_isBelow : GoodIn wsX10_copy wsX10_isBelow := goodIn_r _ [9] (by decide +kernel) (by decide +kernel)
set_option maxRecDepth 20000 in
theorem gX10_copy_X10_isBelow : GoodIn wsX10_copy (va_wsS RX10 73 yX10_isBelow wsX10_isBelow) := goodIn_app (goodIn_of _ (by decide +kernel)) ggX10_copy_X10_isBelow
set_option maxRecDepth 20000 in
theorem ggX10_copy_X10_finding : GoodIn wsX10_copy wsX10_finding := goodIn_r _ [13, 14, 35, 36, 37, 38, 39, 40, 41, 42, 43] (by decide +kernel) (by decide +kernel)
set_option maxRecDepth 20000 in
theorem gX10_copy_X10_finding : GoodIn wsX10_copy (wsV RX10 82 RX10 yX10_finding wsX10_finding) := goodIn_app (goodIn_of _ (by decide +kernel)) ggX10_copy_X10_finding
set_option maxRecDepth 20000 in
theorem ggX10_copy_X8_isMissing : GoodIn wsX10_copy wsX8_isMissing := goodIn_r _ [19, 20, 44, 45, 46] (by decide +kernel) (by decide +kernel)
set_option maxRecDepth 20000 in
theorem gX10_copy_X8_isMissing : GoodIn wsX10_copy (wsV RX10 250 RX8 yX8_isMissing wsX8_isMissing) := goodIn_app (goodIn_of _ (by decide +kernel)) ggX10_copy_X8_isMissing
set_option maxRecDepth 20000 in
theorem ggX10_copy_X8_hasSpan : GoodIn wsX10_copy wsX8_hasSpan := goodIn_r _ [24, 25, 44, 45, 46] (by decide +kernel) (by decide +kernel)
set_option maxRecDepth 20000 in
theorem gX10_copy_X8_hasSpan : GoodIn wsX10_copy (wsV RX10 260 RX8 yX8_hasSpan wsX8_hasSpan) := goodIn_app (goodIn_of _ (by decide +kernel)) ggX10_copy_X8_hasSpan
set_option maxRecDepth 20000 in
theorem ggX10_copy_X8_move : GoodIn wsX10_copy wsX8_move := goodIn_r _ [29, 30, 31, 32, 33, 34, 44, 45, 46] (by decide +kernel) (by decide +kernel)
set_option maxRecDepth 20000 in
theorem gX10_copy_X8_move : GoodIn wsX10_copy (wsV RX10 264 RX8 yX8_move wsX8_move) := goodIn_app (goodIn_of _ (by decide +kernel)) ggX10_copy_X8_move
theorem dX10_copy_0 : decode cX10_copy 0 = .ok (.iload_n 1, 1) := by decide +kernel
theorem dX10_copy_1 : decode cX10_copy 1 = .ok (.iconst 4, 1) := by decide +kernel
theorem dX10_copy_2 : decode cX10_copy 2 = .ok (.invokestatic 73, 3) := by decide +kernel
theorem dX10_copy_5 : decode cX10_copy 5 = .ok (.ifCond .eq 11, 3) := by decide +kernel
theorem dX10_copy_8 : decode cX10_copy 8 = .ok (.iload_n 3, 1) := by decide +kernel
theorem dX10_copy_9 : decode cX10_copy 9 = .ok (.iconst 4, 1) := by decide +kernel
theorem dX10_copy_10 : decode cX10_copy 10 = .ok (.invokestatic 73, 3) := by decide +kernel
theorem dX10_copy_13 : decode cX10_copy 13 = .ok (.ifCond .ne 10, 3) := by decide +kernel
theorem dX10_copy_16 : decode cX10_copy 16 = .ok (.aload_n 0, 1) := by decide +kernel
theorem dX10_copy_17 : decode cX10_copy 17 = .ok (.ldc 81, 2) := by decide +kernel
theorem dX10_copy_19 : decode cX10_copy 19 = .ok (.invokevirtual 82, 3) := by decide +kernel
theorem dX10_copy_22 : decode cX10_copy 22 = .ok (.ireturn, 1) := by decide +kernel
theorem dX10_copy_23 : decode cX10_copy 23 = .ok (.aload_n 0, 1) := by decide +kernel
theorem dX10_copy_24 : decode cX10_copy 24 = .ok (.getfield 58, 3) := by decide +kernel
theorem dX10_copy_27 : decode cX10_copy 27 = .ok (.iload_n 1, 1) := by decide +kernel
theorem dX10_copy_28 : decode cX10_copy 28 = .ok (.invokevirtual 250, 3) := by decide +kernel
theorem dX10_copy_31 : decode cX10_copy 31 = .ok (.ifCond .ne 14, 3) := by decide +kernel
theorem dX10_copy_34 : decode cX10_copy 34 = .ok (.aload_n 0, 1) := by decide +kernel
theorem dX10_copy_35 : decode cX10_copy 35 = .ok (.getfield 58, 3) := by decide +kernel
theorem dX10_copy_38 : decode cX10_copy 38 = .ok (.iload_n 3, 1) := by decide +kernel
theorem dX10_copy_39 : decode cX10_copy 39 = .ok (.invokevirtual 250, 3) := by decide +kernel
theorem dX10_copy_42 : decode cX10_copy 42 = .ok (.ifCond .eq 10, 3) := by decide +kernel
theorem dX10_copy_45 : decode cX10_copy 45 = .ok (.aload_n 0, 1) := by decide +kernel
theorem dX10_copy_46 : decode cX10_copy 46 = .ok (.ldc 253, 2) := by decide +kernel
theorem dX10_copy_48 : decode cX10_copy 48 = .ok (.invokevirtual 82, 3) := by decide +kernel
theorem dX10_copy_51 : decode cX10_copy 51 = .ok (.ireturn, 1) := by decide +kernel
theorem dX10_copy_52 : decode cX10_copy 52 = .ok (.aload_n 0, 1) := by decide +kernel
theorem dX10_copy_53 : decode cX10_copy 53 = .ok (.getfield 58, 3) := by decide +kernel
theorem dX10_copy_56 : decode cX10_copy 56 = .ok (.getfield 257, 3) := by decide +kernel
theorem dX10_copy_59 : decode cX10_copy 59 = .ok (.iload_n 1, 1) := by decide +kernel
theorem dX10_copy_60 : decode cX10_copy 60 = .ok (.iaload, 1) := by decide +kernel
theorem dX10_copy_61 : decode cX10_copy 61 = .ok (.aload_n 0, 1) := by decide +kernel
theorem dX10_copy_62 : decode cX10_copy 62 = .ok (.getfield 58, 3) := by decide +kernel
theorem dX10_copy_65 : decode cX10_copy 65 = .ok (.getfield 257, 3) := by decide +kernel
theorem dX10_copy_68 : decode cX10_copy 68 = .ok (.iload_n 3, 1) := by decide +kernel
theorem dX10_copy_69 : decode cX10_copy 69 = .ok (.iaload, 1) := by decide +kernel
theorem dX10_copy_70 : decode cX10_copy 70 = .ok (.if_icmp .eq 10, 3) := by decide +kernel
theorem dX10_copy_73 : decode cX10_copy 73 = .ok (.aload_n 0, 1) := by decide +kernel
theorem dX10_copy_74 : decode cX10_copy 74 = .ok (.ldc 130, 2) := by decide +kernel
theorem dX10_copy_76 : decode cX10_copy 76 = .ok (.invokevirtual 82, 3) := by decide +kernel
theorem dX10_copy_79 : decode cX10_copy 79 = .ok (.ireturn, 1) := by decide +kernel
theorem dX10_copy_80 : decode cX10_copy 80 = .ok (.aload_n 0, 1) := by decide +kernel
theorem dX10_copy_81 : decode cX10_copy 81 = .ok (.getfield 58, 3) := by decide +kernel
theorem dX10_copy_84 : decode cX10_copy 84 = .ok (.iload_n 1, 1) := by decide +kernel
theorem dX10_copy_85 : decode cX10_copy 85 = .ok (.iload_n 2, 1) := by decide +kernel
theorem dX10_copy_86 : decode cX10_copy 86 = .ok (.iload 5, 2) := by decide +kernel
theorem dX10_copy_88 : decode cX10_copy 88 = .ok (.invokevirtual 260, 3) := by decide +kernel
theorem dX10_copy_91 : decode cX10_copy 91 = .ok (.ifCond .eq 18, 3) := by decide +kernel
theorem dX10_copy_94 : decode cX10_copy 94 = .ok (.aload_n 0, 1) := by decide +kernel
theorem dX10_copy_95 : decode cX10_copy 95 = .ok (.getfield 58, 3) := by decide +kernel
theorem dX10_copy_98 : decode cX10_copy 98 = .ok (.iload_n 3, 1) := by decide +kernel
theorem dX10_copy_99 : decode cX10_copy 99 = .ok (.iload 4, 2) := by decide +kernel
theorem dX10_copy_101 : decode cX10_copy 101 = .ok (.iload 5, 2) := by decide +kernel
theorem dX10_copy_103 : decode cX10_copy 103 = .ok (.invokevirtual 260, 3) := by decide +kernel
theorem dX10_copy_106 : decode cX10_copy 106 = .ok (.ifCond .ne 10, 3) := by decide +kernel
theorem dX10_copy_109 : decode cX10_copy 109 = .ok (.aload_n 0, 1) := by decide +kernel
theorem dX10_copy_110 : decode cX10_copy 110 = .ok (.ldc 81, 2) := by decide +kernel
theorem dX10_copy_112 : decode cX10_copy 112 = .ok (.invokevirtual 82, 3) := by decide +kernel
theorem dX10_copy_115 : decode cX10_copy 115 = .ok (.ireturn, 1) := by decide +kernel
theorem dX10_copy_116 : decode cX10_copy 116 = .ok (.aload_n 0, 1) := by decide +kernel
theorem dX10_copy_117 : decode cX10_copy 117 = .ok (.getfield 58, 3) := by decide +kernel
theorem dX10_copy_120 : decode cX10_copy 120 = .ok (.iload_n 1, 1) := by decide +kernel
theorem dX10_copy_121 : decode cX10_copy 121 = .ok (.iload_n 2, 1) := by decide +kernel
theorem dX10_copy_122 : decode cX10_copy 122 = .ok (.iload_n 3, 1) := by decide +kernel
theorem dX10_copy_123 : decode cX10_copy 123 = .ok (.iload 4, 2) := by decide +kernel
theorem dX10_copy_125 : decode cX10_copy 125 = .ok (.iload 5, 2) := by decide +kernel
theorem dX10_copy_127 : decode cX10_copy 127 = .ok (.invokevirtual 264, 3) := by decide +kernel
theorem dX10_copy_130 : decode cX10_copy 130 = .ok (.iload 5, 2) := by decide +kernel
theorem dX10_copy_132 : decode cX10_copy 132 = .ok (.ireturn, 1) := by decide +kernel
set_option maxRecDepth 20000 in
theorem ggX10_tape_X10_isBelow : GoodIn wsX10_tape wsX10_isBelow := goodIn_r _ [10] (by decide +kernel) (by decide +kernel)
set_option maxRecDepth 20000 in
theorem gX10_tape_X10_isBelow : GoodIn wsX10_tape (va_wsS RX10 73 yX10_isBelow wsX10_isBelow) := goodIn_app (goodIn_of _ (by decide +kernel)) ggX10_tape_X10_isBelow
set_option maxRecDepth 20000 in
theorem ggX10_tape_X10_finding : GoodIn wsX10_tape wsX10_finding := goodIn_r _ [14, 15, 86, 87, 88, 89, 90, 91, 92, 93, 94] (by decide +kernel) (by decide +kernel)
set_option maxRecDepth 20000 in
theorem gX10_tape_X10_finding : GoodIn wsX10_tape (wsV RX10 82 RX10 yX10_finding wsX10_finding) := goodIn_app (goodIn_of _ (by decide +kernel)) ggX10_tape_X10_finding
set_option maxRecDepth 20000 in
theorem ggX10_tape_X8_isMissing : GoodIn wsX10_tape wsX8_isMissing := goodIn_r _ [20, 21, 95, 96, 97] (by decide +kernel) (by decide +kernel)
set_option maxRecDepth 20000 in
theorem gX10_tape_X8_isMissing : GoodIn wsX10_tape (wsV RX10 250 RX8 yX8_isMissing wsX8_isMissing) := goodIn_app (goodIn_of _ (by decide +kernel)) ggX10_tape_X8_isMissing
set_option maxRecDepth 20000 in
theorem ggX10_tape_X10_keepTape : GoodIn wsX10_tape wsX10_keepTape := goodIn_r _ [25, 4, 6, 26, 27, 28, 29, 9, 30, 31, 32, 33, 34, 35, 36, 37, 38, 39, 40, 41, 42, 43, 44, 45, 46, 47, 48, 49, 50, 51, 52, 53, 54, 55, 56, 57, 58, 59, 60, 61, 62, 63, 86, 87, 88, 89, 90, 91, 92, 93, 94, 98, 99, 100, 101, 102, 103, 104, 105, 106, 107, 108, 109, 110, 111, 112, 113, 114, 115, 116, 117, 118] (by decide +kernel) (by decide +kernel)
set_option maxRecDepth 20000 in
theorem gX10_tape_X10_keepTape : GoodIn wsX10_tape (wsV RX10 220 RX10 yX10_keepTape wsX10_keepTape) := goodIn_app (goodIn_of _ (by decide +kernel)) ggX10_tape_X10_keepTape
set_option maxRecDepth 20000 in
theorem ggX10_tape_X9_clear : GoodIn wsX10_tape wsX9_clear := goodIn_r _ [67, 68, 98, 99] (by decide +kernel) (by decide +kernel)
set_option maxRecDepth 20000 in
theorem gX10_tape_X9_clear : GoodIn wsX10_tape (wsV RX10 224 RX9 yX9_clear wsX9_clear) := goodIn_app (goodIn_of _ (by decide +kernel)) ggX10_tape_X9_clear
set_option maxRecDepth 20000 in
theorem ggX10_tape_X8_numberAt : GoodIn wsX10_tape wsX8_numberAt := goodIn_r _ [72, 73, 95, 96, 97] (by decide +kernel) (by decide +kernel)
set_option maxRecDepth 20000 in
theorem gX10_tape_X8_numberAt : GoodIn wsX10_tape (wsV RX10 268 RX8 yX8_numberAt wsX8_numberAt) := goodIn_app (goodIn_of _ (by decide +kernel)) ggX10_tape_X8_numberAt
set_option maxRecDepth 20000 in
theorem ggX10_tape_X10_isTick : GoodIn wsX10_tape wsX10_isTick := goodIn_r _ [76] (by decide +kernel) (by decide +kernel)
set_option maxRecDepth 20000 in
theorem gX10_tape_X10_isTick : GoodIn wsX10_tape (va_wsS RX10 77 yX10_isTick wsX10_isTick) := goodIn_app (goodIn_of _ (by decide +kernel)) ggX10_tape_X10_isTick
set_option maxRecDepth 20000 in
theorem ggX10_tape_X9_latestTick : GoodIn wsX10_tape wsX9_latestTick := goodIn_r _ [80, 68, 81, 59, 60, 61, 62, 63, 98, 99] (by decide +kernel) (by decide +kernel)
set_option maxRecDepth 20000 in
theorem gX10_tape_X9_latestTick : GoodIn wsX10_tape (wsV RX10 213 RX9 yX9_latestTick wsX9_latestTick) := goodIn_app (goodIn_of _ (by decide +kernel)) ggX10_tape_X9_latestTick
set_option maxRecDepth 20000 in
theorem ggX10_tape_X9_append : GoodIn wsX10_tape wsX9_append := goodIn_r _ [85, 68, 63, 98, 99] (by decide +kernel) (by decide +kernel)
set_option maxRecDepth 20000 in
theorem gX10_tape_X9_append : GoodIn wsX10_tape (wsV RX10 218 RX9 yX9_append wsX9_append) := goodIn_app (goodIn_of _ (by decide +kernel)) ggX10_tape_X9_append
theorem dX10_tape_0 : decode cX10_tape 0 = .ok (.iload_n 1, 1) := by decide +kernel
theorem dX10_tape_1 : decode cX10_tape 1 = .ok (.iconst 4, 1) := by decide +kernel
theorem dX10_tape_2 : decode cX10_tape 2 = .ok (.invokestatic 73, 3) := by decide +kernel
theorem dX10_tape_5 : decode cX10_tape 5 = .ok (.ifCond .eq 11, 3) := by decide +kernel
theorem dX10_tape_8 : decode cX10_tape 8 = .ok (.iload_n 2, 1) := by decide +kernel
theorem dX10_tape_9 : decode cX10_tape 9 = .ok (.iconst 4, 1) := by decide +kernel
theorem dX10_tape_10 : decode cX10_tape 10 = .ok (.invokestatic 73, 3) := by decide +kernel
theorem dX10_tape_13 : decode cX10_tape 13 = .ok (.ifCond .ne 10, 3) := by decide +kernel
theorem dX10_tape_16 : decode cX10_tape 16 = .ok (.aload_n 0, 1) := by decide +kernel
theorem dX10_tape_17 : decode cX10_tape 17 = .ok (.ldc 81, 2) := by decide +kernel
theorem dX10_tape_19 : decode cX10_tape 19 = .ok (.invokevirtual 82, 3) := by decide +kernel
theorem dX10_tape_22 : decode cX10_tape 22 = .ok (.ireturn, 1) := by decide +kernel
theorem dX10_tape_23 : decode cX10_tape 23 = .ok (.aload_n 0, 1) := by decide +kernel
theorem dX10_tape_24 : decode cX10_tape 24 = .ok (.getfield 58, 3) := by decide +kernel
theorem dX10_tape_27 : decode cX10_tape 27 = .ok (.iload_n 2, 1) := by decide +kernel
theorem dX10_tape_28 : decode cX10_tape 28 = .ok (.invokevirtual 250, 3) := by decide +kernel
theorem dX10_tape_31 : decode cX10_tape 31 = .ok (.ifCond .eq 10, 3) := by decide +kernel
theorem dX10_tape_34 : decode cX10_tape 34 = .ok (.aload_n 0, 1) := by decide +kernel
theorem dX10_tape_35 : decode cX10_tape 35 = .ok (.ldc 253, 2) := by decide +kernel
theorem dX10_tape_37 : decode cX10_tape 37 = .ok (.invokevirtual 82, 3) := by decide +kernel
theorem dX10_tape_40 : decode cX10_tape 40 = .ok (.ireturn, 1) := by decide +kernel
theorem dX10_tape_41 : decode cX10_tape 41 = .ok (.aload_n 0, 1) := by decide +kernel
theorem dX10_tape_42 : decode cX10_tape 42 = .ok (.iload_n 1, 1) := by decide +kernel
theorem dX10_tape_43 : decode cX10_tape 43 = .ok (.invokevirtual 220, 3) := by decide +kernel
theorem dX10_tape_46 : decode cX10_tape 46 = .ok (.aload_n 0, 1) := by decide +kernel
theorem dX10_tape_47 : decode cX10_tape 47 = .ok (.getfield 42, 3) := by decide +kernel
theorem dX10_tape_50 : decode cX10_tape 50 = .ok (.iload_n 1, 1) := by decide +kernel
theorem dX10_tape_51 : decode cX10_tape 51 = .ok (.invokevirtual 224, 3) := by decide +kernel
theorem dX10_tape_54 : decode cX10_tape 54 = .ok (.iconst 0, 1) := by decide +kernel
theorem dX10_tape_55 : decode cX10_tape 55 = .ok (.istore_n 3, 1) := by decide +kernel
theorem dX10_tape_56 : decode cX10_tape 56 = .ok (.iload_n 3, 1) := by decide +kernel
theorem dX10_tape_57 : decode cX10_tape 57 = .ok (.aload_n 0, 1) := by decide +kernel
theorem dX10_tape_58 : decode cX10_tape 58 = .ok (.getfield 58, 3) := by decide +kernel
theorem dX10_tape_61 : decode cX10_tape 61 = .ok (.getfield 247, 3) := by decide +kernel
theorem dX10_tape_64 : decode cX10_tape 64 = .ok (.iload_n 2, 1) := by decide +kernel
theorem dX10_tape_65 : decode cX10_tape 65 = .ok (.iaload, 1) := by decide +kernel
theorem dX10_tape_66 : decode cX10_tape 66 = .ok (.if_icmp .ge 54, 3) := by decide +kernel
theorem dX10_tape_69 : decode cX10_tape 69 = .ok (.aload_n 0, 1) := by decide +kernel
theorem dX10_tape_70 : decode cX10_tape 70 = .ok (.getfield 58, 3) := by decide +kernel
theorem dX10_tape_73 : decode cX10_tape 73 = .ok (.iload_n 2, 1) := by decide +kernel
theorem dX10_tape_74 : decode cX10_tape 74 = .ok (.iload_n 3, 1) := by decide +kernel
theorem dX10_tape_75 : decode cX10_tape 75 = .ok (.invokevirtual 268, 3) := by decide +kernel
theorem dX10_tape_78 : decode cX10_tape 78 = .ok (.istore 4, 2) := by decide +kernel
theorem dX10_tape_80 : decode cX10_tape 80 = .ok (.iload 4, 2) := by decide +kernel
theorem dX10_tape_82 : decode cX10_tape 82 = .ok (.invokestatic 77, 3) := by decide +kernel
theorem dX10_tape_85 : decode cX10_tape 85 = .ok (.ifCond .eq 35, 3) := by decide +kernel
theorem dX10_tape_88 : decode cX10_tape 88 = .ok (.iload 4, 2) := by decide +kernel
theorem dX10_tape_90 : decode cX10_tape 90 = .ok (.aload_n 0, 1) := by decide +kernel
theorem dX10_tape_91 : decode cX10_tape 91 = .ok (.getfield 42, 3) := by decide +kernel
theorem dX10_tape_94 : decode cX10_tape 94 = .ok (.iload_n 1, 1) := by decide +kernel
theorem dX10_tape_95 : decode cX10_tape 95 = .ok (.invokevirtual 213, 3) := by decide +kernel
theorem dX10_tape_98 : decode cX10_tape 98 = .ok (.if_icmp .ge 6, 3) := by decide +kernel
theorem dX10_tape_101 : decode cX10_tape 101 = .ok (.goto 19, 3) := by decide +kernel
theorem dX10_tape_104 : decode cX10_tape 104 = .ok (.aload_n 0, 1) := by decide +kernel
theorem dX10_tape_105 : decode cX10_tape 105 = .ok (.getfield 42, 3) := by decide +kernel
theorem dX10_tape_108 : decode cX10_tape 108 = .ok (.iload_n 1, 1) := by decide +kernel
theorem dX10_tape_109 : decode cX10_tape 109 = .ok (.iload 4, 2) := by decide +kernel
theorem dX10_tape_111 : decode cX10_tape 111 = .ok (.invokevirtual 218, 3) := by decide +kernel
theorem dX10_tape_114 : decode cX10_tape 114 = .ok (.iinc 3 1, 3) := by decide +kernel
theorem dX10_tape_117 : decode cX10_tape 117 = .ok (.goto (-61), 3) := by decide +kernel
theorem dX10_tape_120 : decode cX10_tape 120 = .ok (.aload_n 0, 1) := by decide +kernel
theorem dX10_tape_121 : decode cX10_tape 121 = .ok (.getfield 42, 3) := by decide +kernel
theorem dX10_tape_124 : decode cX10_tape 124 = .ok (.getfield 215, 3) := by decide +kernel
theorem dX10_tape_127 : decode cX10_tape 127 = .ok (.iload_n 1, 1) := by decide +kernel
theorem dX10_tape_128 : decode cX10_tape 128 = .ok (.iaload, 1) := by decide +kernel
theorem dX10_tape_129 : decode cX10_tape 129 = .ok (.ireturn, 1) := by decide +kernel
set_option maxRecDepth 20000 in
theorem ggX10_undo_X10_finding : GoodIn wsX10_undo wsX10_finding := goodIn_r _ [9, 10, 122, 123, 124, 125, 126, 127, 128, 129, 130] (by decide +kernel) (by decide +kernel)
set_option maxRecDepth 20000 in
theorem gX10_undo_X10_finding : GoodIn wsX10_undo (wsV RX10 82 RX10 yX10_finding wsX10_finding) := goodIn_app (goodIn_of _ (by decide +kernel)) ggX10_undo_X10_finding
set_option maxRecDepth 20000 in
theorem ggX10_undo_X10_revert : GoodIn wsX10_undo wsX10_revert := goodIn_r _ [14, 1, 15, 16, 17, 18, 19, 20, 21, 22, 23, 24, 25, 26, 27, 28, 29, 30, 31, 32, 33, 34, 35, 36, 37, 38, 39, 40, 41, 42, 43, 44, 45, 46, 47, 48, 49, 50, 51, 52, 53, 54, 55, 56, 57, 58, 59, 60, 61, 62, 63, 64, 65, 66, 67, 68, 69, 70, 71, 72, 73, 74, 75, 76, 77, 78, 8, 79, 80, 81, 82, 83, 84, 85, 86, 87, 88, 89, 90, 91, 92, 93, 94, 95, 96, 97, 98, 99, 100, 101, 102, 103, 104, 105, 106, 107, 108, 109, 110, 122, 123, 124, 125, 126, 127, 128, 129, 130, 139, 140, 141, 142, 131, 132, 133, 134, 135, 136, 137, 138, 143, 144, 145, 146, 147, 148, 149, 150, 151, 152] (by decide +kernel) (by decide +kernel)
set_option maxRecDepth 20000 in
theorem gX10_undo_X10_revert : GoodIn wsX10_undo (wsV RX10 272 RX10 yX10_revert wsX10_revert) := goodIn_app (goodIn_of _ (by decide +kernel)) ggX10_undo_X10_revert
set_option maxRecDepth 20000 in
theorem ggX10_undo_X5_forgetLatest : GoodIn wsX10_undo wsX5_forgetLatest := goodIn_r _ [114, 115, 26, 131, 132, 133, 134, 135, 136, 137, 138] (by decide +kernel) (by decide +kernel)
set_option maxRecDepth 20000 in
theorem gX10_undo_X5_forgetLatest : GoodIn wsX10_undo (wsV RX10 275 RX5 yX5_forgetLatest wsX5_forgetLatest) := goodIn_app (goodIn_of _ (by decide +kernel)) ggX10_undo_X5_forgetLatest
set_option maxRecDepth 20000 in
theorem ggX10_undo_X3_forget : GoodIn wsX10_undo wsX3_forget := goodIn_r _ [120, 121, 153, 154, 155, 156, 157, 158, 159, 160, 161, 162, 163] (by decide +kernel) (by decide +kernel)
set_option maxRecDepth 20000 in
theorem gX10_undo_X3_forget : GoodIn wsX10_undo (wsV RX10 278 RX3 yX3_forget wsX3_forget) := goodIn_app (goodIn_of _ (by decide +kernel)) ggX10_undo_X3_forget
theorem dX10_undo_0 : decode cX10_undo 0 = .ok (.aload_n 0, 1) := by decide +kernel
theorem dX10_undo_1 : decode cX10_undo 1 = .ok (.getfield 65, 3) := by decide +kernel
theorem dX10_undo_4 : decode cX10_undo 4 = .ok (.getfield 271, 3) := by decide +kernel
theorem dX10_undo_7 : decode cX10_undo 7 = .ok (.ifCond .ne 10, 3) := by decide +kernel
theorem dX10_undo_10 : decode cX10_undo 10 = .ok (.aload_n 0, 1) := by decide +kernel
theorem dX10_undo_11 : decode cX10_undo 11 = .ok (.ldc 103, 2) := by decide +kernel
theorem dX10_undo_13 : decode cX10_undo 13 = .ok (.invokevirtual 82, 3) := by decide +kernel
theorem dX10_undo_16 : decode cX10_undo 16 = .ok (.ireturn, 1) := by decide +kernel
theorem dX10_undo_17 : decode cX10_undo 17 = .ok (.aload_n 0, 1) := by decide +kernel
theorem dX10_undo_18 : decode cX10_undo 18 = .ok (.invokevirtual 272, 3) := by decide +kernel
theorem dX10_undo_21 : decode cX10_undo 21 = .ok (.aload_n 0, 1) := by decide +kernel
theorem dX10_undo_22 : decode cX10_undo 22 = .ok (.getfield 65, 3) := by decide +kernel
theorem dX10_undo_25 : decode cX10_undo 25 = .ok (.invokevirtual 275, 3) := by decide +kernel
theorem dX10_undo_28 : decode cX10_undo 28 = .ok (.aload_n 0, 1) := by decide +kernel
theorem dX10_undo_29 : decode cX10_undo 29 = .ok (.getfield 28, 3) := by decide +kernel
theorem dX10_undo_32 : decode cX10_undo 32 = .ok (.invokevirtual 278, 3) := by decide +kernel
theorem dX10_undo_35 : decode cX10_undo 35 = .ok (.aload_n 0, 1) := by decide +kernel
theorem dX10_undo_36 : decode cX10_undo 36 = .ok (.getfield 65, 3) := by decide +kernel
theorem dX10_undo_39 : decode cX10_undo 39 = .ok (.getfield 271, 3) := by decide +kernel
theorem dX10_undo_42 : decode cX10_undo 42 = .ok (.ireturn, 1) := by decide +kernel
set_option maxRecDepth 20000 in
theorem ggX10_all_X4_countMarks : GoodIn wsX10_all wsX4_countMarks := goodIn_r _ [12, 13, 14, 35, 36, 37, 38, 39, 40, 41] (by decide +kernel) (by decide +kernel)
set_option maxRecDepth 20000 in
theorem gX10_all_X4_countMarks : GoodIn wsX10_all (wsV RX10 281 RX4 yX4_countMarks wsX4_countMarks) := goodIn_app (goodIn_of _ (by decide +kernel)) ggX10_all_X4_countMarks
set_option maxRecDepth 20000 in
theorem ggX10_all_X9_countAll : GoodIn wsX10_all wsX9_countAll := goodIn_r _ [19, 20, 46, 47] (by decide +kernel) (by decide +kernel)
set_option maxRecDepth 20000 in
theorem gX10_all_X9_countAll : GoodIn wsX10_all (wsV RX10 284 RX9 yX9_countAll wsX9_countAll) := goodIn_app (goodIn_of _ (by decide +kernel)) ggX10_all_X9_countAll
set_option maxRecDepth 20000 in
theorem ggX10_all_X10_finding : GoodIn wsX10_all wsX10_finding := goodIn_r _ [25, 6, 26, 27, 28, 29, 30, 31, 32, 33, 34] (by decide +kernel) (by decide +kernel)
set_option maxRecDepth 20000 in
theorem gX10_all_X10_finding : GoodIn wsX10_all (wsV RX10 82 RX10 yX10_finding wsX10_finding) := goodIn_app (goodIn_of _ (by decide +kernel)) ggX10_all_X10_finding
theorem dX10_all_0 : decode cX10_all 0 = .ok (.iload_n 1, 1) := by decide +kernel
theorem dX10_all_1 : decode cX10_all 1 = .ok (.tableswitch 72 0 4 #[35, 43, 51, 59, 67], 35) := by decide +kernel
theorem dX10_all_36 : decode cX10_all 36 = .ok (.aload_n 0, 1) := by decide +kernel
theorem dX10_all_37 : decode cX10_all 37 = .ok (.getfield 19, 3) := by decide +kernel
theorem dX10_all_40 : decode cX10_all 40 = .ok (.getfield 91, 3) := by decide +kernel
theorem dX10_all_43 : decode cX10_all 43 = .ok (.ireturn, 1) := by decide +kernel
theorem dX10_all_44 : decode cX10_all 44 = .ok (.aload_n 0, 1) := by decide +kernel
theorem dX10_all_45 : decode cX10_all 45 = .ok (.getfield 19, 3) := by decide +kernel
theorem dX10_all_48 : decode cX10_all 48 = .ok (.invokevirtual 281, 3) := by decide +kernel
theorem dX10_all_51 : decode cX10_all 51 = .ok (.ireturn, 1) := by decide +kernel
theorem dX10_all_52 : decode cX10_all 52 = .ok (.aload_n 0, 1) := by decide +kernel
theorem dX10_all_53 : decode cX10_all 53 = .ok (.getfield 35, 3) := by decide +kernel
theorem dX10_all_56 : decode cX10_all 56 = .ok (.getfield 190, 3) := by decide +kernel
theorem dX10_all_59 : decode cX10_all 59 = .ok (.ireturn, 1) := by decide +kernel
theorem dX10_all_60 : decode cX10_all 60 = .ok (.aload_n 0, 1) := by decide +kernel
theorem dX10_all_61 : decode cX10_all 61 = .ok (.getfield 42, 3) := by decide +kernel
theorem dX10_all_64 : decode cX10_all 64 = .ok (.invokevirtual 284, 3) := by decide +kernel
theorem dX10_all_67 : decode cX10_all 67 = .ok (.ireturn, 1) := by decide +kernel
theorem dX10_all_68 : decode cX10_all 68 = .ok (.aload_n 0, 1) := by decide +kernel
theorem dX10_all_69 : decode cX10_all 69 = .ok (.getfield 69, 3) := by decide +kernel
theorem dX10_all_72 : decode cX10_all 72 = .ok (.ireturn, 1) := by decide +kernel
theorem dX10_all_73 : decode cX10_all 73 = .ok (.aload_n 0, 1) := by decide +kernel
theorem dX10_all_74 : decode cX10_all 74 = .ok (.ldc 81, 2) := by decide +kernel
theorem dX10_all_76 : decode cX10_all 76 = .ok (.invokevirtual 82, 3) := by decide +kernel
theorem dX10_all_79 : decode cX10_all 79 = .ok (.ireturn, 1) := by decide +kernel
theorem dX10_finding_0 : decode cX10_finding 0 = .ok (.aload_n 0, 1) := by decide +kernel
theorem dX10_finding_1 : decode cX10_finding 1 = .ok (.dup, 1) := by decide +kernel
theorem dX10_finding_2 : decode cX10_finding 2 = .ok (.getfield 69, 3) := by decide +kernel
theorem dX10_finding_5 : decode cX10_finding 5 = .ok (.iconst 1, 1) := by decide +kernel
theorem dX10_finding_6 : decode cX10_finding 6 = .ok (.iadd, 1) := by decide +kernel
theorem dX10_finding_7 : decode cX10_finding 7 = .ok (.putfield 69, 3) := by decide +kernel
theorem dX10_finding_10 : decode cX10_finding 10 = .ok (.iload_n 1, 1) := by decide +kernel
theorem dX10_finding_11 : decode cX10_finding 11 = .ok (.ireturn, 1) := by decide +kernel
set_option maxRecDepth 20000 in
theorem ggX10_keep_X5_keepAct : GoodIn wsX10_keep wsX5_keepAct := goodIn_r _ [7, 8, 9, 10, 11, 12, 13, 14, 15, 16, 32, 33, 34, 35, 36, 37, 38, 39] (by decide +kernel) (by decide +kernel)
set_option maxRecDepth 20000 in
theorem gX10_keep_X5_keepAct : GoodIn wsX10_keep (wsV RX10 287 RX5 yX5_keepAct wsX5_keepAct) := goodIn_app (goodIn_of _ (by decide +kernel)) ggX10_keep_X5_keepAct
set_option maxRecDepth 20000 in
theorem ggX10_keep_X3_forget : GoodIn wsX10_keep wsX3_forget := goodIn_r _ [21, 22, 40, 41, 42, 43, 44, 45, 46, 47, 48, 49, 50] (by decide +kernel) (by decide +kernel)
set_option maxRecDepth 20000 in
theorem gX10_keep_X3_forget : GoodIn wsX10_keep (wsV RX10 278 RX3 yX3_forget wsX3_forget) := goodIn_app (goodIn_of _ (by decide +kernel)) ggX10_keep_X3_forget
theorem dX10_keep_0 : decode cX10_keep 0 = .ok (.aload_n 0, 1) := by decide +kernel
theorem dX10_keep_1 : decode cX10_keep 1 = .ok (.getfield 65, 3) := by decide +kernel
theorem dX10_keep_4 : decode cX10_keep 4 = .ok (.iload_n 1, 1) := by decide +kernel
theorem dX10_keep_5 : decode cX10_keep 5 = .ok (.iload_n 2, 1) := by decide +kernel
theorem dX10_keep_6 : decode cX10_keep 6 = .ok (.iload_n 3, 1) := by decide +kernel
theorem dX10_keep_7 : decode cX10_keep 7 = .ok (.invokevirtual 287, 3) := by decide +kernel
theorem dX10_keep_10 : decode cX10_keep 10 = .ok (.aload_n 0, 1) := by decide +kernel
theorem dX10_keep_11 : decode cX10_keep 11 = .ok (.getfield 28, 3) := by decide +kernel
theorem dX10_keep_14 : decode cX10_keep 14 = .ok (.invokevirtual 278, 3) := by decide +kernel
theorem dX10_keep_17 : decode cX10_keep 17 = .ok (.return_, 1) := by decide +kernel
set_option maxRecDepth 20000 in
theorem ggX10_keepTape_X10_keep : GoodIn wsX10_keepTape wsX10_keep := goodIn_r _ [8, 3, 9, 10, 11, 12, 13, 14, 15, 16, 17, 18, 19, 20, 21, 22, 23, 24, 25, 26, 27, 28, 29, 42, 43, 44, 45, 46, 47, 48, 49, 50, 53, 54, 55, 56, 57, 58, 59, 60, 61, 62, 63, 64, 65, 66, 67, 68, 69, 70, 71] (by decide +kernel) (by decide +kernel)
set_option maxRecDepth 20000 in
theorem gX10_keepTape_X10_keep : GoodIn wsX10_keepTape (wsV RX10 95 RX10 yX10_keep wsX10_keep) := goodIn_app (goodIn_of _ (by decide +kernel)) ggX10_keepTape_X10_keep
set_option maxRecDepth 20000 in
theorem ggX10_keepTape_X5_keepHits : GoodIn wsX10_keepTape wsX5_keepHits := goodIn_r _ [33, 34, 35, 15, 36, 37, 38, 39, 40, 41, 51, 52, 53, 54, 55, 56, 57, 58, 59, 60] (by decide +kernel) (by decide +kernel)
set_option maxRecDepth 20000 in
theorem gX10_keepTape_X5_keepHits : GoodIn wsX10_keepTape (wsV RX10 290 RX5 yX5_keepHits wsX5_keepHits) := goodIn_app (goodIn_of _ (by decide +kernel)) ggX10_keepTape_X5_keepHits
theorem dX10_keepTape_0 : decode cX10_keepTape 0 = .ok (.aload_n 0, 1) := by decide +kernel
theorem dX10_keepTape_1 : decode cX10_keepTape 1 = .ok (.bipush 6, 2) := by decide +kernel
theorem dX10_keepTape_3 : decode cX10_keepTape 3 = .ok (.iload_n 1, 1) := by decide +kernel
theorem dX10_keepTape_4 : decode cX10_keepTape 4 = .ok (.aload_n 0, 1) := by decide +kernel
theorem dX10_keepTape_5 : decode cX10_keepTape 5 = .ok (.getfield 42, 3) := by decide +kernel
theorem dX10_keepTape_8 : decode cX10_keepTape 8 = .ok (.getfield 215, 3) := by decide +kernel
theorem dX10_keepTape_11 : decode cX10_keepTape 11 = .ok (.iload_n 1, 1) := by decide +kernel
theorem dX10_keepTape_12 : decode cX10_keepTape 12 = .ok (.iaload, 1) := by decide +kernel
theorem dX10_keepTape_13 : decode cX10_keepTape 13 = .ok (.invokevirtual 95, 3) := by decide +kernel
theorem dX10_keepTape_16 : decode cX10_keepTape 16 = .ok (.aload_n 0, 1) := by decide +kernel
theorem dX10_keepTape_17 : decode cX10_keepTape 17 = .ok (.getfield 65, 3) := by decide +kernel
theorem dX10_keepTape_20 : decode cX10_keepTape 20 = .ok (.aload_n 0, 1) := by decide +kernel
theorem dX10_keepTape_21 : decode cX10_keepTape 21 = .ok (.getfield 42, 3) := by decide +kernel
theorem dX10_keepTape_24 : decode cX10_keepTape 24 = .ok (.iload_n 1, 1) := by decide +kernel
theorem dX10_keepTape_25 : decode cX10_keepTape 25 = .ok (.invokevirtual 290, 3) := by decide +kernel
theorem dX10_keepTape_28 : decode cX10_keepTape 28 = .ok (.return_, 1) := by decide +kernel
set_option maxRecDepth 20000 in
theorem ggX10_revert_X5_first : GoodIn wsX10_revert wsX5_first := goodIn_r _ [11, 12, 13, 112, 113, 114, 115, 116, 117, 118, 119] (by decide +kernel) (by decide +kernel)
set_option maxRecDepth 20000 in
theorem gX10_revert_X5_first : GoodIn wsX10_revert (wsV RX10 294 RX5 yX5_first wsX5_first) := goodIn_app (goodIn_of _ (by decide +kernel)) ggX10_revert_X5_first
set_option maxRecDepth 20000 in
theorem ggX10_revert_X5_second : GoodIn wsX10_revert wsX5_second := goodIn_r _ [17, 18, 13, 112, 113, 114, 115, 116, 117, 118, 119] (by decide +kernel) (by decide +kernel)
set_option maxRecDepth 20000 in
theorem gX10_revert_X5_second : GoodIn wsX10_revert (wsV RX10 297 RX5 yX5_second wsX5_second) := goodIn_app (goodIn_of _ (by decide +kernel)) ggX10_revert_X5_second
set_option maxRecDepth 20000 in
theorem ggX10_revert_X5_act : GoodIn wsX10_revert wsX5_act := goodIn_r _ [22, 23, 13, 112, 113, 114, 115, 116, 117, 118, 119] (by decide +kernel) (by decide +kernel)
set_option maxRecDepth 20000 in
theorem gX10_revert_X5_act : GoodIn wsX10_revert (wsV RX10 300 RX5 yX5_act wsX5_act) := goodIn_app (goodIn_of _ (by decide +kernel)) ggX10_revert_X5_act
set_option maxRecDepth 20000 in
theorem ggX10_revert_X4_removeLatest : GoodIn wsX10_revert wsX4_removeLatest := goodIn_r _ [28, 29, 120, 121, 122, 123, 124, 125, 126] (by decide +kernel) (by decide +kernel)
set_option maxRecDepth 20000 in
theorem gX10_revert_X4_removeLatest : GoodIn wsX10_revert (wsV RX10 121 RX4 yX4_removeLatest wsX4_removeLatest) := goodIn_app (goodIn_of _ (by decide +kernel)) ggX10_revert_X4_removeLatest
set_option maxRecDepth 20000 in
theorem ggX10_revert_X5_tick : GoodIn wsX10_revert wsX5_tick := goodIn_r _ [33, 34, 13, 112, 113, 114, 115, 116, 117, 118, 119] (by decide +kernel) (by decide +kernel)
set_option maxRecDepth 20000 in
theorem gX10_revert_X5_tick : GoodIn wsX10_revert (wsV RX10 303 RX5 yX5_tick wsX5_tick) := goodIn_app (goodIn_of _ (by decide +kernel)) ggX10_revert_X5_tick
set_option maxRecDepth 20000 in
theorem ggX10_revert_X5_drum : GoodIn wsX10_revert wsX5_drum := goodIn_r _ [38, 39, 13, 112, 113, 114, 115, 116, 117, 118, 119] (by decide +kernel) (by decide +kernel)
set_option maxRecDepth 20000 in
theorem gX10_revert_X5_drum : GoodIn wsX10_revert (wsV RX10 306 RX5 yX5_drum wsX5_drum) := goodIn_app (goodIn_of _ (by decide +kernel)) ggX10_revert_X5_drum
set_option maxRecDepth 20000 in
theorem ggX10_revert_X4_append : GoodIn wsX10_revert wsX4_append := goodIn_r _ [43, 29, 44, 45, 46, 47, 48, 49, 50, 51, 52, 27, 53, 54, 55, 56, 120, 121, 122, 123, 124, 125, 126] (by decide +kernel) (by decide +kernel)
set_option maxRecDepth 20000 in
theorem gX10_revert_X4_append : GoodIn wsX10_revert (wsV RX10 99 RX4 yX4_append wsX4_append) := goodIn_app (goodIn_of _ (by decide +kernel)) ggX10_revert_X4_append
set_option maxRecDepth 20000 in
theorem ggX10_revert_X4_setMark : GoodIn wsX10_revert wsX4_setMark := goodIn_r _ [60, 47, 61, 62, 63, 27, 64, 29, 65, 66, 67, 120, 121, 122, 123, 124, 125, 126] (by decide +kernel) (by decide +kernel)
set_option maxRecDepth 20000 in
theorem gX10_revert_X4_setMark : GoodIn wsX10_revert (wsV RX10 134 RX4 yX4_setMark wsX4_setMark) := goodIn_app (goodIn_of _ (by decide +kernel)) ggX10_revert_X4_setMark
set_option maxRecDepth 20000 in
theorem ggX10_revert_X7_change : GoodIn wsX10_revert wsX7_change := goodIn_r _ [72, 73, 74, 75, 76, 71, 77, 78, 65, 66, 67, 127] (by decide +kernel) (by decide +kernel)
set_option maxRecDepth 20000 in
theorem gX10_revert_X7_change : GoodIn wsX10_revert (wsV RX10 143 RX7 yX7_change wsX7_change) := goodIn_app (goodIn_of _ (by decide +kernel)) ggX10_revert_X7_change
set_option maxRecDepth 20000 in
theorem ggX10_revert_X9_removeLatest : GoodIn wsX10_revert wsX9_removeLatest := goodIn_r _ [83, 84, 128, 129] (by decide +kernel) (by decide +kernel)
set_option maxRecDepth 20000 in
theorem gX10_revert_X9_removeLatest : GoodIn wsX10_revert (wsV RX10 309 RX9 yX9_removeLatest wsX9_removeLatest) := goodIn_app (goodIn_of _ (by decide +kernel)) ggX10_revert_X9_removeLatest
set_option maxRecDepth 20000 in
theorem ggX10_revert_X9_clear : GoodIn wsX10_revert wsX9_clear := goodIn_r _ [88, 84, 128, 129] (by decide +kernel) (by decide +kernel)
set_option maxRecDepth 20000 in
theorem gX10_revert_X9_clear : GoodIn wsX10_revert (wsV RX10 224 RX9 yX9_clear wsX9_clear) := goodIn_app (goodIn_of _ (by decide +kernel)) ggX10_revert_X9_clear
set_option maxRecDepth 20000 in
theorem ggX10_revert_X5_hitAt : GoodIn wsX10_revert wsX5_hitAt := goodIn_r _ [92, 93, 13, 112, 113, 114, 115, 116, 117, 118, 119] (by decide +kernel) (by decide +kernel)
set_option maxRecDepth 20000 in
theorem gX10_revert_X5_hitAt : GoodIn wsX10_revert (wsV RX10 311 RX5 yX5_hitAt wsX5_hitAt) := goodIn_app (goodIn_of _ (by decide +kernel)) ggX10_revert_X5_hitAt
set_option maxRecDepth 20000 in
theorem ggX10_revert_X9_append : GoodIn wsX10_revert wsX9_append := goodIn_r _ [97, 84, 98, 128, 129] (by decide +kernel) (by decide +kernel)
set_option maxRecDepth 20000 in
theorem gX10_revert_X9_append : GoodIn wsX10_revert (wsV RX10 218 RX9 yX9_append wsX9_append) := goodIn_app (goodIn_of _ (by decide +kernel)) ggX10_revert_X9_append
theorem dX10_revert_0 : decode cX10_revert 0 = .ok (.aload_n 0, 1) := by decide +kernel
theorem dX10_revert_1 : decode cX10_revert 1 = .ok (.getfield 65, 3) := by decide +kernel
theorem dX10_revert_4 : decode cX10_revert 4 = .ok (.invokevirtual 294, 3) := by decide +kernel
theorem dX10_revert_7 : decode cX10_revert 7 = .ok (.istore_n 1, 1) := by decide +kernel
theorem dX10_revert_8 : decode cX10_revert 8 = .ok (.aload_n 0, 1) := by decide +kernel
theorem dX10_revert_9 : decode cX10_revert 9 = .ok (.getfield 65, 3) := by decide +kernel
theorem dX10_revert_12 : decode cX10_revert 12 = .ok (.invokevirtual 297, 3) := by decide +kernel
theorem dX10_revert_15 : decode cX10_revert 15 = .ok (.istore_n 2, 1) := by decide +kernel
theorem dX10_revert_16 : decode cX10_revert 16 = .ok (.aload_n 0, 1) := by decide +kernel
theorem dX10_revert_17 : decode cX10_revert 17 = .ok (.getfield 65, 3) := by decide +kernel
theorem dX10_revert_20 : decode cX10_revert 20 = .ok (.invokevirtual 300, 3) := by decide +kernel
theorem dX10_revert_23 : decode cX10_revert 23 = .ok (.tableswitch 119 0 5 #[37, 47, 73, 85, 97, 108], 37) := by decide +kernel
theorem dX10_revert_60 : decode cX10_revert 60 = .ok (.aload_n 0, 1) := by decide +kernel
theorem dX10_revert_61 : decode cX10_revert 61 = .ok (.getfield 19, 3) := by decide +kernel
theorem dX10_revert_64 : decode cX10_revert 64 = .ok (.invokevirtual 121, 3) := by decide +kernel
theorem dX10_revert_67 : decode cX10_revert 67 = .ok (.goto 112, 3) := by decide +kernel
theorem dX10_revert_70 : decode cX10_revert 70 = .ok (.aload_n 0, 1) := by decide +kernel
theorem dX10_revert_71 : decode cX10_revert 71 = .ok (.getfield 19, 3) := by decide +kernel
theorem dX10_revert_74 : decode cX10_revert 74 = .ok (.iload_n 1, 1) := by decide +kernel
theorem dX10_revert_75 : decode cX10_revert 75 = .ok (.aload_n 0, 1) := by decide +kernel
theorem dX10_revert_76 : decode cX10_revert 76 = .ok (.getfield 65, 3) := by decide +kernel
theorem dX10_revert_79 : decode cX10_revert 79 = .ok (.invokevirtual 303, 3) := by decide +kernel
theorem dX10_revert_82 : decode cX10_revert 82 = .ok (.aload_n 0, 1) := by decide +kernel
theorem dX10_revert_83 : decode cX10_revert 83 = .ok (.getfield 65, 3) := by decide +kernel
theorem dX10_revert_86 : decode cX10_revert 86 = .ok (.invokevirtual 306, 3) := by decide +kernel
theorem dX10_revert_89 : decode cX10_revert 89 = .ok (.iload_n 2, 1) := by decide +kernel
theorem dX10_revert_90 : decode cX10_revert 90 = .ok (.invokevirtual 99, 3) := by decide +kernel
theorem dX10_revert_93 : decode cX10_revert 93 = .ok (.goto 86, 3) := by decide +kernel
theorem dX10_revert_96 : decode cX10_revert 96 = .ok (.aload_n 0, 1) := by decide +kernel
theorem dX10_revert_97 : decode cX10_revert 97 = .ok (.getfield 19, 3) := by decide +kernel
theorem dX10_revert_100 : decode cX10_revert 100 = .ok (.iload_n 1, 1) := by decide +kernel
theorem dX10_revert_101 : decode cX10_revert 101 = .ok (.iload_n 2, 1) := by decide +kernel
theorem dX10_revert_102 : decode cX10_revert 102 = .ok (.invokevirtual 134, 3) := by decide +kernel
theorem dX10_revert_105 : decode cX10_revert 105 = .ok (.goto 74, 3) := by decide +kernel
theorem dX10_revert_108 : decode cX10_revert 108 = .ok (.aload_n 0, 1) := by decide +kernel
theorem dX10_revert_109 : decode cX10_revert 109 = .ok (.getfield 10, 3) := by decide +kernel
theorem dX10_revert_112 : decode cX10_revert 112 = .ok (.iload_n 1, 1) := by decide +kernel
theorem dX10_revert_113 : decode cX10_revert 113 = .ok (.iload_n 2, 1) := by decide +kernel
theorem dX10_revert_114 : decode cX10_revert 114 = .ok (.invokevirtual 143, 3) := by decide +kernel
theorem dX10_revert_117 : decode cX10_revert 117 = .ok (.goto 62, 3) := by decide +kernel
theorem dX10_revert_120 : decode cX10_revert 120 = .ok (.aload_n 0, 1) := by decide +kernel
theorem dX10_revert_121 : decode cX10_revert 121 = .ok (.getfield 35, 3) := by decide +kernel
theorem dX10_revert_124 : decode cX10_revert 124 = .ok (.iload_n 1, 1) := by decide +kernel
theorem dX10_revert_125 : decode cX10_revert 125 = .ok (.putfield 190, 3) := by decide +kernel
theorem dX10_revert_128 : decode cX10_revert 128 = .ok (.goto 51, 3) := by decide +kernel
theorem dX10_revert_131 : decode cX10_revert 131 = .ok (.aload_n 0, 1) := by decide +kernel
theorem dX10_revert_132 : decode cX10_revert 132 = .ok (.getfield 42, 3) := by decide +kernel
theorem dX10_revert_135 : decode cX10_revert 135 = .ok (.iload_n 1, 1) := by decide +kernel
theorem dX10_revert_136 : decode cX10_revert 136 = .ok (.invokevirtual 309, 3) := by decide +kernel
theorem dX10_revert_139 : decode cX10_revert 139 = .ok (.goto 40, 3) := by decide +kernel
theorem dX10_revert_142 : decode cX10_revert 142 = .ok (.aload_n 0, 1) := by decide +kernel
theorem dX10_revert_143 : decode cX10_revert 143 = .ok (.getfield 42, 3) := by decide +kernel
theorem dX10_revert_146 : decode cX10_revert 146 = .ok (.iload_n 1, 1) := by decide +kernel
theorem dX10_revert_147 : decode cX10_revert 147 = .ok (.invokevirtual 224, 3) := by decide +kernel
theorem dX10_revert_150 : decode cX10_revert 150 = .ok (.iconst 0, 1) := by decide +kernel
theorem dX10_revert_151 : decode cX10_revert 151 = .ok (.istore_n 3, 1) := by decide +kernel
theorem dX10_revert_152 : decode cX10_revert 152 = .ok (.iload_n 3, 1) := by decide +kernel
theorem dX10_revert_153 : decode cX10_revert 153 = .ok (.iload_n 2, 1) := by decide +kernel
theorem dX10_revert_154 : decode cX10_revert 154 = .ok (.if_icmp .ge 25, 3) := by decide +kernel
theorem dX10_revert_157 : decode cX10_revert 157 = .ok (.aload_n 0, 1) := by decide +kernel
theorem dX10_revert_158 : decode cX10_revert 158 = .ok (.getfield 42, 3) := by decide +kernel
theorem dX10_revert_161 : decode cX10_revert 161 = .ok (.iload_n 1, 1) := by decide +kernel
theorem dX10_revert_162 : decode cX10_revert 162 = .ok (.aload_n 0, 1) := by decide +kernel
theorem dX10_revert_163 : decode cX10_revert 163 = .ok (.getfield 65, 3) := by decide +kernel
theorem dX10_revert_166 : decode cX10_revert 166 = .ok (.iload_n 3, 1) := by decide +kernel
theorem dX10_revert_167 : decode cX10_revert 167 = .ok (.invokevirtual 311, 3) := by decide +kernel
theorem dX10_revert_170 : decode cX10_revert 170 = .ok (.invokevirtual 218, 3) := by decide +kernel
theorem dX10_revert_173 : decode cX10_revert 173 = .ok (.iinc 3 1, 3) := by decide +kernel
theorem dX10_revert_176 : decode cX10_revert 176 = .ok (.goto (-24), 3) := by decide +kernel
theorem dX10_revert_179 : decode cX10_revert 179 = .ok (.return_, 1) := by decide +kernel
set_option maxRecDepth 20000 in
theorem ggX10_isRun_X4_hasNote : GoodIn wsX10_isRun wsX4_hasNote := goodIn_r _ [6, 7, 8, 9, 10, 20, 21, 22, 23, 24, 25, 26] (by decide +kernel) (by decide +kernel)
set_option maxRecDepth 20000 in
theorem gX10_isRun_X4_hasNote : GoodIn wsX10_isRun (wsV RX10 124 RX4 yX4_hasNote wsX4_hasNote) := goodIn_app (goodIn_of _ (by decide +kernel)) ggX10_isRun_X4_hasNote
theorem dX10_isRun_0 : decode cX10_isRun 0 = .ok (.aload_n 0, 1) := by decide +kernel
theorem dX10_isRun_1 : decode cX10_isRun 1 = .ok (.getfield 19, 3) := by decide +kernel
theorem dX10_isRun_4 : decode cX10_isRun 4 = .ok (.iload_n 1, 1) := by decide +kernel
theorem dX10_isRun_5 : decode cX10_isRun 5 = .ok (.invokevirtual 124, 3) := by decide +kernel
theorem dX10_isRun_8 : decode cX10_isRun 8 = .ok (.ifCond .eq 23, 3) := by decide +kernel
theorem dX10_isRun_11 : decode cX10_isRun 11 = .ok (.aload_n 0, 1) := by decide +kernel
theorem dX10_isRun_12 : decode cX10_isRun 12 = .ok (.getfield 19, 3) := by decide +kernel
theorem dX10_isRun_15 : decode cX10_isRun 15 = .ok (.iload_n 2, 1) := by decide +kernel
theorem dX10_isRun_16 : decode cX10_isRun 16 = .ok (.invokevirtual 124, 3) := by decide +kernel
theorem dX10_isRun_19 : decode cX10_isRun 19 = .ok (.ifCond .eq 12, 3) := by decide +kernel
theorem dX10_isRun_22 : decode cX10_isRun 22 = .ok (.iload_n 1, 1) := by decide +kernel
theorem dX10_isRun_23 : decode cX10_isRun 23 = .ok (.iload_n 2, 1) := by decide +kernel
theorem dX10_isRun_24 : decode cX10_isRun 24 = .ok (.if_icmp .gt 7, 3) := by decide +kernel
theorem dX10_isRun_27 : decode cX10_isRun 27 = .ok (.iconst 1, 1) := by decide +kernel
theorem dX10_isRun_28 : decode cX10_isRun 28 = .ok (.goto 4, 3) := by decide +kernel
theorem dX10_isRun_31 : decode cX10_isRun 31 = .ok (.iconst 0, 1) := by decide +kernel
theorem dX10_isRun_32 : decode cX10_isRun 32 = .ok (.ireturn, 1) := by decide +kernel
theorem dX10_isBelow_0 : decode cX10_isBelow 0 = .ok (.iload_n 0, 1) := by decide +kernel
theorem dX10_isBelow_1 : decode cX10_isBelow 1 = .ok (.ifCond .lt 12, 3) := by decide +kernel
theorem dX10_isBelow_4 : decode cX10_isBelow 4 = .ok (.iload_n 0, 1) := by decide +kernel
theorem dX10_isBelow_5 : decode cX10_isBelow 5 = .ok (.iload_n 1, 1) := by decide +kernel
theorem dX10_isBelow_6 : decode cX10_isBelow 6 = .ok (.if_icmp .ge 7, 3) := by decide +kernel
theorem dX10_isBelow_9 : decode cX10_isBelow 9 = .ok (.iconst 1, 1) := by decide +kernel
theorem dX10_isBelow_10 : decode cX10_isBelow 10 = .ok (.goto 4, 3) := by decide +kernel
theorem dX10_isBelow_13 : decode cX10_isBelow 13 = .ok (.iconst 0, 1) := by decide +kernel
theorem dX10_isBelow_14 : decode cX10_isBelow 14 = .ok (.ireturn, 1) := by decide +kernel
theorem dX10_isTick_0 : decode cX10_isTick 0 = .ok (.iload_n 0, 1) := by decide +kernel
theorem dX10_isTick_1 : decode cX10_isTick 1 = .ok (.ifCond .lt 14, 3) := by decide +kernel
theorem dX10_isTick_4 : decode cX10_isTick 4 = .ok (.iload_n 0, 1) := by decide +kernel
theorem dX10_isTick_5 : decode cX10_isTick 5 = .ok (.sipush 9999, 3) := by decide +kernel
theorem dX10_isTick_8 : decode cX10_isTick 8 = .ok (.if_icmp .gt 7, 3) := by decide +kernel
theorem dX10_isTick_11 : decode cX10_isTick 11 = .ok (.iconst 1, 1) := by decide +kernel
theorem dX10_isTick_12 : decode cX10_isTick 12 = .ok (.goto 4, 3) := by decide +kernel
theorem dX10_isTick_15 : decode cX10_isTick 15 = .ok (.iconst 0, 1) := by decide +kernel
theorem dX10_isTick_16 : decode cX10_isTick 16 = .ok (.ireturn, 1) := by decide +kernel
theorem dX10_handIn_0 : decode cX10_handIn 0 = .ok (.iload_n 0, 1) := by decide +kernel
theorem dX10_handIn_1 : decode cX10_handIn 1 = .ok (.iload_n 1, 1) := by decide +kernel
theorem dX10_handIn_2 : decode cX10_handIn 2 = .ok (.iushr, 1) := by decide +kernel
theorem dX10_handIn_3 : decode cX10_handIn 3 = .ok (.iconst 1, 1) := by decide +kernel
theorem dX10_handIn_4 : decode cX10_handIn 4 = .ok (.iand, 1) := by decide +kernel
theorem dX10_handIn_5 : decode cX10_handIn 5 = .ok (.ireturn, 1) := by decide +kernel
theorem dX11_init_0 : decode cX11_init 0 = .ok (.aload_n 0, 1) := by decide +kernel
theorem dX11_init_1 : decode cX11_init 1 = .ok (.invokespecial 1, 3) := by decide +kernel
theorem dX11_init_4 : decode cX11_init 4 = .ok (.aload_n 0, 1) := by decide +kernel
theorem dX11_init_5 : decode cX11_init 5 = .ok (.sipush 187, 3) := by decide +kernel
theorem dX11_init_8 : decode cX11_init 8 = .ok (.newarray .int, 2) := by decide +kernel
theorem dX11_init_10 : decode cX11_init 10 = .ok (.putfield 9, 3) := by decide +kernel
theorem dX11_init_13 : decode cX11_init 13 = .ok (.aload_n 0, 1) := by decide +kernel
theorem dX11_init_14 : decode cX11_init 14 = .ok (.sipush 3740, 3) := by decide +kernel
theorem dX11_init_17 : decode cX11_init 17 = .ok (.newarray .int, 2) := by decide +kernel
theorem dX11_init_19 : decode cX11_init 19 = .ok (.putfield 13, 3) := by decide +kernel
theorem dX11_init_22 : decode cX11_init 22 = .ok (.aload_n 0, 1) := by decide +kernel
theorem dX11_init_23 : decode cX11_init 23 = .ok (.iconst 4, 1) := by decide +kernel
theorem dX11_init_24 : decode cX11_init 24 = .ok (.newarray .int, 2) := by decide +kernel
theorem dX11_init_26 : decode cX11_init 26 = .ok (.putfield 16, 3) := by decide +kernel
theorem dX11_init_29 : decode cX11_init 29 = .ok (.aload_n 0, 1) := by decide +kernel
theorem dX11_init_30 : decode cX11_init 30 = .ok (.iconst 4, 1) := by decide +kernel
theorem dX11_init_31 : decode cX11_init 31 = .ok (.newarray .int, 2) := by decide +kernel
theorem dX11_init_33 : decode cX11_init 33 = .ok (.putfield 19, 3) := by decide +kernel
theorem dX11_init_36 : decode cX11_init 36 = .ok (.aload_n 0, 1) := by decide +kernel
theorem dX11_init_37 : decode cX11_init 37 = .ok (.bipush 96, 2) := by decide +kernel
theorem dX11_init_39 : decode cX11_init 39 = .ok (.newarray .int, 2) := by decide +kernel
theorem dX11_init_41 : decode cX11_init 41 = .ok (.putfield 22, 3) := by decide +kernel
theorem dX11_init_44 : decode cX11_init 44 = .ok (.aload_n 0, 1) := by decide +kernel
theorem dX11_init_45 : decode cX11_init 45 = .ok (.sipush 8400, 3) := by decide +kernel
theorem dX11_init_48 : decode cX11_init 48 = .ok (.newarray .int, 2) := by decide +kernel
theorem dX11_init_50 : decode cX11_init 50 = .ok (.putfield 25, 3) := by decide +kernel
theorem dX11_init_53 : decode cX11_init 53 = .ok (.aload_n 0, 1) := by decide +kernel
theorem dX11_init_54 : decode cX11_init 54 = .ok (.sipush 8400, 3) := by decide +kernel
theorem dX11_init_57 : decode cX11_init 57 = .ok (.newarray .int, 2) := by decide +kernel
theorem dX11_init_59 : decode cX11_init 59 = .ok (.putfield 28, 3) := by decide +kernel
theorem dX11_init_62 : decode cX11_init 62 = .ok (.aload_n 0, 1) := by decide +kernel
theorem dX11_init_63 : decode cX11_init 63 = .ok (.bipush 20, 2) := by decide +kernel
theorem dX11_init_65 : decode cX11_init 65 = .ok (.newarray .int, 2) := by decide +kernel
theorem dX11_init_67 : decode cX11_init 67 = .ok (.putfield 31, 3) := by decide +kernel
theorem dX11_init_70 : decode cX11_init 70 = .ok (.aload_n 0, 1) := by decide +kernel
theorem dX11_init_71 : decode cX11_init 71 = .ok (.bipush 20, 2) := by decide +kernel
theorem dX11_init_73 : decode cX11_init 73 = .ok (.newarray .boolean, 2) := by decide +kernel
theorem dX11_init_75 : decode cX11_init 75 = .ok (.putfield 34, 3) := by decide +kernel
theorem dX11_init_78 : decode cX11_init 78 = .ok (.aload_n 0, 1) := by decide +kernel
theorem dX11_init_79 : decode cX11_init 79 = .ok (.bipush 40, 2) := by decide +kernel
theorem dX11_init_81 : decode cX11_init 81 = .ok (.newarray .int, 2) := by decide +kernel
theorem dX11_init_83 : decode cX11_init 83 = .ok (.putfield 38, 3) := by decide +kernel
theorem dX11_init_86 : decode cX11_init 86 = .ok (.aload_n 0, 1) := by decide +kernel
theorem dX11_init_87 : decode cX11_init 87 = .ok (.sipush 525, 3) := by decide +kernel
theorem dX11_init_90 : decode cX11_init 90 = .ok (.newarray .int, 2) := by decide +kernel
theorem dX11_init_92 : decode cX11_init 92 = .ok (.putfield 41, 3) := by decide +kernel
theorem dX11_init_95 : decode cX11_init 95 = .ok (.aload_n 0, 1) := by decide +kernel
theorem dX11_init_96 : decode cX11_init 96 = .ok (.bipush 20, 2) := by decide +kernel
theorem dX11_init_98 : decode cX11_init 98 = .ok (.newarray .int, 2) := by decide +kernel
theorem dX11_init_100 : decode cX11_init 100 = .ok (.putfield 44, 3) := by decide +kernel
theorem dX11_init_103 : decode cX11_init 103 = .ok (.aload_n 0, 1) := by decide +kernel
theorem dX11_init_104 : decode cX11_init 104 = .ok (.bipush 24, 2) := by decide +kernel
theorem dX11_init_106 : decode cX11_init 106 = .ok (.newarray .int, 2) := by decide +kernel
theorem dX11_init_108 : decode cX11_init 108 = .ok (.putfield 47, 3) := by decide +kernel
theorem dX11_init_111 : decode cX11_init 111 = .ok (.aload_n 0, 1) := by decide +kernel
theorem dX11_init_112 : decode cX11_init 112 = .ok (.getfield 9, 3) := by decide +kernel
theorem dX11_init_115 : decode cX11_init 115 = .ok (.iconst 1, 1) := by decide +kernel
theorem dX11_init_116 : decode cX11_init 116 = .ok (.bipush 31, 2) := by decide +kernel
theorem dX11_init_118 : decode cX11_init 118 = .ok (.iastore, 1) := by decide +kernel
theorem dX11_init_119 : decode cX11_init 119 = .ok (.aload_n 0, 1) := by decide +kernel
theorem dX11_init_120 : decode cX11_init 120 = .ok (.getfield 9, 3) := by decide +kernel
theorem dX11_init_123 : decode cX11_init 123 = .ok (.iconst 2, 1) := by decide +kernel
theorem dX11_init_124 : decode cX11_init 124 = .ok (.bipush 20, 2) := by decide +kernel
theorem dX11_init_126 : decode cX11_init 126 = .ok (.iastore, 1) := by decide +kernel
theorem dX11_init_127 : decode cX11_init 127 = .ok (.aload_n 0, 1) := by decide +kernel
theorem dX11_init_128 : decode cX11_init 128 = .ok (.getfield 9, 3) := by decide +kernel
theorem dX11_init_131 : decode cX11_init 131 = .ok (.iconst 3, 1) := by decide +kernel
theorem dX11_init_132 : decode cX11_init 132 = .ok (.bipush 8, 2) := by decide +kernel
theorem dX11_init_134 : decode cX11_init 134 = .ok (.iastore, 1) := by decide +kernel
theorem dX11_init_135 : decode cX11_init 135 = .ok (.aload_n 0, 1) := by decide +kernel
theorem dX11_init_136 : decode cX11_init 136 = .ok (.getfield 9, 3) := by decide +kernel
theorem dX11_init_139 : decode cX11_init 139 = .ok (.iconst 4, 1) := by decide +kernel
theorem dX11_init_140 : decode cX11_init 140 = .ok (.iconst 1, 1) := by decide +kernel
theorem dX11_init_141 : decode cX11_init 141 = .ok (.iastore, 1) := by decide +kernel
theorem dX11_init_142 : decode cX11_init 142 = .ok (.aload_n 0, 1) := by decide +kernel
theorem dX11_init_143 : decode cX11_init 143 = .ok (.getfield 9, 3) := by decide +kernel
theorem dX11_init_146 : decode cX11_init 146 = .ok (.iconst 5, 1) := by decide +kernel
theorem dX11_init_147 : decode cX11_init 147 = .ok (.bipush 40, 2) := by decide +kernel
theorem dX11_init_149 : decode cX11_init 149 = .ok (.iastore, 1) := by decide +kernel
theorem dX11_init_150 : decode cX11_init 150 = .ok (.aload_n 0, 1) := by decide +kernel
theorem dX11_init_151 : decode cX11_init 151 = .ok (.getfield 9, 3) := by decide +kernel
theorem dX11_init_154 : decode cX11_init 154 = .ok (.bipush 6, 2) := by decide +kernel
theorem dX11_init_156 : decode cX11_init 156 = .ok (.bipush 15, 2) := by decide +kernel
theorem dX11_init_158 : decode cX11_init 158 = .ok (.iastore, 1) := by decide +kernel
theorem dX11_init_159 : decode cX11_init 159 = .ok (.return_, 1) := by decide +kernel
theorem dX11_finding_0 : decode cX11_finding 0 = .ok (.aload_n 0, 1) := by decide +kernel
theorem dX11_finding_1 : decode cX11_finding 1 = .ok (.dup, 1) := by decide +kernel
theorem dX11_finding_2 : decode cX11_finding 2 = .ok (.getfield 50, 3) := by decide +kernel
theorem dX11_finding_5 : decode cX11_finding 5 = .ok (.iconst 1, 1) := by decide +kernel
theorem dX11_finding_6 : decode cX11_finding 6 = .ok (.iadd, 1) := by decide +kernel
theorem dX11_finding_7 : decode cX11_finding 7 = .ok (.putfield 50, 3) := by decide +kernel
theorem dX11_finding_10 : decode cX11_finding 10 = .ok (.iload_n 1, 1) := by decide +kernel
theorem dX11_finding_11 : decode cX11_finding 11 = .ok (.ireturn, 1) := by decide +kernel
theorem dX11_within_0 : decode cX11_within 0 = .ok (.iload_n 0, 1) := by decide +kernel
theorem dX11_within_1 : decode cX11_within 1 = .ok (.iload_n 1, 1) := by decide +kernel
theorem dX11_within_2 : decode cX11_within 2 = .ok (.if_icmp .lt 12, 3) := by decide +kernel
theorem dX11_within_5 : decode cX11_within 5 = .ok (.iload_n 0, 1) := by decide +kernel
theorem dX11_within_6 : decode cX11_within 6 = .ok (.iload_n 2, 1) := by decide +kernel
theorem dX11_within_7 : decode cX11_within 7 = .ok (.if_icmp .gt 7, 3) := by decide +kernel
theorem dX11_within_10 : decode cX11_within 10 = .ok (.iconst 1, 1) := by decide +kernel
theorem dX11_within_11 : decode cX11_within 11 = .ok (.goto 4, 3) := by decide +kernel
theorem dX11_within_14 : decode cX11_within 14 = .ok (.iconst 0, 1) := by decide +kernel
theorem dX11_within_15 : decode cX11_within 15 = .ok (.ireturn, 1) := by decide +kernel
set_option maxRecDepth 20000 in
theorem ggX11_isNote_X11_within : GoodIn wsX11_isNote wsX11_within := goodIn_r _ [5] (by decide +kernel) (by decide +kernel)
set_option maxRecDepth 20000 in
theorem gX11_isNote_X11_within : GoodIn wsX11_isNote (va_wsS RX11 54 yX11_within wsX11_within) := goodIn_app (goodIn_of _ (by decide +kernel)) ggX11_isNote_X11_within
theorem dX11_isNote_0 : decode cX11_isNote 0 = .ok (.iload_n 1, 1) := by decide +kernel
theorem dX11_isNote_1 : decode cX11_isNote 1 = .ok (.iconst 0, 1) := by decide +kernel
theorem dX11_isNote_2 : decode cX11_isNote 2 = .ok (.aload_n 0, 1) := by decide +kernel
theorem dX11_isNote_3 : decode cX11_isNote 3 = .ok (.getfield 9, 3) := by decide +kernel
theorem dX11_isNote_6 : decode cX11_isNote 6 = .ok (.iconst 0, 1) := by decide +kernel
theorem dX11_isNote_7 : decode cX11_isNote 7 = .ok (.iaload, 1) := by decide +kernel
theorem dX11_isNote_8 : decode cX11_isNote 8 = .ok (.iconst 1, 1) := by decide +kernel
theorem dX11_isNote_9 : decode cX11_isNote 9 = .ok (.isub, 1) := by decide +kernel
theorem dX11_isNote_10 : decode cX11_isNote 10 = .ok (.invokestatic 54, 3) := by decide +kernel
theorem dX11_isNote_13 : decode cX11_isNote 13 = .ok (.ireturn, 1) := by decide +kernel
set_option maxRecDepth 20000 in
theorem ggX11_isTick_X11_within : GoodIn wsX11_isTick wsX11_within := goodIn_r _ [4] (by decide +kernel) (by decide +kernel)
set_option maxRecDepth 20000 in
theorem gX11_isTick_X11_within : GoodIn wsX11_isTick (va_wsS RX11 54 yX11_within wsX11_within) := goodIn_app (goodIn_of _ (by decide +kernel)) ggX11_isTick_X11_within
theorem dX11_isTick_0 : decode cX11_isTick 0 = .ok (.iload_n 0, 1) := by decide +kernel
theorem dX11_isTick_1 : decode cX11_isTick 1 = .ok (.iconst 0, 1) := by decide +kernel
theorem dX11_isTick_2 : decode cX11_isTick 2 = .ok (.sipush 9999, 3) := by decide +kernel
theorem dX11_isTick_5 : decode cX11_isTick 5 = .ok (.invokestatic 54, 3) := by decide +kernel
theorem dX11_isTick_8 : decode cX11_isTick 8 = .ok (.ireturn, 1) := by decide +kernel
set_option maxRecDepth 20000 in
theorem ggX11_isPlayer_X11_within : GoodIn wsX11_isPlayer wsX11_within := goodIn_r _ [4] (by decide +kernel) (by decide +kernel)
set_option maxRecDepth 20000 in
theorem gX11_isPlayer_X11_within : GoodIn wsX11_isPlayer (va_wsS RX11 54 yX11_within wsX11_within) := goodIn_app (goodIn_of _ (by decide +kernel)) ggX11_isPlayer_X11_within
theorem dX11_isPlayer_0 : decode cX11_isPlayer 0 = .ok (.iload_n 0, 1) := by decide +kernel
theorem dX11_isPlayer_1 : decode cX11_isPlayer 1 = .ok (.iconst 0, 1) := by decide +kernel
theorem dX11_isPlayer_2 : decode cX11_isPlayer 2 = .ok (.iconst 3, 1) := by decide +kernel
theorem dX11_isPlayer_3 : decode cX11_isPlayer 3 = .ok (.invokestatic 54, 3) := by decide +kernel
theorem dX11_isPlayer_6 : decode cX11_isPlayer 6 = .ok (.ireturn, 1) := by decide +kernel
theorem dX11_keep_0 : decode cX11_keep 0 = .ok (.aload_n 0, 1) := by decide +kernel
theorem dX11_keep_1 : decode cX11_keep 1 = .ok (.getfield 58, 3) := by decide +kernel
theorem dX11_keep_4 : decode cX11_keep 4 = .ok (.bipush 20, 2) := by decide +kernel
theorem dX11_keep_6 : decode cX11_keep 6 = .ok (.if_icmp .ne 44, 3) := by decide +kernel
theorem dX11_keep_9 : decode cX11_keep 9 = .ok (.iconst 0, 1) := by decide +kernel
theorem dX11_keep_10 : decode cX11_keep 10 = .ok (.istore_n 1, 1) := by decide +kernel
theorem dX11_keep_11 : decode cX11_keep 11 = .ok (.iload_n 1, 1) := by decide +kernel
theorem dX11_keep_12 : decode cX11_keep 12 = .ok (.sipush 3553, 3) := by decide +kernel
theorem dX11_keep_15 : decode cX11_keep 15 = .ok (.if_icmp .ge 25, 3) := by decide +kernel
theorem dX11_keep_18 : decode cX11_keep 18 = .ok (.aload_n 0, 1) := by decide +kernel
theorem dX11_keep_19 : decode cX11_keep 19 = .ok (.getfield 13, 3) := by decide +kernel
theorem dX11_keep_22 : decode cX11_keep 22 = .ok (.iload_n 1, 1) := by decide +kernel
theorem dX11_keep_23 : decode cX11_keep 23 = .ok (.aload_n 0, 1) := by decide +kernel
theorem dX11_keep_24 : decode cX11_keep 24 = .ok (.getfield 13, 3) := by decide +kernel
theorem dX11_keep_27 : decode cX11_keep 27 = .ok (.iload_n 1, 1) := by decide +kernel
theorem dX11_keep_28 : decode cX11_keep 28 = .ok (.sipush 187, 3) := by decide +kernel
theorem dX11_keep_31 : decode cX11_keep 31 = .ok (.iadd, 1) := by decide +kernel
theorem dX11_keep_32 : decode cX11_keep 32 = .ok (.iaload, 1) := by decide +kernel
theorem dX11_keep_33 : decode cX11_keep 33 = .ok (.iastore, 1) := by decide +kernel
theorem dX11_keep_34 : decode cX11_keep 34 = .ok (.iinc 1 1, 3) := by decide +kernel
theorem dX11_keep_37 : decode cX11_keep 37 = .ok (.goto (-26), 3) := by decide +kernel
theorem dX11_keep_40 : decode cX11_keep 40 = .ok (.aload_n 0, 1) := by decide +kernel
theorem dX11_keep_41 : decode cX11_keep 41 = .ok (.dup, 1) := by decide +kernel
theorem dX11_keep_42 : decode cX11_keep 42 = .ok (.getfield 58, 3) := by decide +kernel
theorem dX11_keep_45 : decode cX11_keep 45 = .ok (.iconst 1, 1) := by decide +kernel
theorem dX11_keep_46 : decode cX11_keep 46 = .ok (.isub, 1) := by decide +kernel
theorem dX11_keep_47 : decode cX11_keep 47 = .ok (.putfield 58, 3) := by decide +kernel
theorem dX11_keep_50 : decode cX11_keep 50 = .ok (.iconst 0, 1) := by decide +kernel
theorem dX11_keep_51 : decode cX11_keep 51 = .ok (.istore_n 1, 1) := by decide +kernel
theorem dX11_keep_52 : decode cX11_keep 52 = .ok (.iload_n 1, 1) := by decide +kernel
theorem dX11_keep_53 : decode cX11_keep 53 = .ok (.sipush 187, 3) := by decide +kernel
theorem dX11_keep_56 : decode cX11_keep 56 = .ok (.if_icmp .ge 30, 3) := by decide +kernel
theorem dX11_keep_59 : decode cX11_keep 59 = .ok (.aload_n 0, 1) := by decide +kernel
theorem dX11_keep_60 : decode cX11_keep 60 = .ok (.getfield 13, 3) := by decide +kernel
theorem dX11_keep_63 : decode cX11_keep 63 = .ok (.aload_n 0, 1) := by decide +kernel
theorem dX11_keep_64 : decode cX11_keep 64 = .ok (.getfield 58, 3) := by decide +kernel
theorem dX11_keep_67 : decode cX11_keep 67 = .ok (.sipush 187, 3) := by decide +kernel
theorem dX11_keep_70 : decode cX11_keep 70 = .ok (.imul, 1) := by decide +kernel
theorem dX11_keep_71 : decode cX11_keep 71 = .ok (.iload_n 1, 1) := by decide +kernel
theorem dX11_keep_72 : decode cX11_keep 72 = .ok (.iadd, 1) := by decide +kernel
theorem dX11_keep_73 : decode cX11_keep 73 = .ok (.aload_n 0, 1) := by decide +kernel
theorem dX11_keep_74 : decode cX11_keep 74 = .ok (.getfield 9, 3) := by decide +kernel
theorem dX11_keep_77 : decode cX11_keep 77 = .ok (.iload_n 1, 1) := by decide +kernel
theorem dX11_keep_78 : decode cX11_keep 78 = .ok (.iaload, 1) := by decide +kernel
theorem dX11_keep_79 : decode cX11_keep 79 = .ok (.iastore, 1) := by decide +kernel
theorem dX11_keep_80 : decode cX11_keep 80 = .ok (.iinc 1 1, 3) := by decide +kernel
theorem dX11_keep_83 : decode cX11_keep 83 = .ok (.goto (-31), 3) := by decide +kernel
theorem dX11_keep_86 : decode cX11_keep 86 = .ok (.aload_n 0, 1) := by decide +kernel
theorem dX11_keep_87 : decode cX11_keep 87 = .ok (.dup, 1) := by decide +kernel
theorem dX11_keep_88 : decode cX11_keep 88 = .ok (.getfield 58, 3) := by decide +kernel
theorem dX11_keep_91 : decode cX11_keep 91 = .ok (.iconst 1, 1) := by decide +kernel
theorem dX11_keep_92 : decode cX11_keep 92 = .ok (.iadd, 1) := by decide +kernel
theorem dX11_keep_93 : decode cX11_keep 93 = .ok (.putfield 58, 3) := by decide +kernel
theorem dX11_keep_96 : decode cX11_keep 96 = .ok (.return_, 1) := by decide +kernel
set_option maxRecDepth 20000 in
theorem ggX11_undo_X11_finding : GoodIn wsX11_undo wsX11_finding := goodIn_r _ [9, 10, 11, 12, 13, 14, 15, 16, 17, 18, 19, 20, 21, 22, 23, 24, 25, 26, 27, 28, 29] (by decide +kernel) (by decide +kernel)
set_option maxRecDepth 20000 in
theorem gX11_undo_X11_finding : GoodIn wsX11_undo (wsV RX11 62 RX11 yX11_finding wsX11_finding) := goodIn_app (goodIn_of _ (by decide +kernel)) ggX11_undo_X11_finding
theorem dX11_undo_0 : decode cX11_undo 0 = .ok (.aload_n 0, 1) := by decide +kernel
theorem dX11_undo_1 : decode cX11_undo 1 = .ok (.getfield 58, 3) := by decide +kernel
theorem dX11_undo_4 : decode cX11_undo 4 = .ok (.ifCond .ne 10, 3) := by decide +kernel
theorem dX11_undo_7 : decode cX11_undo 7 = .ok (.aload_n 0, 1) := by decide +kernel
theorem dX11_undo_8 : decode cX11_undo 8 = .ok (.ldc 61, 2) := by decide +kernel
theorem dX11_undo_10 : decode cX11_undo 10 = .ok (.invokevirtual 62, 3) := by decide +kernel
theorem dX11_undo_13 : decode cX11_undo 13 = .ok (.ireturn, 1) := by decide +kernel
theorem dX11_undo_14 : decode cX11_undo 14 = .ok (.aload_n 0, 1) := by decide +kernel
theorem dX11_undo_15 : decode cX11_undo 15 = .ok (.dup, 1) := by decide +kernel
theorem dX11_undo_16 : decode cX11_undo 16 = .ok (.getfield 58, 3) := by decide +kernel
theorem dX11_undo_19 : decode cX11_undo 19 = .ok (.iconst 1, 1) := by decide +kernel
theorem dX11_undo_20 : decode cX11_undo 20 = .ok (.isub, 1) := by decide +kernel
theorem dX11_undo_21 : decode cX11_undo 21 = .ok (.putfield 58, 3) := by decide +kernel
theorem dX11_undo_24 : decode cX11_undo 24 = .ok (.iconst 0, 1) := by decide +kernel
theorem dX11_undo_25 : decode cX11_undo 25 = .ok (.istore_n 1, 1) := by decide +kernel
theorem dX11_undo_26 : decode cX11_undo 26 = .ok (.iload_n 1, 1) := by decide +kernel
theorem dX11_undo_27 : decode cX11_undo 27 = .ok (.sipush 187, 3) := by decide +kernel
theorem dX11_undo_30 : decode cX11_undo 30 = .ok (.if_icmp .ge 30, 3) := by decide +kernel
theorem dX11_undo_33 : decode cX11_undo 33 = .ok (.aload_n 0, 1) := by decide +kernel
theorem dX11_undo_34 : decode cX11_undo 34 = .ok (.getfield 9, 3) := by decide +kernel
theorem dX11_undo_37 : decode cX11_undo 37 = .ok (.iload_n 1, 1) := by decide +kernel
theorem dX11_undo_38 : decode cX11_undo 38 = .ok (.aload_n 0, 1) := by decide +kernel
theorem dX11_undo_39 : decode cX11_undo 39 = .ok (.getfield 13, 3) := by decide +kernel
theorem dX11_undo_42 : decode cX11_undo 42 = .ok (.aload_n 0, 1) := by decide +kernel
theorem dX11_undo_43 : decode cX11_undo 43 = .ok (.getfield 58, 3) := by decide +kernel
theorem dX11_undo_46 : decode cX11_undo 46 = .ok (.sipush 187, 3) := by decide +kernel
theorem dX11_undo_49 : decode cX11_undo 49 = .ok (.imul, 1) := by decide +kernel
theorem dX11_undo_50 : decode cX11_undo 50 = .ok (.iload_n 1, 1) := by decide +kernel
theorem dX11_undo_51 : decode cX11_undo 51 = .ok (.iadd, 1) := by decide +kernel
theorem dX11_undo_52 : decode cX11_undo 52 = .ok (.iaload, 1) := by decide +kernel
theorem dX11_undo_53 : decode cX11_undo 53 = .ok (.iastore, 1) := by decide +kernel
theorem dX11_undo_54 : decode cX11_undo 54 = .ok (.iinc 1 1, 3) := by decide +kernel
theorem dX11_undo_57 : decode cX11_undo 57 = .ok (.goto (-31), 3) := by decide +kernel
theorem dX11_undo_60 : decode cX11_undo 60 = .ok (.aload_n 0, 1) := by decide +kernel
theorem dX11_undo_61 : decode cX11_undo 61 = .ok (.getfield 58, 3) := by decide +kernel
theorem dX11_undo_64 : decode cX11_undo 64 = .ok (.ireturn, 1) := by decide +kernel
set_option maxRecDepth 20000 in
theorem ggX11_note_X11_within : GoodIn wsX11_note wsX11_within := goodIn_r _ [8] (by decide +kernel) (by decide +kernel)
set_option maxRecDepth 20000 in
theorem gX11_note_X11_within : GoodIn wsX11_note (va_wsS RX11 54 yX11_within wsX11_within) := goodIn_app (goodIn_of _ (by decide +kernel)) ggX11_note_X11_within
set_option maxRecDepth 20000 in
theorem ggX11_note_X11_isTick : GoodIn wsX11_note wsX11_isTick := goodIn_r _ [11, 5, 6, 7, 8] (by decide +kernel) (by decide +kernel)
set_option maxRecDepth 20000 in
theorem gX11_note_X11_isTick : GoodIn wsX11_note (va_wsS RX11 66 yX11_isTick wsX11_isTick) := goodIn_app (goodIn_of _ (by decide +kernel)) ggX11_note_X11_isTick
set_option maxRecDepth 20000 in
theorem ggX11_note_X11_finding : GoodIn wsX11_note wsX11_finding := goodIn_r _ [15, 16, 23, 24, 25, 26, 27, 28, 29, 30, 31, 32, 33, 34, 35, 36, 37, 38, 39, 40, 41] (by decide +kernel) (by decide +kernel)
set_option maxRecDepth 20000 in
theorem gX11_note_X11_finding : GoodIn wsX11_note (wsV RX11 62 RX11 yX11_finding wsX11_finding) := goodIn_app (goodIn_of _ (by decide +kernel)) ggX11_note_X11_finding
set_option maxRecDepth 20000 in
theorem ggX11_note_X11_keep : GoodIn wsX11_note wsX11_keep := goodIn_r _ [20, 21, 22, 2, 23, 24, 25, 26, 27, 28, 29, 30, 31, 32, 33, 34, 35, 36, 37, 38, 39, 40, 41] (by decide +kernel) (by decide +kernel)
set_option maxRecDepth 20000 in
theorem gX11_note_X11_keep : GoodIn wsX11_note (wsV RX11 73 RX11 yX11_keep wsX11_keep) := goodIn_app (goodIn_of _ (by decide +kernel)) ggX11_note_X11_keep
theorem dX11_note_0 : decode cX11_note 0 = .ok (.iload_n 1, 1) := by decide +kernel
theorem dX11_note_1 : decode cX11_note 1 = .ok (.iconst 0, 1) := by decide +kernel
theorem dX11_note_2 : decode cX11_note 2 = .ok (.iconst 3, 1) := by decide +kernel
theorem dX11_note_3 : decode cX11_note 3 = .ok (.invokestatic 54, 3) := by decide +kernel
theorem dX11_note_6 : decode cX11_note 6 = .ok (.ifCond .eq 19, 3) := by decide +kernel
theorem dX11_note_9 : decode cX11_note 9 = .ok (.iload_n 2, 1) := by decide +kernel
theorem dX11_note_10 : decode cX11_note 10 = .ok (.invokestatic 66, 3) := by decide +kernel
theorem dX11_note_13 : decode cX11_note 13 = .ok (.ifCond .eq 12, 3) := by decide +kernel
theorem dX11_note_16 : decode cX11_note 16 = .ok (.iload_n 3, 1) := by decide +kernel
theorem dX11_note_17 : decode cX11_note 17 = .ok (.iconst 0, 1) := by decide +kernel
theorem dX11_note_18 : decode cX11_note 18 = .ok (.iconst 4, 1) := by decide +kernel
theorem dX11_note_19 : decode cX11_note 19 = .ok (.invokestatic 54, 3) := by decide +kernel
theorem dX11_note_22 : decode cX11_note 22 = .ok (.ifCond .ne 10, 3) := by decide +kernel
theorem dX11_note_25 : decode cX11_note 25 = .ok (.aload_n 0, 1) := by decide +kernel
theorem dX11_note_26 : decode cX11_note 26 = .ok (.ldc 70, 2) := by decide +kernel
theorem dX11_note_28 : decode cX11_note 28 = .ok (.invokevirtual 62, 3) := by decide +kernel
theorem dX11_note_31 : decode cX11_note 31 = .ok (.ireturn, 1) := by decide +kernel
theorem dX11_note_32 : decode cX11_note 32 = .ok (.aload_n 0, 1) := by decide +kernel
theorem dX11_note_33 : decode cX11_note 33 = .ok (.getfield 9, 3) := by decide +kernel
theorem dX11_note_36 : decode cX11_note 36 = .ok (.iconst 0, 1) := by decide +kernel
theorem dX11_note_37 : decode cX11_note 37 = .ok (.iaload, 1) := by decide +kernel
theorem dX11_note_38 : decode cX11_note 38 = .ok (.istore 4, 2) := by decide +kernel
theorem dX11_note_40 : decode cX11_note 40 = .ok (.iload 4, 2) := by decide +kernel
theorem dX11_note_42 : decode cX11_note 42 = .ok (.ifCond .le 26, 3) := by decide +kernel
theorem dX11_note_45 : decode cX11_note 45 = .ok (.iload_n 2, 1) := by decide +kernel
theorem dX11_note_46 : decode cX11_note 46 = .ok (.aload_n 0, 1) := by decide +kernel
theorem dX11_note_47 : decode cX11_note 47 = .ok (.getfield 9, 3) := by decide +kernel
theorem dX11_note_50 : decode cX11_note 50 = .ok (.bipush 27, 2) := by decide +kernel
theorem dX11_note_52 : decode cX11_note 52 = .ok (.iload 4, 2) := by decide +kernel
theorem dX11_note_54 : decode cX11_note 54 = .ok (.iadd, 1) := by decide +kernel
theorem dX11_note_55 : decode cX11_note 55 = .ok (.iconst 1, 1) := by decide +kernel
theorem dX11_note_56 : decode cX11_note 56 = .ok (.isub, 1) := by decide +kernel
theorem dX11_note_57 : decode cX11_note 57 = .ok (.iaload, 1) := by decide +kernel
theorem dX11_note_58 : decode cX11_note 58 = .ok (.if_icmp .gt 10, 3) := by decide +kernel
theorem dX11_note_61 : decode cX11_note 61 = .ok (.aload_n 0, 1) := by decide +kernel
theorem dX11_note_62 : decode cX11_note 62 = .ok (.ldc 71, 2) := by decide +kernel
theorem dX11_note_64 : decode cX11_note 64 = .ok (.invokevirtual 62, 3) := by decide +kernel
theorem dX11_note_67 : decode cX11_note 67 = .ok (.ireturn, 1) := by decide +kernel
theorem dX11_note_68 : decode cX11_note 68 = .ok (.iload 4, 2) := by decide +kernel
theorem dX11_note_70 : decode cX11_note 70 = .ok (.bipush 20, 2) := by decide +kernel
theorem dX11_note_72 : decode cX11_note 72 = .ok (.if_icmp .ne 10, 3) := by decide +kernel
theorem dX11_note_75 : decode cX11_note 75 = .ok (.aload_n 0, 1) := by decide +kernel
theorem dX11_note_76 : decode cX11_note 76 = .ok (.ldc 72, 2) := by decide +kernel
theorem dX11_note_78 : decode cX11_note 78 = .ok (.invokevirtual 62, 3) := by decide +kernel
theorem dX11_note_81 : decode cX11_note 81 = .ok (.ireturn, 1) := by decide +kernel
theorem dX11_note_82 : decode cX11_note 82 = .ok (.aload_n 0, 1) := by decide +kernel
theorem dX11_note_83 : decode cX11_note 83 = .ok (.invokevirtual 73, 3) := by decide +kernel
theorem dX11_note_86 : decode cX11_note 86 = .ok (.aload_n 0, 1) := by decide +kernel
theorem dX11_note_87 : decode cX11_note 87 = .ok (.getfield 9, 3) := by decide +kernel
theorem dX11_note_90 : decode cX11_note 90 = .ok (.bipush 7, 2) := by decide +kernel
theorem dX11_note_92 : decode cX11_note 92 = .ok (.iload 4, 2) := by decide +kernel
theorem dX11_note_94 : decode cX11_note 94 = .ok (.iadd, 1) := by decide +kernel
theorem dX11_note_95 : decode cX11_note 95 = .ok (.iload_n 1, 1) := by decide +kernel
theorem dX11_note_96 : decode cX11_note 96 = .ok (.iastore, 1) := by decide +kernel
theorem dX11_note_97 : decode cX11_note 97 = .ok (.aload_n 0, 1) := by decide +kernel
theorem dX11_note_98 : decode cX11_note 98 = .ok (.getfield 9, 3) := by decide +kernel
theorem dX11_note_101 : decode cX11_note 101 = .ok (.bipush 27, 2) := by decide +kernel
theorem dX11_note_103 : decode cX11_note 103 = .ok (.iload 4, 2) := by decide +kernel
theorem dX11_note_105 : decode cX11_note 105 = .ok (.iadd, 1) := by decide +kernel
theorem dX11_note_106 : decode cX11_note 106 = .ok (.iload_n 2, 1) := by decide +kernel
theorem dX11_note_107 : decode cX11_note 107 = .ok (.iastore, 1) := by decide +kernel
theorem dX11_note_108 : decode cX11_note 108 = .ok (.aload_n 0, 1) := by decide +kernel
theorem dX11_note_109 : decode cX11_note 109 = .ok (.getfield 9, 3) := by decide +kernel
theorem dX11_note_112 : decode cX11_note 112 = .ok (.bipush 47, 2) := by decide +kernel
theorem dX11_note_114 : decode cX11_note 114 = .ok (.iload 4, 2) := by decide +kernel
theorem dX11_note_116 : decode cX11_note 116 = .ok (.iadd, 1) := by decide +kernel
theorem dX11_note_117 : decode cX11_note 117 = .ok (.iload_n 3, 1) := by decide +kernel
theorem dX11_note_118 : decode cX11_note 118 = .ok (.iastore, 1) := by decide +kernel
theorem dX11_note_119 : decode cX11_note 119 = .ok (.aload_n 0, 1) := by decide +kernel
theorem dX11_note_120 : decode cX11_note 120 = .ok (.getfield 9, 3) := by decide +kernel
theorem dX11_note_123 : decode cX11_note 123 = .ok (.bipush 67, 2) := by decide +kernel
theorem dX11_note_125 : decode cX11_note 125 = .ok (.iload 4, 2) := by decide +kernel
theorem dX11_note_127 : decode cX11_note 127 = .ok (.iadd, 1) := by decide +kernel
theorem dX11_note_128 : decode cX11_note 128 = .ok (.iconst (-1), 1) := by decide +kernel
theorem dX11_note_129 : decode cX11_note 129 = .ok (.iastore, 1) := by decide +kernel
theorem dX11_note_130 : decode cX11_note 130 = .ok (.aload_n 0, 1) := by decide +kernel
theorem dX11_note_131 : decode cX11_note 131 = .ok (.getfield 9, 3) := by decide +kernel
theorem dX11_note_134 : decode cX11_note 134 = .ok (.iconst 0, 1) := by decide +kernel
theorem dX11_note_135 : decode cX11_note 135 = .ok (.dup2, 1) := by decide +kernel
theorem dX11_note_136 : decode cX11_note 136 = .ok (.iaload, 1) := by decide +kernel
theorem dX11_note_137 : decode cX11_note 137 = .ok (.iconst 1, 1) := by decide +kernel
theorem dX11_note_138 : decode cX11_note 138 = .ok (.iadd, 1) := by decide +kernel
theorem dX11_note_139 : decode cX11_note 139 = .ok (.iastore, 1) := by decide +kernel
theorem dX11_note_140 : decode cX11_note 140 = .ok (.iload 4, 2) := by decide +kernel
theorem dX11_note_142 : decode cX11_note 142 = .ok (.ireturn, 1) := by decide +kernel
set_option maxRecDepth 20000 in
theorem ggX11_drop_X11_finding : GoodIn wsX11_drop wsX11_finding := goodIn_r _ [7, 8, 15, 16, 17, 18, 19, 20, 21, 22, 23, 24, 25, 26, 27, 28, 29, 30, 31, 32, 33] (by decide +kernel) (by decide +kernel)
set_option maxRecDepth 20000 in
theorem gX11_drop_X11_finding : GoodIn wsX11_drop (wsV RX11 62 RX11 yX11_finding wsX11_finding) := goodIn_app (goodIn_of _ (by decide +kernel)) ggX11_drop_X11_finding
set_option maxRecDepth 20000 in
theorem ggX11_drop_X11_keep : GoodIn wsX11_drop wsX11_keep := goodIn_r _ [12, 13, 14, 1, 15, 16, 17, 18, 19, 20, 21, 22, 23, 24, 25, 26, 27, 28, 29, 30, 31, 32, 33] (by decide +kernel) (by decide +kernel)
set_option maxRecDepth 20000 in
theorem gX11_drop_X11_keep : GoodIn wsX11_drop (wsV RX11 73 RX11 yX11_keep wsX11_keep) := goodIn_app (goodIn_of _ (by decide +kernel)) ggX11_drop_X11_keep
theorem dX11_drop_0 : decode cX11_drop 0 = .ok (.aload_n 0, 1) := by decide +kernel
theorem dX11_drop_1 : decode cX11_drop 1 = .ok (.getfield 9, 3) := by decide +kernel
theorem dX11_drop_4 : decode cX11_drop 4 = .ok (.iconst 0, 1) := by decide +kernel
theorem dX11_drop_5 : decode cX11_drop 5 = .ok (.iaload, 1) := by decide +kernel
theorem dX11_drop_6 : decode cX11_drop 6 = .ok (.ifCond .ne 10, 3) := by decide +kernel
theorem dX11_drop_9 : decode cX11_drop 9 = .ok (.aload_n 0, 1) := by decide +kernel
theorem dX11_drop_10 : decode cX11_drop 10 = .ok (.ldc 61, 2) := by decide +kernel
theorem dX11_drop_12 : decode cX11_drop 12 = .ok (.invokevirtual 62, 3) := by decide +kernel
theorem dX11_drop_15 : decode cX11_drop 15 = .ok (.ireturn, 1) := by decide +kernel
theorem dX11_drop_16 : decode cX11_drop 16 = .ok (.aload_n 0, 1) := by decide +kernel
theorem dX11_drop_17 : decode cX11_drop 17 = .ok (.invokevirtual 73, 3) := by decide +kernel
theorem dX11_drop_20 : decode cX11_drop 20 = .ok (.aload_n 0, 1) := by decide +kernel
theorem dX11_drop_21 : decode cX11_drop 21 = .ok (.getfield 9, 3) := by decide +kernel
theorem dX11_drop_24 : decode cX11_drop 24 = .ok (.iconst 0, 1) := by decide +kernel
theorem dX11_drop_25 : decode cX11_drop 25 = .ok (.dup2, 1) := by decide +kernel
theorem dX11_drop_26 : decode cX11_drop 26 = .ok (.iaload, 1) := by decide +kernel
theorem dX11_drop_27 : decode cX11_drop 27 = .ok (.iconst 1, 1) := by decide +kernel
theorem dX11_drop_28 : decode cX11_drop 28 = .ok (.isub, 1) := by decide +kernel
theorem dX11_drop_29 : decode cX11_drop 29 = .ok (.iastore, 1) := by decide +kernel
theorem dX11_drop_30 : decode cX11_drop 30 = .ok (.aload_n 0, 1) := by decide +kernel
theorem dX11_drop_31 : decode cX11_drop 31 = .ok (.getfield 9, 3) := by decide +kernel
theorem dX11_drop_34 : decode cX11_drop 34 = .ok (.iconst 0, 1) := by decide +kernel
theorem dX11_drop_35 : decode cX11_drop 35 = .ok (.iaload, 1) := by decide +kernel
theorem dX11_drop_36 : decode cX11_drop 36 = .ok (.ireturn, 1) := by decide +kernel
set_option maxRecDepth 20000 in
theorem ggX11_as_X11_isNote : GoodIn wsX11_as wsX11_isNote := goodIn_r _ [8, 2, 9, 10, 7, 11, 17, 18, 19, 20, 21, 22, 23, 24, 25, 26, 27, 28, 29, 30, 31, 32, 33, 34, 35] (by decide +kernel) (by decide +kernel)
set_option maxRecDepth 20000 in
theorem gX11_as_X11_isNote : GoodIn wsX11_as (wsV RX11 76 RX11 yX11_isNote wsX11_isNote) := goodIn_app (goodIn_of _ (by decide +kernel)) ggX11_as_X11_isNote
set_option maxRecDepth 20000 in
theorem ggX11_as_X11_within : GoodIn wsX11_as wsX11_within := goodIn_r _ [11] (by decide +kernel) (by decide +kernel)
set_option maxRecDepth 20000 in
theorem gX11_as_X11_within : GoodIn wsX11_as (va_wsS RX11 54 yX11_within wsX11_within) := goodIn_app (goodIn_of _ (by decide +kernel)) ggX11_as_X11_within
set_option maxRecDepth 20000 in
theorem ggX11_as_X11_finding : GoodIn wsX11_as wsX11_finding := goodIn_r _ [15, 16, 17, 18, 19, 20, 21, 22, 23, 24, 25, 26, 27, 28, 29, 30, 31, 32, 33, 34, 35] (by decide +kernel) (by decide +kernel)
set_option maxRecDepth 20000 in
theorem gX11_as_X11_finding : GoodIn wsX11_as (wsV RX11 62 RX11 yX11_finding wsX11_finding) := goodIn_app (goodIn_of _ (by decide +kernel)) ggX11_as_X11_finding
theorem dX11_as_0 : decode cX11_as 0 = .ok (.aload_n 0, 1) := by decide +kernel
theorem dX11_as_1 : decode cX11_as 1 = .ok (.iload_n 1, 1) := by decide +kernel
theorem dX11_as_2 : decode cX11_as 2 = .ok (.invokevirtual 76, 3) := by decide +kernel
theorem dX11_as_5 : decode cX11_as 5 = .ok (.ifCond .eq 12, 3) := by decide +kernel
theorem dX11_as_8 : decode cX11_as 8 = .ok (.iload_n 2, 1) := by decide +kernel
theorem dX11_as_9 : decode cX11_as 9 = .ok (.iconst 0, 1) := by decide +kernel
theorem dX11_as_10 : decode cX11_as 10 = .ok (.iconst 3, 1) := by decide +kernel
theorem dX11_as_11 : decode cX11_as 11 = .ok (.invokestatic 54, 3) := by decide +kernel
theorem dX11_as_14 : decode cX11_as 14 = .ok (.ifCond .ne 10, 3) := by decide +kernel
theorem dX11_as_17 : decode cX11_as 17 = .ok (.aload_n 0, 1) := by decide +kernel
theorem dX11_as_18 : decode cX11_as 18 = .ok (.ldc 70, 2) := by decide +kernel
theorem dX11_as_20 : decode cX11_as 20 = .ok (.invokevirtual 62, 3) := by decide +kernel
theorem dX11_as_23 : decode cX11_as 23 = .ok (.ireturn, 1) := by decide +kernel
theorem dX11_as_24 : decode cX11_as 24 = .ok (.aload_n 0, 1) := by decide +kernel
theorem dX11_as_25 : decode cX11_as 25 = .ok (.getfield 9, 3) := by decide +kernel
theorem dX11_as_28 : decode cX11_as 28 = .ok (.bipush 7, 2) := by decide +kernel
theorem dX11_as_30 : decode cX11_as 30 = .ok (.iload_n 1, 1) := by decide +kernel
theorem dX11_as_31 : decode cX11_as 31 = .ok (.iadd, 1) := by decide +kernel
theorem dX11_as_32 : decode cX11_as 32 = .ok (.iaload, 1) := by decide +kernel
theorem dX11_as_33 : decode cX11_as 33 = .ok (.istore_n 3, 1) := by decide +kernel
theorem dX11_as_34 : decode cX11_as 34 = .ok (.iload_n 2, 1) := by decide +kernel
theorem dX11_as_35 : decode cX11_as 35 = .ok (.ifCond .eq 18, 3) := by decide +kernel
theorem dX11_as_38 : decode cX11_as 38 = .ok (.iload_n 3, 1) := by decide +kernel
theorem dX11_as_39 : decode cX11_as 39 = .ok (.iload_n 2, 1) := by decide +kernel
theorem dX11_as_40 : decode cX11_as 40 = .ok (.if_icmp .eq 13, 3) := by decide +kernel
theorem dX11_as_43 : decode cX11_as 43 = .ok (.iload_n 2, 1) := by decide +kernel
theorem dX11_as_44 : decode cX11_as 44 = .ok (.iconst 2, 1) := by decide +kernel
theorem dX11_as_45 : decode cX11_as 45 = .ok (.if_icmp .ne 12, 3) := by decide +kernel
theorem dX11_as_48 : decode cX11_as 48 = .ok (.iload_n 3, 1) := by decide +kernel
theorem dX11_as_49 : decode cX11_as 49 = .ok (.iconst 3, 1) := by decide +kernel
theorem dX11_as_50 : decode cX11_as 50 = .ok (.if_icmp .ne 7, 3) := by decide +kernel
theorem dX11_as_53 : decode cX11_as 53 = .ok (.iload_n 1, 1) := by decide +kernel
theorem dX11_as_54 : decode cX11_as 54 = .ok (.goto 9, 3) := by decide +kernel
theorem dX11_as_57 : decode cX11_as 57 = .ok (.aload_n 0, 1) := by decide +kernel
theorem dX11_as_58 : decode cX11_as 58 = .ok (.ldc 79, 2) := by decide +kernel
theorem dX11_as_60 : decode cX11_as 60 = .ok (.invokevirtual 62, 3) := by decide +kernel
theorem dX11_as_63 : decode cX11_as 63 = .ok (.ireturn, 1) := by decide +kernel
theorem dX11_graces_0 : decode cX11_graces 0 = .ok (.aload_n 0, 1) := by decide +kernel
theorem dX11_graces_1 : decode cX11_graces 1 = .ok (.getfield 9, 3) := by decide +kernel
theorem dX11_graces_4 : decode cX11_graces 4 = .ok (.bipush 7, 2) := by decide +kernel
theorem dX11_graces_6 : decode cX11_graces 6 = .ok (.iload_n 1, 1) := by decide +kernel
theorem dX11_graces_7 : decode cX11_graces 7 = .ok (.iadd, 1) := by decide +kernel
theorem dX11_graces_8 : decode cX11_graces 8 = .ok (.iaload, 1) := by decide +kernel
theorem dX11_graces_9 : decode cX11_graces 9 = .ok (.iconst 3, 1) := by decide +kernel
theorem dX11_graces_10 : decode cX11_graces 10 = .ok (.if_icmp .ne 7, 3) := by decide +kernel
theorem dX11_graces_13 : decode cX11_graces 13 = .ok (.iconst 2, 1) := by decide +kernel
theorem dX11_graces_14 : decode cX11_graces 14 = .ok (.goto 21, 3) := by decide +kernel
theorem dX11_graces_17 : decode cX11_graces 17 = .ok (.aload_n 0, 1) := by decide +kernel
theorem dX11_graces_18 : decode cX11_graces 18 = .ok (.getfield 9, 3) := by decide +kernel
theorem dX11_graces_21 : decode cX11_graces 21 = .ok (.bipush 7, 2) := by decide +kernel
theorem dX11_graces_23 : decode cX11_graces 23 = .ok (.iload_n 1, 1) := by decide +kernel
theorem dX11_graces_24 : decode cX11_graces 24 = .ok (.iadd, 1) := by decide +kernel
theorem dX11_graces_25 : decode cX11_graces 25 = .ok (.iaload, 1) := by decide +kernel
theorem dX11_graces_26 : decode cX11_graces 26 = .ok (.iconst 2, 1) := by decide +kernel
theorem dX11_graces_27 : decode cX11_graces 27 = .ok (.if_icmp .ne 7, 3) := by decide +kernel
theorem dX11_graces_30 : decode cX11_graces 30 = .ok (.iconst 1, 1) := by decide +kernel
theorem dX11_graces_31 : decode cX11_graces 31 = .ok (.goto 4, 3) := by decide +kernel
theorem dX11_graces_34 : decode cX11_graces 34 = .ok (.iconst 0, 1) := by decide +kernel
theorem dX11_graces_35 : decode cX11_graces 35 = .ok (.ireturn, 1) := by decide +kernel
set_option maxRecDepth 20000 in
theorem ggX11_of_X11_isNote : GoodIn wsX11_of wsX11_isNote := goodIn_r _ [7, 2, 8, 9, 6, 10, 20, 21, 22, 23, 24, 25, 26, 27, 28, 29, 30, 31, 32, 33, 34, 35, 36, 37, 38] (by decide +kernel) (by decide +kernel)
set_option maxRecDepth 20000 in
theorem gX11_of_X11_isNote : GoodIn wsX11_of (wsV RX11 76 RX11 yX11_isNote wsX11_isNote) := goodIn_app (goodIn_of _ (by decide +kernel)) ggX11_of_X11_isNote
set_option maxRecDepth 20000 in
theorem ggX11_of_X11_within : GoodIn wsX11_of wsX11_within := goodIn_r _ [10] (by decide +kernel) (by decide +kernel)
set_option maxRecDepth 20000 in
theorem gX11_of_X11_within : GoodIn wsX11_of (va_wsS RX11 54 yX11_within wsX11_within) := goodIn_app (goodIn_of _ (by decide +kernel)) ggX11_of_X11_within
set_option maxRecDepth 20000 in
theorem ggX11_of_X11_finding : GoodIn wsX11_of wsX11_finding := goodIn_r _ [14, 15, 20, 21, 22, 23, 24, 25, 26, 27, 28, 29, 30, 31, 32, 33, 34, 35, 36, 37, 38] (by decide +kernel) (by decide +kernel)
set_option maxRecDepth 20000 in
theorem gX11_of_X11_finding : GoodIn wsX11_of (wsV RX11 62 RX11 yX11_finding wsX11_finding) := goodIn_app (goodIn_of _ (by decide +kernel)) ggX11_of_X11_finding
set_option maxRecDepth 20000 in
theorem ggX11_of_X11_graces : GoodIn wsX11_of wsX11_graces := goodIn_r _ [19, 2, 20, 21, 22, 23, 24, 25, 26, 27, 28, 29, 30, 31, 32, 33, 34, 35, 36, 37, 38] (by decide +kernel) (by decide +kernel)
set_option maxRecDepth 20000 in
theorem gX11_of_X11_graces : GoodIn wsX11_of (wsV RX11 80 RX11 yX11_graces wsX11_graces) := goodIn_app (goodIn_of _ (by decide +kernel)) ggX11_of_X11_graces
theorem dX11_of_0 : decode cX11_of 0 = .ok (.aload_n 0, 1) := by decide +kernel
theorem dX11_of_1 : decode cX11_of 1 = .ok (.iload_n 1, 1) := by decide +kernel
theorem dX11_of_2 : decode cX11_of 2 = .ok (.invokevirtual 76, 3) := by decide +kernel
theorem dX11_of_5 : decode cX11_of 5 = .ok (.ifCond .eq 12, 3) := by decide +kernel
theorem dX11_of_8 : decode cX11_of 8 = .ok (.iload_n 2, 1) := by decide +kernel
theorem dX11_of_9 : decode cX11_of 9 = .ok (.iconst 0, 1) := by decide +kernel
theorem dX11_of_10 : decode cX11_of 10 = .ok (.iconst 3, 1) := by decide +kernel
theorem dX11_of_11 : decode cX11_of 11 = .ok (.invokestatic 54, 3) := by decide +kernel
theorem dX11_of_14 : decode cX11_of 14 = .ok (.ifCond .ne 10, 3) := by decide +kernel
theorem dX11_of_17 : decode cX11_of 17 = .ok (.aload_n 0, 1) := by decide +kernel
theorem dX11_of_18 : decode cX11_of 18 = .ok (.ldc 70, 2) := by decide +kernel
theorem dX11_of_20 : decode cX11_of 20 = .ok (.invokevirtual 62, 3) := by decide +kernel
theorem dX11_of_23 : decode cX11_of 23 = .ok (.ireturn, 1) := by decide +kernel
theorem dX11_of_24 : decode cX11_of 24 = .ok (.iload_n 2, 1) := by decide +kernel
theorem dX11_of_25 : decode cX11_of 25 = .ok (.tableswitch 57 0 2 #[27, 37, 47], 27) := by decide +kernel
theorem dX11_of_52 : decode cX11_of 52 = .ok (.aload_n 0, 1) := by decide +kernel
theorem dX11_of_53 : decode cX11_of 53 = .ok (.getfield 9, 3) := by decide +kernel
theorem dX11_of_56 : decode cX11_of 56 = .ok (.bipush 7, 2) := by decide +kernel
theorem dX11_of_58 : decode cX11_of 58 = .ok (.iload_n 1, 1) := by decide +kernel
theorem dX11_of_59 : decode cX11_of 59 = .ok (.iadd, 1) := by decide +kernel
theorem dX11_of_60 : decode cX11_of 60 = .ok (.iaload, 1) := by decide +kernel
theorem dX11_of_61 : decode cX11_of 61 = .ok (.ireturn, 1) := by decide +kernel
theorem dX11_of_62 : decode cX11_of 62 = .ok (.aload_n 0, 1) := by decide +kernel
theorem dX11_of_63 : decode cX11_of 63 = .ok (.getfield 9, 3) := by decide +kernel
theorem dX11_of_66 : decode cX11_of 66 = .ok (.bipush 27, 2) := by decide +kernel
theorem dX11_of_68 : decode cX11_of 68 = .ok (.iload_n 1, 1) := by decide +kernel
theorem dX11_of_69 : decode cX11_of 69 = .ok (.iadd, 1) := by decide +kernel
theorem dX11_of_70 : decode cX11_of 70 = .ok (.iaload, 1) := by decide +kernel
theorem dX11_of_71 : decode cX11_of 71 = .ok (.ireturn, 1) := by decide +kernel
theorem dX11_of_72 : decode cX11_of 72 = .ok (.aload_n 0, 1) := by decide +kernel
theorem dX11_of_73 : decode cX11_of 73 = .ok (.getfield 9, 3) := by decide +kernel
theorem dX11_of_76 : decode cX11_of 76 = .ok (.bipush 47, 2) := by decide +kernel
theorem dX11_of_78 : decode cX11_of 78 = .ok (.iload_n 1, 1) := by decide +kernel
theorem dX11_of_79 : decode cX11_of 79 = .ok (.iadd, 1) := by decide +kernel
theorem dX11_of_80 : decode cX11_of 80 = .ok (.iaload, 1) := by decide +kernel
theorem dX11_of_81 : decode cX11_of 81 = .ok (.ireturn, 1) := by decide +kernel
theorem dX11_of_82 : decode cX11_of 82 = .ok (.iconst 1, 1) := by decide +kernel
theorem dX11_of_83 : decode cX11_of 83 = .ok (.aload_n 0, 1) := by decide +kernel
theorem dX11_of_84 : decode cX11_of 84 = .ok (.iload_n 1, 1) := by decide +kernel
theorem dX11_of_85 : decode cX11_of 85 = .ok (.invokevirtual 80, 3) := by decide +kernel
theorem dX11_of_88 : decode cX11_of 88 = .ok (.iadd, 1) := by decide +kernel
theorem dX11_of_89 : decode cX11_of 89 = .ok (.ireturn, 1) := by decide +kernel
set_option maxRecDepth 20000 in
theorem ggX11_mark_X11_isNote : GoodIn wsX11_mark wsX11_isNote := goodIn_r _ [7, 2, 8, 9, 6, 10, 22, 23, 24, 25, 26, 27, 28, 29, 30, 31, 32, 33, 34, 35, 36, 37, 38, 39, 40] (by decide +kernel) (by decide +kernel)
set_option maxRecDepth 20000 in
theorem gX11_mark_X11_isNote : GoodIn wsX11_mark (wsV RX11 76 RX11 yX11_isNote wsX11_isNote) := goodIn_app (goodIn_of _ (by decide +kernel)) ggX11_mark_X11_isNote
set_option maxRecDepth 20000 in
theorem ggX11_mark_X11_within : GoodIn wsX11_mark wsX11_within := goodIn_r _ [10] (by decide +kernel) (by decide +kernel)
set_option maxRecDepth 20000 in
theorem gX11_mark_X11_within : GoodIn wsX11_mark (va_wsS RX11 54 yX11_within wsX11_within) := goodIn_app (goodIn_of _ (by decide +kernel)) ggX11_mark_X11_within
set_option maxRecDepth 20000 in
theorem ggX11_mark_X11_finding : GoodIn wsX11_mark wsX11_finding := goodIn_r _ [14, 15, 22, 23, 24, 25, 26, 27, 28, 29, 30, 31, 32, 33, 34, 35, 36, 37, 38, 39, 40] (by decide +kernel) (by decide +kernel)
set_option maxRecDepth 20000 in
theorem gX11_mark_X11_finding : GoodIn wsX11_mark (wsV RX11 62 RX11 yX11_finding wsX11_finding) := goodIn_app (goodIn_of _ (by decide +kernel)) ggX11_mark_X11_finding
set_option maxRecDepth 20000 in
theorem ggX11_mark_X11_keep : GoodIn wsX11_mark wsX11_keep := goodIn_r _ [19, 20, 21, 2, 22, 23, 24, 25, 26, 27, 28, 29, 30, 31, 32, 33, 34, 35, 36, 37, 38, 39, 40] (by decide +kernel) (by decide +kernel)
set_option maxRecDepth 20000 in
theorem gX11_mark_X11_keep : GoodIn wsX11_mark (wsV RX11 73 RX11 yX11_keep wsX11_keep) := goodIn_app (goodIn_of _ (by decide +kernel)) ggX11_mark_X11_keep
theorem dX11_mark_0 : decode cX11_mark 0 = .ok (.aload_n 0, 1) := by decide +kernel
theorem dX11_mark_1 : decode cX11_mark 1 = .ok (.iload_n 1, 1) := by decide +kernel
theorem dX11_mark_2 : decode cX11_mark 2 = .ok (.invokevirtual 76, 3) := by decide +kernel
theorem dX11_mark_5 : decode cX11_mark 5 = .ok (.ifCond .eq 12, 3) := by decide +kernel
theorem dX11_mark_8 : decode cX11_mark 8 = .ok (.iload_n 2, 1) := by decide +kernel
theorem dX11_mark_9 : decode cX11_mark 9 = .ok (.iconst (-1), 1) := by decide +kernel
theorem dX11_mark_10 : decode cX11_mark 10 = .ok (.iconst 1, 1) := by decide +kernel
theorem dX11_mark_11 : decode cX11_mark 11 = .ok (.invokestatic 54, 3) := by decide +kernel
theorem dX11_mark_14 : decode cX11_mark 14 = .ok (.ifCond .ne 10, 3) := by decide +kernel
theorem dX11_mark_17 : decode cX11_mark 17 = .ok (.aload_n 0, 1) := by decide +kernel
theorem dX11_mark_18 : decode cX11_mark 18 = .ok (.ldc 70, 2) := by decide +kernel
theorem dX11_mark_20 : decode cX11_mark 20 = .ok (.invokevirtual 62, 3) := by decide +kernel
theorem dX11_mark_23 : decode cX11_mark 23 = .ok (.ireturn, 1) := by decide +kernel
theorem dX11_mark_24 : decode cX11_mark 24 = .ok (.aload_n 0, 1) := by decide +kernel
theorem dX11_mark_25 : decode cX11_mark 25 = .ok (.invokevirtual 73, 3) := by decide +kernel
theorem dX11_mark_28 : decode cX11_mark 28 = .ok (.aload_n 0, 1) := by decide +kernel
theorem dX11_mark_29 : decode cX11_mark 29 = .ok (.getfield 9, 3) := by decide +kernel
theorem dX11_mark_32 : decode cX11_mark 32 = .ok (.bipush 67, 2) := by decide +kernel
theorem dX11_mark_34 : decode cX11_mark 34 = .ok (.iload_n 1, 1) := by decide +kernel
theorem dX11_mark_35 : decode cX11_mark 35 = .ok (.iadd, 1) := by decide +kernel
theorem dX11_mark_36 : decode cX11_mark 36 = .ok (.iaload, 1) := by decide +kernel
theorem dX11_mark_37 : decode cX11_mark 37 = .ok (.istore_n 3, 1) := by decide +kernel
