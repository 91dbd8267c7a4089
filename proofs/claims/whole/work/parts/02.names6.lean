theorem dX11_fast_2 : decode cX11_fast 2 = .ok (.iload_n 2, 1) := by decide +kernel
theorem dX11_fast_3 : decode cX11_fast 3 = .ok (.iload_n 3, 1) := by decide +kernel
theorem dX11_fast_4 : decode cX11_fast 4 = .ok (.invokevirtual 154, 3) := by decide +kernel
theorem dX11_fast_7 : decode cX11_fast 7 = .ok (.ifCond .ne 10, 3) := by decide +kernel
theorem dX11_fast_10 : decode cX11_fast 10 = .ok (.aload_n 0, 1) := by decide +kernel
theorem dX11_fast_11 : decode cX11_fast 11 = .ok (.ldc 70, 2) := by decide +kernel
theorem dX11_fast_13 : decode cX11_fast 13 = .ok (.invokevirtual 62, 3) := by decide +kernel
theorem dX11_fast_16 : decode cX11_fast 16 = .ok (.ireturn, 1) := by decide +kernel
theorem dX11_fast_17 : decode cX11_fast 17 = .ok (.aload_n 0, 1) := by decide +kernel
theorem dX11_fast_18 : decode cX11_fast 18 = .ok (.getfield 9, 3) := by decide +kernel
theorem dX11_fast_21 : decode cX11_fast 21 = .ok (.iconst 1, 1) := by decide +kernel
theorem dX11_fast_22 : decode cX11_fast 22 = .ok (.iaload, 1) := by decide +kernel
theorem dX11_fast_23 : decode cX11_fast 23 = .ok (.ifCond .ne 12, 3) := by decide +kernel
theorem dX11_fast_26 : decode cX11_fast 26 = .ok (.aload_n 0, 1) := by decide +kernel
theorem dX11_fast_27 : decode cX11_fast 27 = .ok (.ldc 61, 2) := by decide +kernel
theorem dX11_fast_29 : decode cX11_fast 29 = .ok (.invokevirtual 62, 3) := by decide +kernel
theorem dX11_fast_32 : decode cX11_fast 32 = .ok (.goto 10, 3) := by decide +kernel
theorem dX11_fast_35 : decode cX11_fast 35 = .ok (.aload_n 0, 1) := by decide +kernel
theorem dX11_fast_36 : decode cX11_fast 36 = .ok (.iload_n 1, 1) := by decide +kernel
theorem dX11_fast_37 : decode cX11_fast 37 = .ok (.iload_n 2, 1) := by decide +kernel
theorem dX11_fast_38 : decode cX11_fast 38 = .ok (.iload_n 3, 1) := by decide +kernel
theorem dX11_fast_39 : decode cX11_fast 39 = .ok (.invokevirtual 160, 3) := by decide +kernel
theorem dX11_fast_42 : decode cX11_fast 42 = .ok (.ireturn, 1) := by decide +kernel
set_option maxRecDepth 20000 in
theorem ggX11_shape_X11_isRun : GoodIn wsX11_shape wsX11_isRun := goodIn_r _ [8, 9, 10, 11, 7, 12, 2, 13, 14, 15, 29, 30, 31, 32, 33, 34, 35, 36, 37, 38, 39, 40, 41, 42, 43, 44, 45, 46, 47] (by decide +kernel) (by decide +kernel)
set_option maxRecDepth 20000 in
theorem gX11_shape_X11_isRun : GoodIn wsX11_shape (wsV RX11 154 RX11 yX11_isRun wsX11_isRun) := goodIn_app (goodIn_of _ (by decide +kernel)) ggX11_shape_X11_isRun
set_option maxRecDepth 20000 in
theorem ggX11_shape_X11_finding : GoodIn wsX11_shape wsX11_finding := goodIn_r _ [19, 20, 29, 30, 31, 32, 33, 34, 35, 36, 37, 38, 39, 40, 41, 42, 43, 44, 45, 46, 47] (by decide +kernel) (by decide +kernel)
set_option maxRecDepth 20000 in
theorem gX11_shape_X11_finding : GoodIn wsX11_shape (wsV RX11 62 RX11 yX11_finding wsX11_finding) := goodIn_app (goodIn_of _ (by decide +kernel)) ggX11_shape_X11_finding
set_option maxRecDepth 20000 in
theorem ggX11_shape_X11_tooFast : GoodIn wsX11_shape wsX11_tooFast := goodIn_r _ [24, 2, 25, 26, 27, 7, 28, 29, 30, 31, 32, 33, 34, 35, 36, 37, 38, 39, 40, 41, 42, 43, 44, 45, 46, 47] (by decide +kernel) (by decide +kernel)
set_option maxRecDepth 20000 in
theorem gX11_shape_X11_tooFast : GoodIn wsX11_shape (wsV RX11 160 RX11 yX11_tooFast wsX11_tooFast) := goodIn_app (goodIn_of _ (by decide +kernel)) ggX11_shape_X11_tooFast
theorem dX11_shape_0 : decode cX11_shape 0 = .ok (.aload_n 0, 1) := by decide +kernel
theorem dX11_shape_1 : decode cX11_shape 1 = .ok (.iload_n 1, 1) := by decide +kernel
theorem dX11_shape_2 : decode cX11_shape 2 = .ok (.iload_n 2, 1) := by decide +kernel
theorem dX11_shape_3 : decode cX11_shape 3 = .ok (.iconst 0, 1) := by decide +kernel
theorem dX11_shape_4 : decode cX11_shape 4 = .ok (.invokevirtual 154, 3) := by decide +kernel
theorem dX11_shape_7 : decode cX11_shape 7 = .ok (.ifCond .ne 10, 3) := by decide +kernel
theorem dX11_shape_10 : decode cX11_shape 10 = .ok (.aload_n 0, 1) := by decide +kernel
theorem dX11_shape_11 : decode cX11_shape 11 = .ok (.ldc 70, 2) := by decide +kernel
theorem dX11_shape_13 : decode cX11_shape 13 = .ok (.invokevirtual 62, 3) := by decide +kernel
theorem dX11_shape_16 : decode cX11_shape 16 = .ok (.ireturn, 1) := by decide +kernel
theorem dX11_shape_17 : decode cX11_shape 17 = .ok (.aload_n 0, 1) := by decide +kernel
theorem dX11_shape_18 : decode cX11_shape 18 = .ok (.getfield 9, 3) := by decide +kernel
theorem dX11_shape_21 : decode cX11_shape 21 = .ok (.iconst 1, 1) := by decide +kernel
theorem dX11_shape_22 : decode cX11_shape 22 = .ok (.iaload, 1) := by decide +kernel
theorem dX11_shape_23 : decode cX11_shape 23 = .ok (.ifCond .ne 10, 3) := by decide +kernel
theorem dX11_shape_26 : decode cX11_shape 26 = .ok (.aload_n 0, 1) := by decide +kernel
theorem dX11_shape_27 : decode cX11_shape 27 = .ok (.ldc 61, 2) := by decide +kernel
theorem dX11_shape_29 : decode cX11_shape 29 = .ok (.invokevirtual 62, 3) := by decide +kernel
theorem dX11_shape_32 : decode cX11_shape 32 = .ok (.ireturn, 1) := by decide +kernel
theorem dX11_shape_33 : decode cX11_shape 33 = .ok (.iconst 0, 1) := by decide +kernel
theorem dX11_shape_34 : decode cX11_shape 34 = .ok (.istore_n 3, 1) := by decide +kernel
theorem dX11_shape_35 : decode cX11_shape 35 = .ok (.iconst 1, 1) := by decide +kernel
theorem dX11_shape_36 : decode cX11_shape 36 = .ok (.istore 4, 2) := by decide +kernel
theorem dX11_shape_38 : decode cX11_shape 38 = .ok (.iload 4, 2) := by decide +kernel
theorem dX11_shape_40 : decode cX11_shape 40 = .ok (.iconst 3, 1) := by decide +kernel
theorem dX11_shape_41 : decode cX11_shape 41 = .ok (.if_icmp .ge 34, 3) := by decide +kernel
theorem dX11_shape_44 : decode cX11_shape 44 = .ok (.aload_n 0, 1) := by decide +kernel
theorem dX11_shape_45 : decode cX11_shape 45 = .ok (.iload_n 1, 1) := by decide +kernel
theorem dX11_shape_46 : decode cX11_shape 46 = .ok (.iload_n 2, 1) := by decide +kernel
theorem dX11_shape_47 : decode cX11_shape 47 = .ok (.iload 4, 2) := by decide +kernel
theorem dX11_shape_49 : decode cX11_shape 49 = .ok (.invokevirtual 160, 3) := by decide +kernel
theorem dX11_shape_52 : decode cX11_shape 52 = .ok (.aload_n 0, 1) := by decide +kernel
theorem dX11_shape_53 : decode cX11_shape 53 = .ok (.iload_n 1, 1) := by decide +kernel
theorem dX11_shape_54 : decode cX11_shape 54 = .ok (.iload_n 2, 1) := by decide +kernel
theorem dX11_shape_55 : decode cX11_shape 55 = .ok (.iload_n 3, 1) := by decide +kernel
theorem dX11_shape_56 : decode cX11_shape 56 = .ok (.invokevirtual 160, 3) := by decide +kernel
theorem dX11_shape_59 : decode cX11_shape 59 = .ok (.if_icmp .ge 8, 3) := by decide +kernel
theorem dX11_shape_62 : decode cX11_shape 62 = .ok (.iload 4, 2) := by decide +kernel
theorem dX11_shape_64 : decode cX11_shape 64 = .ok (.goto 4, 3) := by decide +kernel
theorem dX11_shape_67 : decode cX11_shape 67 = .ok (.iload_n 3, 1) := by decide +kernel
theorem dX11_shape_68 : decode cX11_shape 68 = .ok (.istore_n 3, 1) := by decide +kernel
theorem dX11_shape_69 : decode cX11_shape 69 = .ok (.iinc 4 1, 3) := by decide +kernel
theorem dX11_shape_72 : decode cX11_shape 72 = .ok (.goto (-34), 3) := by decide +kernel
theorem dX11_shape_75 : decode cX11_shape 75 = .ok (.iload_n 3, 1) := by decide +kernel
theorem dX11_shape_76 : decode cX11_shape 76 = .ok (.ireturn, 1) := by decide +kernel
theorem dX11_hitOf_0 : decode cX11_hitOf 0 = .ok (.aload_n 0, 1) := by decide +kernel
theorem dX11_hitOf_1 : decode cX11_hitOf 1 = .ok (.getfield 9, 3) := by decide +kernel
theorem dX11_hitOf_4 : decode cX11_hitOf 4 = .ok (.bipush 91, 2) := by decide +kernel
theorem dX11_hitOf_6 : decode cX11_hitOf 6 = .ok (.bipush 24, 2) := by decide +kernel
theorem dX11_hitOf_8 : decode cX11_hitOf 8 = .ok (.iload_n 1, 1) := by decide +kernel
theorem dX11_hitOf_9 : decode cX11_hitOf 9 = .ok (.imul, 1) := by decide +kernel
theorem dX11_hitOf_10 : decode cX11_hitOf 10 = .ok (.iadd, 1) := by decide +kernel
theorem dX11_hitOf_11 : decode cX11_hitOf 11 = .ok (.iload_n 2, 1) := by decide +kernel
theorem dX11_hitOf_12 : decode cX11_hitOf 12 = .ok (.iadd, 1) := by decide +kernel
theorem dX11_hitOf_13 : decode cX11_hitOf 13 = .ok (.iaload, 1) := by decide +kernel
theorem dX11_hitOf_14 : decode cX11_hitOf 14 = .ok (.ireturn, 1) := by decide +kernel
set_option maxRecDepth 20000 in
theorem ggX11_hit_X11_isPlayer : GoodIn wsX11_hit wsX11_isPlayer := goodIn_r _ [8, 9, 10, 7, 11] (by decide +kernel) (by decide +kernel)
set_option maxRecDepth 20000 in
theorem gX11_hit_X11_isPlayer : GoodIn wsX11_hit (va_wsS RX11 164 yX11_isPlayer wsX11_isPlayer) := goodIn_app (goodIn_of _ (by decide +kernel)) ggX11_hit_X11_isPlayer
set_option maxRecDepth 20000 in
theorem ggX11_hit_X11_isTick : GoodIn wsX11_hit wsX11_isTick := goodIn_r _ [14, 9, 10, 7, 11] (by decide +kernel) (by decide +kernel)
set_option maxRecDepth 20000 in
theorem gX11_hit_X11_isTick : GoodIn wsX11_hit (va_wsS RX11 66 yX11_isTick wsX11_isTick) := goodIn_app (goodIn_of _ (by decide +kernel)) ggX11_hit_X11_isTick
set_option maxRecDepth 20000 in
theorem ggX11_hit_X11_finding : GoodIn wsX11_hit wsX11_finding := goodIn_r _ [18, 19, 30, 31, 32, 33, 34, 35, 36, 37, 38, 39, 40, 41, 42, 43, 44, 45, 46, 47, 48] (by decide +kernel) (by decide +kernel)
set_option maxRecDepth 20000 in
theorem gX11_hit_X11_finding : GoodIn wsX11_hit (wsV RX11 62 RX11 yX11_finding wsX11_finding) := goodIn_app (goodIn_of _ (by decide +kernel)) ggX11_hit_X11_finding
set_option maxRecDepth 20000 in
theorem ggX11_hit_X11_hitOf : GoodIn wsX11_hit wsX11_hitOf := goodIn_r _ [23, 2, 30, 31, 32, 33, 34, 35, 36, 37, 38, 39, 40, 41, 42, 43, 44, 45, 46, 47, 48] (by decide +kernel) (by decide +kernel)
set_option maxRecDepth 20000 in
theorem gX11_hit_X11_hitOf : GoodIn wsX11_hit (wsV RX11 167 RX11 yX11_hitOf wsX11_hitOf) := goodIn_app (goodIn_of _ (by decide +kernel)) ggX11_hit_X11_hitOf
set_option maxRecDepth 20000 in
theorem ggX11_hit_X11_keep : GoodIn wsX11_hit wsX11_keep := goodIn_r _ [27, 28, 29, 2, 30, 31, 32, 33, 34, 35, 36, 37, 38, 39, 40, 41, 42, 43, 44, 45, 46, 47, 48] (by decide +kernel) (by decide +kernel)
set_option maxRecDepth 20000 in
theorem gX11_hit_X11_keep : GoodIn wsX11_hit (wsV RX11 73 RX11 yX11_keep wsX11_keep) := goodIn_app (goodIn_of _ (by decide +kernel)) ggX11_hit_X11_keep
theorem dX11_hit_0 : decode cX11_hit 0 = .ok (.iload_n 1, 1) := by decide +kernel
theorem dX11_hit_1 : decode cX11_hit 1 = .ok (.invokestatic 164, 3) := by decide +kernel
theorem dX11_hit_4 : decode cX11_hit 4 = .ok (.ifCond .eq 10, 3) := by decide +kernel
theorem dX11_hit_7 : decode cX11_hit 7 = .ok (.iload_n 2, 1) := by decide +kernel
theorem dX11_hit_8 : decode cX11_hit 8 = .ok (.invokestatic 66, 3) := by decide +kernel
theorem dX11_hit_11 : decode cX11_hit 11 = .ok (.ifCond .ne 10, 3) := by decide +kernel
theorem dX11_hit_14 : decode cX11_hit 14 = .ok (.aload_n 0, 1) := by decide +kernel
theorem dX11_hit_15 : decode cX11_hit 15 = .ok (.ldc 70, 2) := by decide +kernel
theorem dX11_hit_17 : decode cX11_hit 17 = .ok (.invokevirtual 62, 3) := by decide +kernel
theorem dX11_hit_20 : decode cX11_hit 20 = .ok (.ireturn, 1) := by decide +kernel
theorem dX11_hit_21 : decode cX11_hit 21 = .ok (.aload_n 0, 1) := by decide +kernel
theorem dX11_hit_22 : decode cX11_hit 22 = .ok (.getfield 9, 3) := by decide +kernel
theorem dX11_hit_25 : decode cX11_hit 25 = .ok (.bipush 87, 2) := by decide +kernel
theorem dX11_hit_27 : decode cX11_hit 27 = .ok (.iload_n 1, 1) := by decide +kernel
theorem dX11_hit_28 : decode cX11_hit 28 = .ok (.iadd, 1) := by decide +kernel
theorem dX11_hit_29 : decode cX11_hit 29 = .ok (.iaload, 1) := by decide +kernel
theorem dX11_hit_30 : decode cX11_hit 30 = .ok (.istore_n 3, 1) := by decide +kernel
theorem dX11_hit_31 : decode cX11_hit 31 = .ok (.iload_n 3, 1) := by decide +kernel
theorem dX11_hit_32 : decode cX11_hit 32 = .ok (.ifCond .le 22, 3) := by decide +kernel
theorem dX11_hit_35 : decode cX11_hit 35 = .ok (.iload_n 2, 1) := by decide +kernel
theorem dX11_hit_36 : decode cX11_hit 36 = .ok (.aload_n 0, 1) := by decide +kernel
theorem dX11_hit_37 : decode cX11_hit 37 = .ok (.iload_n 1, 1) := by decide +kernel
theorem dX11_hit_38 : decode cX11_hit 38 = .ok (.iload_n 3, 1) := by decide +kernel
theorem dX11_hit_39 : decode cX11_hit 39 = .ok (.iconst 1, 1) := by decide +kernel
theorem dX11_hit_40 : decode cX11_hit 40 = .ok (.isub, 1) := by decide +kernel
theorem dX11_hit_41 : decode cX11_hit 41 = .ok (.invokevirtual 167, 3) := by decide +kernel
theorem dX11_hit_44 : decode cX11_hit 44 = .ok (.if_icmp .ge 10, 3) := by decide +kernel
theorem dX11_hit_47 : decode cX11_hit 47 = .ok (.aload_n 0, 1) := by decide +kernel
theorem dX11_hit_48 : decode cX11_hit 48 = .ok (.ldc 71, 2) := by decide +kernel
theorem dX11_hit_50 : decode cX11_hit 50 = .ok (.invokevirtual 62, 3) := by decide +kernel
theorem dX11_hit_53 : decode cX11_hit 53 = .ok (.ireturn, 1) := by decide +kernel
theorem dX11_hit_54 : decode cX11_hit 54 = .ok (.iload_n 3, 1) := by decide +kernel
theorem dX11_hit_55 : decode cX11_hit 55 = .ok (.bipush 24, 2) := by decide +kernel
theorem dX11_hit_57 : decode cX11_hit 57 = .ok (.if_icmp .ne 10, 3) := by decide +kernel
theorem dX11_hit_60 : decode cX11_hit 60 = .ok (.aload_n 0, 1) := by decide +kernel
theorem dX11_hit_61 : decode cX11_hit 61 = .ok (.ldc 72, 2) := by decide +kernel
theorem dX11_hit_63 : decode cX11_hit 63 = .ok (.invokevirtual 62, 3) := by decide +kernel
theorem dX11_hit_66 : decode cX11_hit 66 = .ok (.ireturn, 1) := by decide +kernel
theorem dX11_hit_67 : decode cX11_hit 67 = .ok (.aload_n 0, 1) := by decide +kernel
theorem dX11_hit_68 : decode cX11_hit 68 = .ok (.invokevirtual 73, 3) := by decide +kernel
theorem dX11_hit_71 : decode cX11_hit 71 = .ok (.aload_n 0, 1) := by decide +kernel
theorem dX11_hit_72 : decode cX11_hit 72 = .ok (.getfield 9, 3) := by decide +kernel
theorem dX11_hit_75 : decode cX11_hit 75 = .ok (.bipush 91, 2) := by decide +kernel
theorem dX11_hit_77 : decode cX11_hit 77 = .ok (.bipush 24, 2) := by decide +kernel
theorem dX11_hit_79 : decode cX11_hit 79 = .ok (.iload_n 1, 1) := by decide +kernel
theorem dX11_hit_80 : decode cX11_hit 80 = .ok (.imul, 1) := by decide +kernel
theorem dX11_hit_81 : decode cX11_hit 81 = .ok (.iadd, 1) := by decide +kernel
theorem dX11_hit_82 : decode cX11_hit 82 = .ok (.iload_n 3, 1) := by decide +kernel
theorem dX11_hit_83 : decode cX11_hit 83 = .ok (.iadd, 1) := by decide +kernel
theorem dX11_hit_84 : decode cX11_hit 84 = .ok (.iload_n 2, 1) := by decide +kernel
theorem dX11_hit_85 : decode cX11_hit 85 = .ok (.iastore, 1) := by decide +kernel
theorem dX11_hit_86 : decode cX11_hit 86 = .ok (.aload_n 0, 1) := by decide +kernel
theorem dX11_hit_87 : decode cX11_hit 87 = .ok (.getfield 9, 3) := by decide +kernel
theorem dX11_hit_90 : decode cX11_hit 90 = .ok (.bipush 87, 2) := by decide +kernel
theorem dX11_hit_92 : decode cX11_hit 92 = .ok (.iload_n 1, 1) := by decide +kernel
theorem dX11_hit_93 : decode cX11_hit 93 = .ok (.iadd, 1) := by decide +kernel
theorem dX11_hit_94 : decode cX11_hit 94 = .ok (.dup2, 1) := by decide +kernel
theorem dX11_hit_95 : decode cX11_hit 95 = .ok (.iaload, 1) := by decide +kernel
theorem dX11_hit_96 : decode cX11_hit 96 = .ok (.iconst 1, 1) := by decide +kernel
theorem dX11_hit_97 : decode cX11_hit 97 = .ok (.iadd, 1) := by decide +kernel
theorem dX11_hit_98 : decode cX11_hit 98 = .ok (.iastore, 1) := by decide +kernel
theorem dX11_hit_99 : decode cX11_hit 99 = .ok (.iload_n 3, 1) := by decide +kernel
theorem dX11_hit_100 : decode cX11_hit 100 = .ok (.iconst 1, 1) := by decide +kernel
theorem dX11_hit_101 : decode cX11_hit 101 = .ok (.iadd, 1) := by decide +kernel
theorem dX11_hit_102 : decode cX11_hit 102 = .ok (.ireturn, 1) := by decide +kernel
set_option maxRecDepth 20000 in
theorem ggX11_wipe_X11_isPlayer : GoodIn wsX11_wipe wsX11_isPlayer := goodIn_r _ [6, 7, 8, 5, 9] (by decide +kernel) (by decide +kernel)
set_option maxRecDepth 20000 in
theorem gX11_wipe_X11_isPlayer : GoodIn wsX11_wipe (va_wsS RX11 164 yX11_isPlayer wsX11_isPlayer) := goodIn_app (goodIn_of _ (by decide +kernel)) ggX11_wipe_X11_isPlayer
set_option maxRecDepth 20000 in
theorem ggX11_wipe_X11_finding : GoodIn wsX11_wipe wsX11_finding := goodIn_r _ [13, 14, 21, 22, 23, 24, 25, 26, 27, 28, 29, 30, 31, 32, 33, 34, 35, 36, 37, 38, 39] (by decide +kernel) (by decide +kernel)
set_option maxRecDepth 20000 in
theorem gX11_wipe_X11_finding : GoodIn wsX11_wipe (wsV RX11 62 RX11 yX11_finding wsX11_finding) := goodIn_app (goodIn_of _ (by decide +kernel)) ggX11_wipe_X11_finding
set_option maxRecDepth 20000 in
theorem ggX11_wipe_X11_keep : GoodIn wsX11_wipe wsX11_keep := goodIn_r _ [18, 19, 20, 2, 21, 22, 23, 24, 25, 26, 27, 28, 29, 30, 31, 32, 33, 34, 35, 36, 37, 38, 39] (by decide +kernel) (by decide +kernel)
set_option maxRecDepth 20000 in
theorem gX11_wipe_X11_keep : GoodIn wsX11_wipe (wsV RX11 73 RX11 yX11_keep wsX11_keep) := goodIn_app (goodIn_of _ (by decide +kernel)) ggX11_wipe_X11_keep
theorem dX11_wipe_0 : decode cX11_wipe 0 = .ok (.iload_n 1, 1) := by decide +kernel
theorem dX11_wipe_1 : decode cX11_wipe 1 = .ok (.invokestatic 164, 3) := by decide +kernel
theorem dX11_wipe_4 : decode cX11_wipe 4 = .ok (.ifCond .ne 10, 3) := by decide +kernel
theorem dX11_wipe_7 : decode cX11_wipe 7 = .ok (.aload_n 0, 1) := by decide +kernel
theorem dX11_wipe_8 : decode cX11_wipe 8 = .ok (.ldc 70, 2) := by decide +kernel
theorem dX11_wipe_10 : decode cX11_wipe 10 = .ok (.invokevirtual 62, 3) := by decide +kernel
theorem dX11_wipe_13 : decode cX11_wipe 13 = .ok (.ireturn, 1) := by decide +kernel
theorem dX11_wipe_14 : decode cX11_wipe 14 = .ok (.aload_n 0, 1) := by decide +kernel
theorem dX11_wipe_15 : decode cX11_wipe 15 = .ok (.invokevirtual 73, 3) := by decide +kernel
theorem dX11_wipe_18 : decode cX11_wipe 18 = .ok (.aload_n 0, 1) := by decide +kernel
theorem dX11_wipe_19 : decode cX11_wipe 19 = .ok (.getfield 9, 3) := by decide +kernel
theorem dX11_wipe_22 : decode cX11_wipe 22 = .ok (.bipush 87, 2) := by decide +kernel
theorem dX11_wipe_24 : decode cX11_wipe 24 = .ok (.iload_n 1, 1) := by decide +kernel
theorem dX11_wipe_25 : decode cX11_wipe 25 = .ok (.iadd, 1) := by decide +kernel
theorem dX11_wipe_26 : decode cX11_wipe 26 = .ok (.iaload, 1) := by decide +kernel
theorem dX11_wipe_27 : decode cX11_wipe 27 = .ok (.istore_n 2, 1) := by decide +kernel
theorem dX11_wipe_28 : decode cX11_wipe 28 = .ok (.aload_n 0, 1) := by decide +kernel
theorem dX11_wipe_29 : decode cX11_wipe 29 = .ok (.getfield 9, 3) := by decide +kernel
theorem dX11_wipe_32 : decode cX11_wipe 32 = .ok (.bipush 87, 2) := by decide +kernel
theorem dX11_wipe_34 : decode cX11_wipe 34 = .ok (.iload_n 1, 1) := by decide +kernel
theorem dX11_wipe_35 : decode cX11_wipe 35 = .ok (.iadd, 1) := by decide +kernel
theorem dX11_wipe_36 : decode cX11_wipe 36 = .ok (.iconst 0, 1) := by decide +kernel
theorem dX11_wipe_37 : decode cX11_wipe 37 = .ok (.iastore, 1) := by decide +kernel
theorem dX11_wipe_38 : decode cX11_wipe 38 = .ok (.iload_n 2, 1) := by decide +kernel
theorem dX11_wipe_39 : decode cX11_wipe 39 = .ok (.ireturn, 1) := by decide +kernel
theorem dX11_priceFrom_0 : decode cX11_priceFrom 0 = .ok (.aload_n 0, 1) := by decide +kernel
theorem dX11_priceFrom_1 : decode cX11_priceFrom 1 = .ok (.getfield 41, 3) := by decide +kernel
theorem dX11_priceFrom_4 : decode cX11_priceFrom 4 = .ok (.bipush 25, 2) := by decide +kernel
theorem dX11_priceFrom_6 : decode cX11_priceFrom 6 = .ok (.iload_n 1, 1) := by decide +kernel
theorem dX11_priceFrom_7 : decode cX11_priceFrom 7 = .ok (.imul, 1) := by decide +kernel
theorem dX11_priceFrom_8 : decode cX11_priceFrom 8 = .ok (.iload_n 2, 1) := by decide +kernel
theorem dX11_priceFrom_9 : decode cX11_priceFrom 9 = .ok (.iadd, 1) := by decide +kernel
theorem dX11_priceFrom_10 : decode cX11_priceFrom 10 = .ok (.iaload, 1) := by decide +kernel
theorem dX11_priceFrom_11 : decode cX11_priceFrom 11 = .ok (.ireturn, 1) := by decide +kernel
set_option maxRecDepth 20000 in
theorem ggX11_matched_X11_hitOf : GoodIn wsX11_matched wsX11_hitOf := goodIn_r _ [11, 1, 12, 13, 14, 15, 16, 17, 18, 19, 20, 21, 22, 23, 24, 25, 26, 27, 28, 29, 30] (by decide +kernel) (by decide +kernel)
set_option maxRecDepth 20000 in
theorem gX11_matched_X11_hitOf : GoodIn wsX11_matched (wsV RX11 167 RX11 yX11_hitOf wsX11_hitOf) := goodIn_app (goodIn_of _ (by decide +kernel)) ggX11_matched_X11_hitOf
theorem dX11_matched_0 : decode cX11_matched 0 = .ok (.aload_n 0, 1) := by decide +kernel
theorem dX11_matched_1 : decode cX11_matched 1 = .ok (.getfield 9, 3) := by decide +kernel
theorem dX11_matched_4 : decode cX11_matched 4 = .ok (.bipush 27, 2) := by decide +kernel
theorem dX11_matched_6 : decode cX11_matched 6 = .ok (.iload_n 2, 1) := by decide +kernel
theorem dX11_matched_7 : decode cX11_matched 7 = .ok (.iadd, 1) := by decide +kernel
theorem dX11_matched_8 : decode cX11_matched 8 = .ok (.iaload, 1) := by decide +kernel
theorem dX11_matched_9 : decode cX11_matched 9 = .ok (.aload_n 0, 1) := by decide +kernel
theorem dX11_matched_10 : decode cX11_matched 10 = .ok (.iload_n 1, 1) := by decide +kernel
theorem dX11_matched_11 : decode cX11_matched 11 = .ok (.iload_n 3, 1) := by decide +kernel
theorem dX11_matched_12 : decode cX11_matched 12 = .ok (.invokevirtual 167, 3) := by decide +kernel
theorem dX11_matched_15 : decode cX11_matched 15 = .ok (.isub, 1) := by decide +kernel
theorem dX11_matched_16 : decode cX11_matched 16 = .ok (.invokestatic 92, 3) := by decide +kernel
theorem dX11_matched_19 : decode cX11_matched 19 = .ok (.istore 4, 2) := by decide +kernel
theorem dX11_matched_21 : decode cX11_matched 21 = .ok (.iload 4, 2) := by decide +kernel
theorem dX11_matched_23 : decode cX11_matched 23 = .ok (.aload_n 0, 1) := by decide +kernel
theorem dX11_matched_24 : decode cX11_matched 24 = .ok (.getfield 9, 3) := by decide +kernel
theorem dX11_matched_27 : decode cX11_matched 27 = .ok (.bipush 6, 2) := by decide +kernel
theorem dX11_matched_29 : decode cX11_matched 29 = .ok (.iaload, 1) := by decide +kernel
theorem dX11_matched_30 : decode cX11_matched 30 = .ok (.if_icmp .le 8, 3) := by decide +kernel
theorem dX11_matched_33 : decode cX11_matched 33 = .ok (.ldc 100, 2) := by decide +kernel
theorem dX11_matched_35 : decode cX11_matched 35 = .ok (.goto 5, 3) := by decide +kernel
theorem dX11_matched_38 : decode cX11_matched 38 = .ok (.iload 4, 2) := by decide +kernel
theorem dX11_matched_40 : decode cX11_matched 40 = .ok (.ireturn, 1) := by decide +kernel
set_option maxRecDepth 20000 in
theorem ggX11_findReading_X11_priceFrom : GoodIn wsX11_findReading wsX11_priceFrom := goodIn_r _ [12, 6, 25, 26, 27, 28, 29, 30, 31, 32, 33, 34, 35, 36, 37, 38, 39, 40, 41, 42, 43] (by decide +kernel) (by decide +kernel)
set_option maxRecDepth 20000 in
theorem gX11_findReading_X11_priceFrom : GoodIn wsX11_findReading (wsV RX11 170 RX11 yX11_priceFrom wsX11_priceFrom) := goodIn_app (goodIn_of _ (by decide +kernel)) ggX11_findReading_X11_priceFrom
set_option maxRecDepth 20000 in
theorem ggX11_findReading_X11_matched : GoodIn wsX11_findReading wsX11_matched := goodIn_r _ [16, 1, 17, 18, 4, 19, 20, 21, 22, 23, 11, 24, 25, 26, 27, 28, 29, 30, 31, 32, 33, 34, 35, 36, 37, 38, 39, 40, 41, 42, 43] (by decide +kernel) (by decide +kernel)
set_option maxRecDepth 20000 in
theorem gX11_findReading_X11_matched : GoodIn wsX11_findReading (wsV RX11 173 RX11 yX11_matched wsX11_matched) := goodIn_app (goodIn_of _ (by decide +kernel)) ggX11_findReading_X11_matched
theorem dX11_findReading_0 : decode cX11_findReading 0 = .ok (.aload_n 0, 1) := by decide +kernel
theorem dX11_findReading_1 : decode cX11_findReading 1 = .ok (.getfield 9, 3) := by decide +kernel
theorem dX11_findReading_4 : decode cX11_findReading 4 = .ok (.iconst 0, 1) := by decide +kernel
theorem dX11_findReading_5 : decode cX11_findReading 5 = .ok (.iaload, 1) := by decide +kernel
theorem dX11_findReading_6 : decode cX11_findReading 6 = .ok (.istore_n 2, 1) := by decide +kernel
theorem dX11_findReading_7 : decode cX11_findReading 7 = .ok (.aload_n 0, 1) := by decide +kernel
theorem dX11_findReading_8 : decode cX11_findReading 8 = .ok (.getfield 9, 3) := by decide +kernel
theorem dX11_findReading_11 : decode cX11_findReading 11 = .ok (.bipush 87, 2) := by decide +kernel
theorem dX11_findReading_13 : decode cX11_findReading 13 = .ok (.iload_n 1, 1) := by decide +kernel
theorem dX11_findReading_14 : decode cX11_findReading 14 = .ok (.iadd, 1) := by decide +kernel
theorem dX11_findReading_15 : decode cX11_findReading 15 = .ok (.iaload, 1) := by decide +kernel
theorem dX11_findReading_16 : decode cX11_findReading 16 = .ok (.istore_n 3, 1) := by decide +kernel
theorem dX11_findReading_17 : decode cX11_findReading 17 = .ok (.iload_n 2, 1) := by decide +kernel
theorem dX11_findReading_18 : decode cX11_findReading 18 = .ok (.istore 4, 2) := by decide +kernel
theorem dX11_findReading_20 : decode cX11_findReading 20 = .ok (.iload 4, 2) := by decide +kernel
theorem dX11_findReading_22 : decode cX11_findReading 22 = .ok (.ifCond .lt 130, 3) := by decide +kernel
theorem dX11_findReading_25 : decode cX11_findReading 25 = .ok (.iload_n 3, 1) := by decide +kernel
theorem dX11_findReading_26 : decode cX11_findReading 26 = .ok (.istore 5, 2) := by decide +kernel
theorem dX11_findReading_28 : decode cX11_findReading 28 = .ok (.iload 5, 2) := by decide +kernel
theorem dX11_findReading_30 : decode cX11_findReading 30 = .ok (.ifCond .lt 116, 3) := by decide +kernel
theorem dX11_findReading_33 : decode cX11_findReading 33 = .ok (.iload 4, 2) := by decide +kernel
theorem dX11_findReading_35 : decode cX11_findReading 35 = .ok (.iload_n 2, 1) := by decide +kernel
theorem dX11_findReading_36 : decode cX11_findReading 36 = .ok (.if_icmp .ne 13, 3) := by decide +kernel
theorem dX11_findReading_39 : decode cX11_findReading 39 = .ok (.bipush 40, 2) := by decide +kernel
theorem dX11_findReading_41 : decode cX11_findReading 41 = .ok (.iload_n 3, 1) := by decide +kernel
theorem dX11_findReading_42 : decode cX11_findReading 42 = .ok (.iload 5, 2) := by decide +kernel
theorem dX11_findReading_44 : decode cX11_findReading 44 = .ok (.isub, 1) := by decide +kernel
theorem dX11_findReading_45 : decode cX11_findReading 45 = .ok (.imul, 1) := by decide +kernel
theorem dX11_findReading_46 : decode cX11_findReading 46 = .ok (.goto 16, 3) := by decide +kernel
theorem dX11_findReading_49 : decode cX11_findReading 49 = .ok (.bipush 40, 2) := by decide +kernel
theorem dX11_findReading_51 : decode cX11_findReading 51 = .ok (.aload_n 0, 1) := by decide +kernel
theorem dX11_findReading_52 : decode cX11_findReading 52 = .ok (.iload 4, 2) := by decide +kernel
theorem dX11_findReading_54 : decode cX11_findReading 54 = .ok (.iconst 1, 1) := by decide +kernel
theorem dX11_findReading_55 : decode cX11_findReading 55 = .ok (.iadd, 1) := by decide +kernel
theorem dX11_findReading_56 : decode cX11_findReading 56 = .ok (.iload 5, 2) := by decide +kernel
theorem dX11_findReading_58 : decode cX11_findReading 58 = .ok (.invokevirtual 170, 3) := by decide +kernel
theorem dX11_findReading_61 : decode cX11_findReading 61 = .ok (.iadd, 1) := by decide +kernel
theorem dX11_findReading_62 : decode cX11_findReading 62 = .ok (.istore 6, 2) := by decide +kernel
theorem dX11_findReading_64 : decode cX11_findReading 64 = .ok (.iload 4, 2) := by decide +kernel
theorem dX11_findReading_66 : decode cX11_findReading 66 = .ok (.iload_n 2, 1) := by decide +kernel
theorem dX11_findReading_67 : decode cX11_findReading 67 = .ok (.if_icmp .ge 58, 3) := by decide +kernel
theorem dX11_findReading_70 : decode cX11_findReading 70 = .ok (.iload 5, 2) := by decide +kernel
theorem dX11_findReading_72 : decode cX11_findReading 72 = .ok (.iload_n 3, 1) := by decide +kernel
theorem dX11_findReading_73 : decode cX11_findReading 73 = .ok (.if_icmp .ge 52, 3) := by decide +kernel
theorem dX11_findReading_76 : decode cX11_findReading 76 = .ok (.iload 6, 2) := by decide +kernel
theorem dX11_findReading_78 : decode cX11_findReading 78 = .ok (.bipush 40, 2) := by decide +kernel
theorem dX11_findReading_80 : decode cX11_findReading 80 = .ok (.aload_n 0, 1) := by decide +kernel
theorem dX11_findReading_81 : decode cX11_findReading 81 = .ok (.iload 4, 2) := by decide +kernel
theorem dX11_findReading_83 : decode cX11_findReading 83 = .ok (.iload 5, 2) := by decide +kernel
theorem dX11_findReading_85 : decode cX11_findReading 85 = .ok (.iconst 1, 1) := by decide +kernel
theorem dX11_findReading_86 : decode cX11_findReading 86 = .ok (.iadd, 1) := by decide +kernel
theorem dX11_findReading_87 : decode cX11_findReading 87 = .ok (.invokevirtual 170, 3) := by decide +kernel
theorem dX11_findReading_90 : decode cX11_findReading 90 = .ok (.iadd, 1) := by decide +kernel
theorem dX11_findReading_91 : decode cX11_findReading 91 = .ok (.invokestatic 126, 3) := by decide +kernel
theorem dX11_findReading_94 : decode cX11_findReading 94 = .ok (.istore 6, 2) := by decide +kernel
theorem dX11_findReading_96 : decode cX11_findReading 96 = .ok (.iload 6, 2) := by decide +kernel
theorem dX11_findReading_98 : decode cX11_findReading 98 = .ok (.aload_n 0, 1) := by decide +kernel
theorem dX11_findReading_99 : decode cX11_findReading 99 = .ok (.iload_n 1, 1) := by decide +kernel
theorem dX11_findReading_100 : decode cX11_findReading 100 = .ok (.iload 4, 2) := by decide +kernel
theorem dX11_findReading_102 : decode cX11_findReading 102 = .ok (.iload 5, 2) := by decide +kernel
theorem dX11_findReading_104 : decode cX11_findReading 104 = .ok (.invokevirtual 173, 3) := by decide +kernel
theorem dX11_findReading_107 : decode cX11_findReading 107 = .ok (.aload_n 0, 1) := by decide +kernel
theorem dX11_findReading_108 : decode cX11_findReading 108 = .ok (.iload 4, 2) := by decide +kernel
theorem dX11_findReading_110 : decode cX11_findReading 110 = .ok (.iconst 1, 1) := by decide +kernel
theorem dX11_findReading_111 : decode cX11_findReading 111 = .ok (.iadd, 1) := by decide +kernel
theorem dX11_findReading_112 : decode cX11_findReading 112 = .ok (.iload 5, 2) := by decide +kernel
theorem dX11_findReading_114 : decode cX11_findReading 114 = .ok (.iconst 1, 1) := by decide +kernel
theorem dX11_findReading_115 : decode cX11_findReading 115 = .ok (.iadd, 1) := by decide +kernel
theorem dX11_findReading_116 : decode cX11_findReading 116 = .ok (.invokevirtual 170, 3) := by decide +kernel
theorem dX11_findReading_119 : decode cX11_findReading 119 = .ok (.iadd, 1) := by decide +kernel
theorem dX11_findReading_120 : decode cX11_findReading 120 = .ok (.invokestatic 126, 3) := by decide +kernel
theorem dX11_findReading_123 : decode cX11_findReading 123 = .ok (.istore 6, 2) := by decide +kernel
theorem dX11_findReading_125 : decode cX11_findReading 125 = .ok (.aload_n 0, 1) := by decide +kernel
theorem dX11_findReading_126 : decode cX11_findReading 126 = .ok (.getfield 41, 3) := by decide +kernel
theorem dX11_findReading_129 : decode cX11_findReading 129 = .ok (.bipush 25, 2) := by decide +kernel
theorem dX11_findReading_131 : decode cX11_findReading 131 = .ok (.iload 4, 2) := by decide +kernel
theorem dX11_findReading_133 : decode cX11_findReading 133 = .ok (.imul, 1) := by decide +kernel
theorem dX11_findReading_134 : decode cX11_findReading 134 = .ok (.iload 5, 2) := by decide +kernel
theorem dX11_findReading_136 : decode cX11_findReading 136 = .ok (.iadd, 1) := by decide +kernel
theorem dX11_findReading_137 : decode cX11_findReading 137 = .ok (.iload 6, 2) := by decide +kernel
theorem dX11_findReading_139 : decode cX11_findReading 139 = .ok (.iastore, 1) := by decide +kernel
theorem dX11_findReading_140 : decode cX11_findReading 140 = .ok (.iinc 5 (-1), 3) := by decide +kernel
theorem dX11_findReading_143 : decode cX11_findReading 143 = .ok (.goto (-115), 3) := by decide +kernel
theorem dX11_findReading_146 : decode cX11_findReading 146 = .ok (.iinc 4 (-1), 3) := by decide +kernel
theorem dX11_findReading_149 : decode cX11_findReading 149 = .ok (.goto (-129), 3) := by decide +kernel
theorem dX11_findReading_152 : decode cX11_findReading 152 = .ok (.iconst 0, 1) := by decide +kernel
theorem dX11_findReading_153 : decode cX11_findReading 153 = .ok (.istore 4, 2) := by decide +kernel
theorem dX11_findReading_155 : decode cX11_findReading 155 = .ok (.iconst 0, 1) := by decide +kernel
theorem dX11_findReading_156 : decode cX11_findReading 156 = .ok (.istore 5, 2) := by decide +kernel
theorem dX11_findReading_158 : decode cX11_findReading 158 = .ok (.iload 5, 2) := by decide +kernel
theorem dX11_findReading_160 : decode cX11_findReading 160 = .ok (.iload_n 2, 1) := by decide +kernel
theorem dX11_findReading_161 : decode cX11_findReading 161 = .ok (.if_icmp .ge 134, 3) := by decide +kernel
theorem dX11_findReading_164 : decode cX11_findReading 164 = .ok (.aload_n 0, 1) := by decide +kernel
theorem dX11_findReading_165 : decode cX11_findReading 165 = .ok (.getfield 44, 3) := by decide +kernel
theorem dX11_findReading_168 : decode cX11_findReading 168 = .ok (.iload 5, 2) := by decide +kernel
theorem dX11_findReading_170 : decode cX11_findReading 170 = .ok (.iconst (-1), 1) := by decide +kernel
theorem dX11_findReading_171 : decode cX11_findReading 171 = .ok (.iastore, 1) := by decide +kernel
theorem dX11_findReading_172 : decode cX11_findReading 172 = .ok (.iload_n 3, 1) := by decide +kernel
theorem dX11_findReading_173 : decode cX11_findReading 173 = .ok (.iconst 1, 1) := by decide +kernel
theorem dX11_findReading_174 : decode cX11_findReading 174 = .ok (.isub, 1) := by decide +kernel
theorem dX11_findReading_175 : decode cX11_findReading 175 = .ok (.istore 6, 2) := by decide +kernel
theorem dX11_findReading_177 : decode cX11_findReading 177 = .ok (.iload 6, 2) := by decide +kernel
theorem dX11_findReading_179 : decode cX11_findReading 179 = .ok (.iload 4, 2) := by decide +kernel
theorem dX11_findReading_181 : decode cX11_findReading 181 = .ok (.if_icmp .lt 82, 3) := by decide +kernel
theorem dX11_findReading_184 : decode cX11_findReading 184 = .ok (.bipush 40, 2) := by decide +kernel
theorem dX11_findReading_186 : decode cX11_findReading 186 = .ok (.iload 6, 2) := by decide +kernel
theorem dX11_findReading_188 : decode cX11_findReading 188 = .ok (.iload 4, 2) := by decide +kernel
theorem dX11_findReading_190 : decode cX11_findReading 190 = .ok (.isub, 1) := by decide +kernel
theorem dX11_findReading_191 : decode cX11_findReading 191 = .ok (.imul, 1) := by decide +kernel
theorem dX11_findReading_192 : decode cX11_findReading 192 = .ok (.aload_n 0, 1) := by decide +kernel
theorem dX11_findReading_193 : decode cX11_findReading 193 = .ok (.iload_n 1, 1) := by decide +kernel
theorem dX11_findReading_194 : decode cX11_findReading 194 = .ok (.iload 5, 2) := by decide +kernel
theorem dX11_findReading_196 : decode cX11_findReading 196 = .ok (.iload 6, 2) := by decide +kernel
theorem dX11_findReading_198 : decode cX11_findReading 198 = .ok (.invokevirtual 173, 3) := by decide +kernel
theorem dX11_findReading_201 : decode cX11_findReading 201 = .ok (.iadd, 1) := by decide +kernel
theorem dX11_findReading_202 : decode cX11_findReading 202 = .ok (.aload_n 0, 1) := by decide +kernel
theorem dX11_findReading_203 : decode cX11_findReading 203 = .ok (.iload 5, 2) := by decide +kernel
theorem dX11_findReading_205 : decode cX11_findReading 205 = .ok (.iconst 1, 1) := by decide +kernel
theorem dX11_findReading_206 : decode cX11_findReading 206 = .ok (.iadd, 1) := by decide +kernel
theorem dX11_findReading_207 : decode cX11_findReading 207 = .ok (.iload 6, 2) := by decide +kernel
theorem dX11_findReading_209 : decode cX11_findReading 209 = .ok (.iconst 1, 1) := by decide +kernel
theorem dX11_findReading_210 : decode cX11_findReading 210 = .ok (.iadd, 1) := by decide +kernel
theorem dX11_findReading_211 : decode cX11_findReading 211 = .ok (.invokevirtual 170, 3) := by decide +kernel
theorem dX11_findReading_214 : decode cX11_findReading 214 = .ok (.iadd, 1) := by decide +kernel
theorem dX11_findReading_215 : decode cX11_findReading 215 = .ok (.aload_n 0, 1) := by decide +kernel
theorem dX11_findReading_216 : decode cX11_findReading 216 = .ok (.iload 5, 2) := by decide +kernel
theorem dX11_findReading_218 : decode cX11_findReading 218 = .ok (.iload 4, 2) := by decide +kernel
theorem dX11_findReading_220 : decode cX11_findReading 220 = .ok (.invokevirtual 170, 3) := by decide +kernel
theorem dX11_findReading_223 : decode cX11_findReading 223 = .ok (.if_icmp .ne 7, 3) := by decide +kernel
theorem dX11_findReading_226 : decode cX11_findReading 226 = .ok (.iconst 1, 1) := by decide +kernel
theorem dX11_findReading_227 : decode cX11_findReading 227 = .ok (.goto 4, 3) := by decide +kernel
theorem dX11_findReading_230 : decode cX11_findReading 230 = .ok (.iconst 0, 1) := by decide +kernel
theorem dX11_findReading_231 : decode cX11_findReading 231 = .ok (.istore 7, 2) := by decide +kernel
theorem dX11_findReading_233 : decode cX11_findReading 233 = .ok (.aload_n 0, 1) := by decide +kernel
theorem dX11_findReading_234 : decode cX11_findReading 234 = .ok (.getfield 44, 3) := by decide +kernel
theorem dX11_findReading_237 : decode cX11_findReading 237 = .ok (.iload 5, 2) := by decide +kernel
theorem dX11_findReading_239 : decode cX11_findReading 239 = .ok (.iload 7, 2) := by decide +kernel
theorem dX11_findReading_241 : decode cX11_findReading 241 = .ok (.ifCond .eq 8, 3) := by decide +kernel
theorem dX11_findReading_244 : decode cX11_findReading 244 = .ok (.iload 6, 2) := by decide +kernel
theorem dX11_findReading_246 : decode cX11_findReading 246 = .ok (.goto 10, 3) := by decide +kernel
theorem dX11_findReading_249 : decode cX11_findReading 249 = .ok (.aload_n 0, 1) := by decide +kernel
theorem dX11_findReading_250 : decode cX11_findReading 250 = .ok (.getfield 44, 3) := by decide +kernel
theorem dX11_findReading_253 : decode cX11_findReading 253 = .ok (.iload 5, 2) := by decide +kernel
theorem dX11_findReading_255 : decode cX11_findReading 255 = .ok (.iaload, 1) := by decide +kernel
theorem dX11_findReading_256 : decode cX11_findReading 256 = .ok (.iastore, 1) := by decide +kernel
theorem dX11_findReading_257 : decode cX11_findReading 257 = .ok (.iinc 6 (-1), 3) := by decide +kernel
theorem dX11_findReading_260 : decode cX11_findReading 260 = .ok (.goto (-83), 3) := by decide +kernel
theorem dX11_findReading_263 : decode cX11_findReading 263 = .ok (.aload_n 0, 1) := by decide +kernel
theorem dX11_findReading_264 : decode cX11_findReading 264 = .ok (.getfield 44, 3) := by decide +kernel
theorem dX11_findReading_267 : decode cX11_findReading 267 = .ok (.iload 5, 2) := by decide +kernel
theorem dX11_findReading_269 : decode cX11_findReading 269 = .ok (.iaload, 1) := by decide +kernel
theorem dX11_findReading_270 : decode cX11_findReading 270 = .ok (.ifCond .lt 15, 3) := by decide +kernel
theorem dX11_findReading_273 : decode cX11_findReading 273 = .ok (.aload_n 0, 1) := by decide +kernel
theorem dX11_findReading_274 : decode cX11_findReading 274 = .ok (.getfield 44, 3) := by decide +kernel
theorem dX11_findReading_277 : decode cX11_findReading 277 = .ok (.iload 5, 2) := by decide +kernel
theorem dX11_findReading_279 : decode cX11_findReading 279 = .ok (.iaload, 1) := by decide +kernel
theorem dX11_findReading_280 : decode cX11_findReading 280 = .ok (.iconst 1, 1) := by decide +kernel
theorem dX11_findReading_281 : decode cX11_findReading 281 = .ok (.iadd, 1) := by decide +kernel
theorem dX11_findReading_282 : decode cX11_findReading 282 = .ok (.goto 5, 3) := by decide +kernel
theorem dX11_findReading_285 : decode cX11_findReading 285 = .ok (.iload 4, 2) := by decide +kernel
theorem dX11_findReading_287 : decode cX11_findReading 287 = .ok (.istore 4, 2) := by decide +kernel
theorem dX11_findReading_289 : decode cX11_findReading 289 = .ok (.iinc 5 1, 3) := by decide +kernel
theorem dX11_findReading_292 : decode cX11_findReading 292 = .ok (.goto (-134), 3) := by decide +kernel
theorem dX11_findReading_295 : decode cX11_findReading 295 = .ok (.return_, 1) := by decide +kernel
set_option maxRecDepth 20000 in
theorem ggX11_price_X11_isPlayer : GoodIn wsX11_price wsX11_isPlayer := goodIn_r _ [5, 6, 7, 4, 8] (by decide +kernel) (by decide +kernel)
set_option maxRecDepth 20000 in
theorem gX11_price_X11_isPlayer : GoodIn wsX11_price (va_wsS RX11 164 yX11_isPlayer wsX11_isPlayer) := goodIn_app (goodIn_of _ (by decide +kernel)) ggX11_price_X11_isPlayer
set_option maxRecDepth 20000 in
theorem ggX11_price_X11_finding : GoodIn wsX11_price wsX11_finding := goodIn_r _ [12, 13, 41, 42, 43, 44, 45, 46, 47, 48, 49, 50, 51, 52, 53, 54, 55, 56, 57, 58, 59] (by decide +kernel) (by decide +kernel)
set_option maxRecDepth 20000 in
theorem gX11_price_X11_finding : GoodIn wsX11_price (wsV RX11 62 RX11 yX11_finding wsX11_finding) := goodIn_app (goodIn_of _ (by decide +kernel)) ggX11_price_X11_finding
set_option maxRecDepth 20000 in
theorem ggX11_price_X11_findReading : GoodIn wsX11_price wsX11_findReading := goodIn_r _ [17, 18, 19, 20, 21, 22, 23, 24, 25, 26, 27, 4, 28, 29, 30, 31, 32, 33, 34, 35, 36, 37, 38, 39, 40, 41, 42, 43, 44, 45, 46, 47, 48, 49, 50, 51, 52, 53, 54, 55, 56, 57, 58, 59] (by decide +kernel) (by decide +kernel)
set_option maxRecDepth 20000 in
theorem gX11_price_X11_findReading : GoodIn wsX11_price (wsV RX11 176 RX11 yX11_findReading wsX11_findReading) := goodIn_app (goodIn_of _ (by decide +kernel)) ggX11_price_X11_findReading
set_option maxRecDepth 20000 in
theorem ggX11_price_X11_priceFrom : GoodIn wsX11_price wsX11_priceFrom := goodIn_r _ [28, 23, 41, 42, 43, 44, 45, 46, 47, 48, 49, 50, 51, 52, 53, 54, 55, 56, 57, 58, 59] (by decide +kernel) (by decide +kernel)
set_option maxRecDepth 20000 in
theorem gX11_price_X11_priceFrom : GoodIn wsX11_price (wsV RX11 170 RX11 yX11_priceFrom wsX11_priceFrom) := goodIn_app (goodIn_of _ (by decide +kernel)) ggX11_price_X11_priceFrom
theorem dX11_price_0 : decode cX11_price 0 = .ok (.iload_n 1, 1) := by decide +kernel
theorem dX11_price_1 : decode cX11_price 1 = .ok (.invokestatic 164, 3) := by decide +kernel
theorem dX11_price_4 : decode cX11_price 4 = .ok (.ifCond .ne 10, 3) := by decide +kernel
theorem dX11_price_7 : decode cX11_price 7 = .ok (.aload_n 0, 1) := by decide +kernel
theorem dX11_price_8 : decode cX11_price 8 = .ok (.ldc 70, 2) := by decide +kernel
theorem dX11_price_10 : decode cX11_price 10 = .ok (.invokevirtual 62, 3) := by decide +kernel
theorem dX11_price_13 : decode cX11_price 13 = .ok (.ireturn, 1) := by decide +kernel
theorem dX11_price_14 : decode cX11_price 14 = .ok (.aload_n 0, 1) := by decide +kernel
theorem dX11_price_15 : decode cX11_price 15 = .ok (.iload_n 1, 1) := by decide +kernel
theorem dX11_price_16 : decode cX11_price 16 = .ok (.invokevirtual 176, 3) := by decide +kernel
theorem dX11_price_19 : decode cX11_price 19 = .ok (.aload_n 0, 1) := by decide +kernel
theorem dX11_price_20 : decode cX11_price 20 = .ok (.iconst 0, 1) := by decide +kernel
theorem dX11_price_21 : decode cX11_price 21 = .ok (.iconst 0, 1) := by decide +kernel
theorem dX11_price_22 : decode cX11_price 22 = .ok (.invokevirtual 170, 3) := by decide +kernel
theorem dX11_price_25 : decode cX11_price 25 = .ok (.ireturn, 1) := by decide +kernel
set_option maxRecDepth 20000 in
theorem ggX11_read_X11_isPlayer : GoodIn wsX11_read wsX11_isPlayer := goodIn_r _ [7, 8, 9, 6, 10] (by decide +kernel) (by decide +kernel)
set_option maxRecDepth 20000 in
theorem gX11_read_X11_isPlayer : GoodIn wsX11_read (va_wsS RX11 164 yX11_isPlayer wsX11_isPlayer) := goodIn_app (goodIn_of _ (by decide +kernel)) ggX11_read_X11_isPlayer
set_option maxRecDepth 20000 in
theorem ggX11_read_X11_isNote : GoodIn wsX11_read wsX11_isNote := goodIn_r _ [14, 15, 8, 9, 6, 10, 46, 47, 48, 49, 50, 51, 52, 53, 54, 55, 56, 57, 58, 59, 60, 61, 62, 63, 64] (by decide +kernel) (by decide +kernel)
set_option maxRecDepth 20000 in
theorem gX11_read_X11_isNote : GoodIn wsX11_read (wsV RX11 76 RX11 yX11_isNote wsX11_isNote) := goodIn_app (goodIn_of _ (by decide +kernel)) ggX11_read_X11_isNote
set_option maxRecDepth 20000 in
theorem ggX11_read_X11_finding : GoodIn wsX11_read wsX11_finding := goodIn_r _ [19, 20, 46, 47, 48, 49, 50, 51, 52, 53, 54, 55, 56, 57, 58, 59, 60, 61, 62, 63, 64] (by decide +kernel) (by decide +kernel)
set_option maxRecDepth 20000 in
theorem gX11_read_X11_finding : GoodIn wsX11_read (wsV RX11 62 RX11 yX11_finding wsX11_finding) := goodIn_app (goodIn_of _ (by decide +kernel)) ggX11_read_X11_finding
set_option maxRecDepth 20000 in
theorem ggX11_read_X11_findReading : GoodIn wsX11_read wsX11_findReading := goodIn_r _ [24, 15, 25, 26, 27, 28, 29, 2, 30, 31, 32, 6, 33, 34, 35, 36, 37, 38, 39, 40, 41, 42, 43, 44, 45, 46, 47, 48, 49, 50, 51, 52, 53, 54, 55, 56, 57, 58, 59, 60, 61, 62, 63, 64] (by decide +kernel) (by decide +kernel)
set_option maxRecDepth 20000 in
theorem gX11_read_X11_findReading : GoodIn wsX11_read (wsV RX11 176 RX11 yX11_findReading wsX11_findReading) := goodIn_app (goodIn_of _ (by decide +kernel)) ggX11_read_X11_findReading
theorem dX11_read_0 : decode cX11_read 0 = .ok (.iload_n 1, 1) := by decide +kernel
theorem dX11_read_1 : decode cX11_read 1 = .ok (.invokestatic 164, 3) := by decide +kernel
theorem dX11_read_4 : decode cX11_read 4 = .ok (.ifCond .eq 11, 3) := by decide +kernel
theorem dX11_read_7 : decode cX11_read 7 = .ok (.aload_n 0, 1) := by decide +kernel
theorem dX11_read_8 : decode cX11_read 8 = .ok (.iload_n 2, 1) := by decide +kernel
theorem dX11_read_9 : decode cX11_read 9 = .ok (.invokevirtual 76, 3) := by decide +kernel
theorem dX11_read_12 : decode cX11_read 12 = .ok (.ifCond .ne 10, 3) := by decide +kernel
theorem dX11_read_15 : decode cX11_read 15 = .ok (.aload_n 0, 1) := by decide +kernel
theorem dX11_read_16 : decode cX11_read 16 = .ok (.ldc 70, 2) := by decide +kernel
theorem dX11_read_18 : decode cX11_read 18 = .ok (.invokevirtual 62, 3) := by decide +kernel
theorem dX11_read_21 : decode cX11_read 21 = .ok (.ireturn, 1) := by decide +kernel
theorem dX11_read_22 : decode cX11_read 22 = .ok (.aload_n 0, 1) := by decide +kernel
theorem dX11_read_23 : decode cX11_read 23 = .ok (.iload_n 1, 1) := by decide +kernel
theorem dX11_read_24 : decode cX11_read 24 = .ok (.invokevirtual 176, 3) := by decide +kernel
theorem dX11_read_27 : decode cX11_read 27 = .ok (.aload_n 0, 1) := by decide +kernel
theorem dX11_read_28 : decode cX11_read 28 = .ok (.getfield 44, 3) := by decide +kernel
theorem dX11_read_31 : decode cX11_read 31 = .ok (.iload_n 2, 1) := by decide +kernel
theorem dX11_read_32 : decode cX11_read 32 = .ok (.iaload, 1) := by decide +kernel
theorem dX11_read_33 : decode cX11_read 33 = .ok (.ifCond .ge 12, 3) := by decide +kernel
theorem dX11_read_36 : decode cX11_read 36 = .ok (.aload_n 0, 1) := by decide +kernel
theorem dX11_read_37 : decode cX11_read 37 = .ok (.ldc 61, 2) := by decide +kernel
theorem dX11_read_39 : decode cX11_read 39 = .ok (.invokevirtual 62, 3) := by decide +kernel
theorem dX11_read_42 : decode cX11_read 42 = .ok (.goto 9, 3) := by decide +kernel
theorem dX11_read_45 : decode cX11_read 45 = .ok (.aload_n 0, 1) := by decide +kernel
theorem dX11_read_46 : decode cX11_read 46 = .ok (.getfield 44, 3) := by decide +kernel
theorem dX11_read_49 : decode cX11_read 49 = .ok (.iload_n 2, 1) := by decide +kernel
theorem dX11_read_50 : decode cX11_read 50 = .ok (.iaload, 1) := by decide +kernel
theorem dX11_read_51 : decode cX11_read 51 = .ok (.ireturn, 1) := by decide +kernel
set_option maxRecDepth 20000 in
theorem ggX11_late_X11_isPlayer : GoodIn wsX11_late wsX11_isPlayer := goodIn_r _ [8, 9, 10, 7, 11] (by decide +kernel) (by decide +kernel)
set_option maxRecDepth 20000 in
theorem gX11_late_X11_isPlayer : GoodIn wsX11_late (va_wsS RX11 164 yX11_isPlayer wsX11_isPlayer) := goodIn_app (goodIn_of _ (by decide +kernel)) ggX11_late_X11_isPlayer
set_option maxRecDepth 20000 in
theorem ggX11_late_X11_isNote : GoodIn wsX11_late wsX11_isNote := goodIn_r _ [15, 4, 9, 10, 7, 11, 46, 47, 48, 49, 50, 51, 52, 53, 54, 55, 56, 57, 58, 59, 60, 61, 62, 63, 64] (by decide +kernel) (by decide +kernel)
set_option maxRecDepth 20000 in
theorem gX11_late_X11_isNote : GoodIn wsX11_late (wsV RX11 76 RX11 yX11_isNote wsX11_isNote) := goodIn_app (goodIn_of _ (by decide +kernel)) ggX11_late_X11_isNote
set_option maxRecDepth 20000 in
theorem ggX11_late_X11_finding : GoodIn wsX11_late wsX11_finding := goodIn_r _ [19, 20, 46, 47, 48, 49, 50, 51, 52, 53, 54, 55, 56, 57, 58, 59, 60, 61, 62, 63, 64] (by decide +kernel) (by decide +kernel)
set_option maxRecDepth 20000 in
theorem gX11_late_X11_finding : GoodIn wsX11_late (wsV RX11 62 RX11 yX11_finding wsX11_finding) := goodIn_app (goodIn_of _ (by decide +kernel)) ggX11_late_X11_finding
set_option maxRecDepth 20000 in
theorem ggX11_late_X11_findReading : GoodIn wsX11_late wsX11_findReading := goodIn_r _ [24, 4, 25, 26, 27, 28, 29, 2, 30, 31, 32, 7, 33, 34, 35, 36, 37, 38, 39, 40, 41, 42, 43, 44, 45, 46, 47, 48, 49, 50, 51, 52, 53, 54, 55, 56, 57, 58, 59, 60, 61, 62, 63, 64] (by decide +kernel) (by decide +kernel)
set_option maxRecDepth 20000 in
theorem gX11_late_X11_findReading : GoodIn wsX11_late (wsV RX11 176 RX11 yX11_findReading wsX11_findReading) := goodIn_app (goodIn_of _ (by decide +kernel)) ggX11_late_X11_findReading
set_option maxRecDepth 20000 in
theorem ggX11_late_X11_hitOf : GoodIn wsX11_late wsX11_hitOf := goodIn_r _ [45, 4, 46, 47, 48, 49, 50, 51, 52, 53, 54, 55, 56, 57, 58, 59, 60, 61, 62, 63, 64] (by decide +kernel) (by decide +kernel)
set_option maxRecDepth 20000 in
theorem gX11_late_X11_hitOf : GoodIn wsX11_late (wsV RX11 167 RX11 yX11_hitOf wsX11_hitOf) := goodIn_app (goodIn_of _ (by decide +kernel)) ggX11_late_X11_hitOf
theorem dX11_late_0 : decode cX11_late 0 = .ok (.iload_n 1, 1) := by decide +kernel
theorem dX11_late_1 : decode cX11_late 1 = .ok (.invokestatic 164, 3) := by decide +kernel
theorem dX11_late_4 : decode cX11_late 4 = .ok (.ifCond .eq 11, 3) := by decide +kernel
theorem dX11_late_7 : decode cX11_late 7 = .ok (.aload_n 0, 1) := by decide +kernel
theorem dX11_late_8 : decode cX11_late 8 = .ok (.iload_n 2, 1) := by decide +kernel
theorem dX11_late_9 : decode cX11_late 9 = .ok (.invokevirtual 76, 3) := by decide +kernel
theorem dX11_late_12 : decode cX11_late 12 = .ok (.ifCond .ne 10, 3) := by decide +kernel
theorem dX11_late_15 : decode cX11_late 15 = .ok (.aload_n 0, 1) := by decide +kernel
theorem dX11_late_16 : decode cX11_late 16 = .ok (.ldc 70, 2) := by decide +kernel
theorem dX11_late_18 : decode cX11_late 18 = .ok (.invokevirtual 62, 3) := by decide +kernel
theorem dX11_late_21 : decode cX11_late 21 = .ok (.ireturn, 1) := by decide +kernel
theorem dX11_late_22 : decode cX11_late 22 = .ok (.aload_n 0, 1) := by decide +kernel
theorem dX11_late_23 : decode cX11_late 23 = .ok (.iload_n 1, 1) := by decide +kernel
theorem dX11_late_24 : decode cX11_late 24 = .ok (.invokevirtual 176, 3) := by decide +kernel
theorem dX11_late_27 : decode cX11_late 27 = .ok (.aload_n 0, 1) := by decide +kernel
theorem dX11_late_28 : decode cX11_late 28 = .ok (.getfield 44, 3) := by decide +kernel
theorem dX11_late_31 : decode cX11_late 31 = .ok (.iload_n 2, 1) := by decide +kernel
theorem dX11_late_32 : decode cX11_late 32 = .ok (.iaload, 1) := by decide +kernel
theorem dX11_late_33 : decode cX11_late 33 = .ok (.ifCond .ge 12, 3) := by decide +kernel
theorem dX11_late_36 : decode cX11_late 36 = .ok (.aload_n 0, 1) := by decide +kernel
theorem dX11_late_37 : decode cX11_late 37 = .ok (.ldc 61, 2) := by decide +kernel
theorem dX11_late_39 : decode cX11_late 39 = .ok (.invokevirtual 62, 3) := by decide +kernel
theorem dX11_late_42 : decode cX11_late 42 = .ok (.goto 24, 3) := by decide +kernel
theorem dX11_late_45 : decode cX11_late 45 = .ok (.aload_n 0, 1) := by decide +kernel
theorem dX11_late_46 : decode cX11_late 46 = .ok (.iload_n 1, 1) := by decide +kernel
theorem dX11_late_47 : decode cX11_late 47 = .ok (.aload_n 0, 1) := by decide +kernel
theorem dX11_late_48 : decode cX11_late 48 = .ok (.getfield 44, 3) := by decide +kernel
theorem dX11_late_51 : decode cX11_late 51 = .ok (.iload_n 2, 1) := by decide +kernel
theorem dX11_late_52 : decode cX11_late 52 = .ok (.iaload, 1) := by decide +kernel
theorem dX11_late_53 : decode cX11_late 53 = .ok (.invokevirtual 167, 3) := by decide +kernel
theorem dX11_late_56 : decode cX11_late 56 = .ok (.aload_n 0, 1) := by decide +kernel
theorem dX11_late_57 : decode cX11_late 57 = .ok (.getfield 9, 3) := by decide +kernel
theorem dX11_late_60 : decode cX11_late 60 = .ok (.bipush 27, 2) := by decide +kernel
theorem dX11_late_62 : decode cX11_late 62 = .ok (.iload_n 2, 1) := by decide +kernel
theorem dX11_late_63 : decode cX11_late 63 = .ok (.iadd, 1) := by decide +kernel
theorem dX11_late_64 : decode cX11_late 64 = .ok (.iaload, 1) := by decide +kernel
theorem dX11_late_65 : decode cX11_late 65 = .ok (.isub, 1) := by decide +kernel
theorem dX11_late_66 : decode cX11_late 66 = .ok (.ireturn, 1) := by decide +kernel
set_option maxRecDepth 20000 in
theorem ggX11_missed_X11_isPlayer : GoodIn wsX11_missed wsX11_isPlayer := goodIn_r _ [7, 8, 9, 6, 10] (by decide +kernel) (by decide +kernel)
set_option maxRecDepth 20000 in
theorem gX11_missed_X11_isPlayer : GoodIn wsX11_missed (va_wsS RX11 164 yX11_isPlayer wsX11_isPlayer) := goodIn_app (goodIn_of _ (by decide +kernel)) ggX11_missed_X11_isPlayer
set_option maxRecDepth 20000 in
theorem ggX11_missed_X11_finding : GoodIn wsX11_missed wsX11_finding := goodIn_r _ [14, 15, 41, 42, 43, 44, 45, 46, 47, 48, 49, 50, 51, 52, 53, 54, 55, 56, 57, 58, 59] (by decide +kernel) (by decide +kernel)
set_option maxRecDepth 20000 in
theorem gX11_missed_X11_finding : GoodIn wsX11_missed (wsV RX11 62 RX11 yX11_finding wsX11_finding) := goodIn_app (goodIn_of _ (by decide +kernel)) ggX11_missed_X11_finding
set_option maxRecDepth 20000 in
theorem ggX11_missed_X11_findReading : GoodIn wsX11_missed wsX11_findReading := goodIn_r _ [19, 2, 20, 21, 22, 23, 24, 3, 25, 26, 27, 6, 28, 29, 30, 31, 32, 33, 34, 35, 36, 37, 38, 39, 40, 41, 42, 43, 44, 45, 46, 47, 48, 49, 50, 51, 52, 53, 54, 55, 56, 57, 58, 59] (by decide +kernel) (by decide +kernel)
set_option maxRecDepth 20000 in
theorem gX11_missed_X11_findReading : GoodIn wsX11_missed (wsV RX11 176 RX11 yX11_findReading wsX11_findReading) := goodIn_app (goodIn_of _ (by decide +kernel)) ggX11_missed_X11_findReading
theorem dX11_missed_0 : decode cX11_missed 0 = .ok (.iload_n 1, 1) := by decide +kernel
theorem dX11_missed_1 : decode cX11_missed 1 = .ok (.invokestatic 164, 3) := by decide +kernel
theorem dX11_missed_4 : decode cX11_missed 4 = .ok (.ifCond .ne 10, 3) := by decide +kernel
theorem dX11_missed_7 : decode cX11_missed 7 = .ok (.aload_n 0, 1) := by decide +kernel
theorem dX11_missed_8 : decode cX11_missed 8 = .ok (.ldc 70, 2) := by decide +kernel
theorem dX11_missed_10 : decode cX11_missed 10 = .ok (.invokevirtual 62, 3) := by decide +kernel
theorem dX11_missed_13 : decode cX11_missed 13 = .ok (.ireturn, 1) := by decide +kernel
theorem dX11_missed_14 : decode cX11_missed 14 = .ok (.aload_n 0, 1) := by decide +kernel
theorem dX11_missed_15 : decode cX11_missed 15 = .ok (.iload_n 1, 1) := by decide +kernel
theorem dX11_missed_16 : decode cX11_missed 16 = .ok (.invokevirtual 176, 3) := by decide +kernel
theorem dX11_missed_19 : decode cX11_missed 19 = .ok (.iconst 0, 1) := by decide +kernel
theorem dX11_missed_20 : decode cX11_missed 20 = .ok (.istore_n 3, 1) := by decide +kernel
theorem dX11_missed_21 : decode cX11_missed 21 = .ok (.iconst 0, 1) := by decide +kernel
theorem dX11_missed_22 : decode cX11_missed 22 = .ok (.istore 4, 2) := by decide +kernel
theorem dX11_missed_24 : decode cX11_missed 24 = .ok (.iload 4, 2) := by decide +kernel
theorem dX11_missed_26 : decode cX11_missed 26 = .ok (.aload_n 0, 1) := by decide +kernel
theorem dX11_missed_27 : decode cX11_missed 27 = .ok (.getfield 9, 3) := by decide +kernel
theorem dX11_missed_30 : decode cX11_missed 30 = .ok (.iconst 0, 1) := by decide +kernel
theorem dX11_missed_31 : decode cX11_missed 31 = .ok (.iaload, 1) := by decide +kernel
theorem dX11_missed_32 : decode cX11_missed 32 = .ok (.if_icmp .ge 27, 3) := by decide +kernel
theorem dX11_missed_35 : decode cX11_missed 35 = .ok (.iload_n 3, 1) := by decide +kernel
theorem dX11_missed_36 : decode cX11_missed 36 = .ok (.aload_n 0, 1) := by decide +kernel
theorem dX11_missed_37 : decode cX11_missed 37 = .ok (.getfield 44, 3) := by decide +kernel
theorem dX11_missed_40 : decode cX11_missed 40 = .ok (.iload 4, 2) := by decide +kernel
theorem dX11_missed_42 : decode cX11_missed 42 = .ok (.iaload, 1) := by decide +kernel
theorem dX11_missed_43 : decode cX11_missed 43 = .ok (.ifCond .lt 7, 3) := by decide +kernel
theorem dX11_missed_46 : decode cX11_missed 46 = .ok (.iconst 1, 1) := by decide +kernel
theorem dX11_missed_47 : decode cX11_missed 47 = .ok (.goto 4, 3) := by decide +kernel
theorem dX11_missed_50 : decode cX11_missed 50 = .ok (.iconst 0, 1) := by decide +kernel
theorem dX11_missed_51 : decode cX11_missed 51 = .ok (.iadd, 1) := by decide +kernel
theorem dX11_missed_52 : decode cX11_missed 52 = .ok (.istore_n 3, 1) := by decide +kernel
theorem dX11_missed_53 : decode cX11_missed 53 = .ok (.iinc 4 1, 3) := by decide +kernel
theorem dX11_missed_56 : decode cX11_missed 56 = .ok (.goto (-32), 3) := by decide +kernel
theorem dX11_missed_59 : decode cX11_missed 59 = .ok (.iload_n 2, 1) := by decide +kernel
theorem dX11_missed_60 : decode cX11_missed 60 = .ok (.ifCond .eq 17, 3) := by decide +kernel
theorem dX11_missed_63 : decode cX11_missed 63 = .ok (.aload_n 0, 1) := by decide +kernel
theorem dX11_missed_64 : decode cX11_missed 64 = .ok (.getfield 9, 3) := by decide +kernel
theorem dX11_missed_67 : decode cX11_missed 67 = .ok (.bipush 87, 2) := by decide +kernel
theorem dX11_missed_69 : decode cX11_missed 69 = .ok (.iload_n 1, 1) := by decide +kernel
theorem dX11_missed_70 : decode cX11_missed 70 = .ok (.iadd, 1) := by decide +kernel
theorem dX11_missed_71 : decode cX11_missed 71 = .ok (.iaload, 1) := by decide +kernel
theorem dX11_missed_72 : decode cX11_missed 72 = .ok (.iload_n 3, 1) := by decide +kernel
theorem dX11_missed_73 : decode cX11_missed 73 = .ok (.isub, 1) := by decide +kernel
theorem dX11_missed_74 : decode cX11_missed 74 = .ok (.goto 11, 3) := by decide +kernel
theorem dX11_missed_77 : decode cX11_missed 77 = .ok (.aload_n 0, 1) := by decide +kernel
theorem dX11_missed_78 : decode cX11_missed 78 = .ok (.getfield 9, 3) := by decide +kernel
theorem dX11_missed_81 : decode cX11_missed 81 = .ok (.iconst 0, 1) := by decide +kernel
theorem dX11_missed_82 : decode cX11_missed 82 = .ok (.iaload, 1) := by decide +kernel
theorem dX11_missed_83 : decode cX11_missed 83 = .ok (.iload_n 3, 1) := by decide +kernel
theorem dX11_missed_84 : decode cX11_missed 84 = .ok (.isub, 1) := by decide +kernel
theorem dX11_missed_85 : decode cX11_missed 85 = .ok (.ireturn, 1) := by decide +kernel
set_option maxRecDepth 20000 in
theorem ggX11_isSheet_X11_within : GoodIn wsX11_isSheet wsX11_within := goodIn_r _ [4] (by decide +kernel) (by decide +kernel)
set_option maxRecDepth 20000 in
theorem gX11_isSheet_X11_within : GoodIn wsX11_isSheet (va_wsS RX11 54 yX11_within wsX11_within) := goodIn_app (goodIn_of _ (by decide +kernel)) ggX11_isSheet_X11_within
theorem dX11_isSheet_0 : decode cX11_isSheet 0 = .ok (.iload_n 0, 1) := by decide +kernel
theorem dX11_isSheet_1 : decode cX11_isSheet 1 = .ok (.iconst 0, 1) := by decide +kernel
theorem dX11_isSheet_2 : decode cX11_isSheet 2 = .ok (.iconst 3, 1) := by decide +kernel
theorem dX11_isSheet_3 : decode cX11_isSheet 3 = .ok (.invokestatic 54, 3) := by decide +kernel
theorem dX11_isSheet_6 : decode cX11_isSheet 6 = .ok (.ireturn, 1) := by decide +kernel
set_option maxRecDepth 20000 in
theorem ggX11_sheet_X11_isSheet : GoodIn wsX11_sheet wsX11_isSheet := goodIn_r _ [9, 10, 11, 8, 12] (by decide +kernel) (by decide +kernel)
set_option maxRecDepth 20000 in
theorem gX11_sheet_X11_isSheet : GoodIn wsX11_sheet (va_wsS RX11 179 yX11_isSheet wsX11_isSheet) := goodIn_app (goodIn_of _ (by decide +kernel)) ggX11_sheet_X11_isSheet
set_option maxRecDepth 20000 in
theorem ggX11_sheet_X11_finding : GoodIn wsX11_sheet wsX11_finding := goodIn_r _ [16, 17, 18, 19, 20, 21, 22, 23, 24, 25, 26, 27, 28, 29, 30, 31, 32, 33, 34, 35, 36] (by decide +kernel) (by decide +kernel)
set_option maxRecDepth 20000 in
theorem gX11_sheet_X11_finding : GoodIn wsX11_sheet (wsV RX11 62 RX11 yX11_finding wsX11_finding) := goodIn_app (goodIn_of _ (by decide +kernel)) ggX11_sheet_X11_finding
theorem dX11_sheet_0 : decode cX11_sheet 0 = .ok (.iload_n 1, 1) := by decide +kernel
theorem dX11_sheet_1 : decode cX11_sheet 1 = .ok (.invokestatic 179, 3) := by decide +kernel
theorem dX11_sheet_4 : decode cX11_sheet 4 = .ok (.ifCond .eq 25, 3) := by decide +kernel
theorem dX11_sheet_7 : decode cX11_sheet 7 = .ok (.iload_n 2, 1) := by decide +kernel
theorem dX11_sheet_8 : decode cX11_sheet 8 = .ok (.ifCond .eq 28, 3) := by decide +kernel
theorem dX11_sheet_11 : decode cX11_sheet 11 = .ok (.iload_n 2, 1) := by decide +kernel
theorem dX11_sheet_12 : decode cX11_sheet 12 = .ok (.bipush 8, 2) := by decide +kernel
theorem dX11_sheet_14 : decode cX11_sheet 14 = .ok (.if_icmp .eq 22, 3) := by decide +kernel
theorem dX11_sheet_17 : decode cX11_sheet 17 = .ok (.iload_n 2, 1) := by decide +kernel
theorem dX11_sheet_18 : decode cX11_sheet 18 = .ok (.bipush 16, 2) := by decide +kernel
theorem dX11_sheet_20 : decode cX11_sheet 20 = .ok (.if_icmp .eq 16, 3) := by decide +kernel
theorem dX11_sheet_23 : decode cX11_sheet 23 = .ok (.iload_n 2, 1) := by decide +kernel
theorem dX11_sheet_24 : decode cX11_sheet 24 = .ok (.bipush 32, 2) := by decide +kernel
theorem dX11_sheet_26 : decode cX11_sheet 26 = .ok (.if_icmp .eq 10, 3) := by decide +kernel
theorem dX11_sheet_29 : decode cX11_sheet 29 = .ok (.aload_n 0, 1) := by decide +kernel
theorem dX11_sheet_30 : decode cX11_sheet 30 = .ok (.ldc 70, 2) := by decide +kernel
theorem dX11_sheet_32 : decode cX11_sheet 32 = .ok (.invokevirtual 62, 3) := by decide +kernel
theorem dX11_sheet_35 : decode cX11_sheet 35 = .ok (.ireturn, 1) := by decide +kernel
theorem dX11_sheet_36 : decode cX11_sheet 36 = .ok (.iload_n 3, 1) := by decide +kernel
theorem dX11_sheet_37 : decode cX11_sheet 37 = .ok (.ifCond .ge 10, 3) := by decide +kernel
theorem dX11_sheet_40 : decode cX11_sheet 40 = .ok (.aload_n 0, 1) := by decide +kernel
theorem dX11_sheet_41 : decode cX11_sheet 41 = .ok (.ldc 71, 2) := by decide +kernel
theorem dX11_sheet_43 : decode cX11_sheet 43 = .ok (.invokevirtual 62, 3) := by decide +kernel
theorem dX11_sheet_46 : decode cX11_sheet 46 = .ok (.ireturn, 1) := by decide +kernel
theorem dX11_sheet_47 : decode cX11_sheet 47 = .ok (.iload_n 3, 1) := by decide +kernel
theorem dX11_sheet_48 : decode cX11_sheet 48 = .ok (.bipush 24, 2) := by decide +kernel
theorem dX11_sheet_50 : decode cX11_sheet 50 = .ok (.if_icmp .le 10, 3) := by decide +kernel
theorem dX11_sheet_53 : decode cX11_sheet 53 = .ok (.aload_n 0, 1) := by decide +kernel
theorem dX11_sheet_54 : decode cX11_sheet 54 = .ok (.ldc 70, 2) := by decide +kernel
theorem dX11_sheet_56 : decode cX11_sheet 56 = .ok (.invokevirtual 62, 3) := by decide +kernel
theorem dX11_sheet_59 : decode cX11_sheet 59 = .ok (.ireturn, 1) := by decide +kernel
theorem dX11_sheet_60 : decode cX11_sheet 60 = .ok (.aload_n 0, 1) := by decide +kernel
theorem dX11_sheet_61 : decode cX11_sheet 61 = .ok (.getfield 16, 3) := by decide +kernel
theorem dX11_sheet_64 : decode cX11_sheet 64 = .ok (.iload_n 1, 1) := by decide +kernel
theorem dX11_sheet_65 : decode cX11_sheet 65 = .ok (.iload_n 2, 1) := by decide +kernel
theorem dX11_sheet_66 : decode cX11_sheet 66 = .ok (.iastore, 1) := by decide +kernel
theorem dX11_sheet_67 : decode cX11_sheet 67 = .ok (.aload_n 0, 1) := by decide +kernel
theorem dX11_sheet_68 : decode cX11_sheet 68 = .ok (.getfield 19, 3) := by decide +kernel
theorem dX11_sheet_71 : decode cX11_sheet 71 = .ok (.iload_n 1, 1) := by decide +kernel
theorem dX11_sheet_72 : decode cX11_sheet 72 = .ok (.iload_n 2, 1) := by decide +kernel
theorem dX11_sheet_73 : decode cX11_sheet 73 = .ok (.ifCond .ne 7, 3) := by decide +kernel
theorem dX11_sheet_76 : decode cX11_sheet 76 = .ok (.iconst 0, 1) := by decide +kernel
theorem dX11_sheet_77 : decode cX11_sheet 77 = .ok (.goto 4, 3) := by decide +kernel
theorem dX11_sheet_80 : decode cX11_sheet 80 = .ok (.iload_n 3, 1) := by decide +kernel
theorem dX11_sheet_81 : decode cX11_sheet 81 = .ok (.iastore, 1) := by decide +kernel
theorem dX11_sheet_82 : decode cX11_sheet 82 = .ok (.iconst 0, 1) := by decide +kernel
theorem dX11_sheet_83 : decode cX11_sheet 83 = .ok (.istore 4, 2) := by decide +kernel
theorem dX11_sheet_85 : decode cX11_sheet 85 = .ok (.iload 4, 2) := by decide +kernel
theorem dX11_sheet_87 : decode cX11_sheet 87 = .ok (.bipush 24, 2) := by decide +kernel
theorem dX11_sheet_89 : decode cX11_sheet 89 = .ok (.if_icmp .ge 22, 3) := by decide +kernel
theorem dX11_sheet_92 : decode cX11_sheet 92 = .ok (.aload_n 0, 1) := by decide +kernel
theorem dX11_sheet_93 : decode cX11_sheet 93 = .ok (.getfield 22, 3) := by decide +kernel
theorem dX11_sheet_96 : decode cX11_sheet 96 = .ok (.bipush 24, 2) := by decide +kernel
theorem dX11_sheet_98 : decode cX11_sheet 98 = .ok (.iload_n 1, 1) := by decide +kernel
theorem dX11_sheet_99 : decode cX11_sheet 99 = .ok (.imul, 1) := by decide +kernel
theorem dX11_sheet_100 : decode cX11_sheet 100 = .ok (.iload 4, 2) := by decide +kernel
theorem dX11_sheet_102 : decode cX11_sheet 102 = .ok (.iadd, 1) := by decide +kernel
theorem dX11_sheet_103 : decode cX11_sheet 103 = .ok (.iconst 0, 1) := by decide +kernel
theorem dX11_sheet_104 : decode cX11_sheet 104 = .ok (.iastore, 1) := by decide +kernel
theorem dX11_sheet_105 : decode cX11_sheet 105 = .ok (.iinc 4 1, 3) := by decide +kernel
theorem dX11_sheet_108 : decode cX11_sheet 108 = .ok (.goto (-23), 3) := by decide +kernel
theorem dX11_sheet_111 : decode cX11_sheet 111 = .ok (.aload_n 0, 1) := by decide +kernel
theorem dX11_sheet_112 : decode cX11_sheet 112 = .ok (.getfield 19, 3) := by decide +kernel
theorem dX11_sheet_115 : decode cX11_sheet 115 = .ok (.iload_n 1, 1) := by decide +kernel
theorem dX11_sheet_116 : decode cX11_sheet 116 = .ok (.iaload, 1) := by decide +kernel
theorem dX11_sheet_117 : decode cX11_sheet 117 = .ok (.ireturn, 1) := by decide +kernel
set_option maxRecDepth 20000 in
theorem ggX11_put_X11_isSheet : GoodIn wsX11_put wsX11_isSheet := goodIn_r _ [9, 10, 11, 8, 12] (by decide +kernel) (by decide +kernel)
set_option maxRecDepth 20000 in
theorem gX11_put_X11_isSheet : GoodIn wsX11_put (va_wsS RX11 179 yX11_isSheet wsX11_isSheet) := goodIn_app (goodIn_of _ (by decide +kernel)) ggX11_put_X11_isSheet
set_option maxRecDepth 20000 in
theorem ggX11_put_X11_finding : GoodIn wsX11_put wsX11_finding := goodIn_r _ [16, 17, 18, 19, 20, 21, 22, 23, 24, 25, 26, 27, 28, 29, 30, 31, 32, 33, 34, 35, 36] (by decide +kernel) (by decide +kernel)
set_option maxRecDepth 20000 in
theorem gX11_put_X11_finding : GoodIn wsX11_put (wsV RX11 62 RX11 yX11_finding wsX11_finding) := goodIn_app (goodIn_of _ (by decide +kernel)) ggX11_put_X11_finding
set_option maxRecDepth 20000 in
theorem ggX11_put_X11_within : GoodIn wsX11_put wsX11_within := goodIn_r _ [12] (by decide +kernel) (by decide +kernel)
set_option maxRecDepth 20000 in
theorem gX11_put_X11_within : GoodIn wsX11_put (va_wsS RX11 54 yX11_within wsX11_within) := goodIn_app (goodIn_of _ (by decide +kernel)) ggX11_put_X11_within
theorem dX11_put_0 : decode cX11_put 0 = .ok (.iload_n 1, 1) := by decide +kernel
theorem dX11_put_1 : decode cX11_put 1 = .ok (.invokestatic 179, 3) := by decide +kernel
theorem dX11_put_4 : decode cX11_put 4 = .ok (.ifCond .ne 10, 3) := by decide +kernel
theorem dX11_put_7 : decode cX11_put 7 = .ok (.aload_n 0, 1) := by decide +kernel
theorem dX11_put_8 : decode cX11_put 8 = .ok (.ldc 70, 2) := by decide +kernel
theorem dX11_put_10 : decode cX11_put 10 = .ok (.invokevirtual 62, 3) := by decide +kernel
theorem dX11_put_13 : decode cX11_put 13 = .ok (.ireturn, 1) := by decide +kernel
theorem dX11_put_14 : decode cX11_put 14 = .ok (.aload_n 0, 1) := by decide +kernel
theorem dX11_put_15 : decode cX11_put 15 = .ok (.getfield 16, 3) := by decide +kernel
theorem dX11_put_18 : decode cX11_put 18 = .ok (.iload_n 1, 1) := by decide +kernel
theorem dX11_put_19 : decode cX11_put 19 = .ok (.iaload, 1) := by decide +kernel
theorem dX11_put_20 : decode cX11_put 20 = .ok (.ifCond .ne 10, 3) := by decide +kernel
theorem dX11_put_23 : decode cX11_put 23 = .ok (.aload_n 0, 1) := by decide +kernel
theorem dX11_put_24 : decode cX11_put 24 = .ok (.ldc 182, 2) := by decide +kernel
theorem dX11_put_26 : decode cX11_put 26 = .ok (.invokevirtual 62, 3) := by decide +kernel
theorem dX11_put_29 : decode cX11_put 29 = .ok (.ireturn, 1) := by decide +kernel
theorem dX11_put_30 : decode cX11_put 30 = .ok (.iload_n 2, 1) := by decide +kernel
theorem dX11_put_31 : decode cX11_put 31 = .ok (.iconst 0, 1) := by decide +kernel
theorem dX11_put_32 : decode cX11_put 32 = .ok (.aload_n 0, 1) := by decide +kernel
theorem dX11_put_33 : decode cX11_put 33 = .ok (.getfield 19, 3) := by decide +kernel
theorem dX11_put_36 : decode cX11_put 36 = .ok (.iload_n 1, 1) := by decide +kernel
theorem dX11_put_37 : decode cX11_put 37 = .ok (.iaload, 1) := by decide +kernel
theorem dX11_put_38 : decode cX11_put 38 = .ok (.iconst 1, 1) := by decide +kernel
theorem dX11_put_39 : decode cX11_put 39 = .ok (.isub, 1) := by decide +kernel
theorem dX11_put_40 : decode cX11_put 40 = .ok (.invokestatic 54, 3) := by decide +kernel
theorem dX11_put_43 : decode cX11_put 43 = .ok (.ifCond .ne 10, 3) := by decide +kernel
theorem dX11_put_46 : decode cX11_put 46 = .ok (.aload_n 0, 1) := by decide +kernel
theorem dX11_put_47 : decode cX11_put 47 = .ok (.ldc 70, 2) := by decide +kernel
theorem dX11_put_49 : decode cX11_put 49 = .ok (.invokevirtual 62, 3) := by decide +kernel
theorem dX11_put_52 : decode cX11_put 52 = .ok (.ireturn, 1) := by decide +kernel
theorem dX11_put_53 : decode cX11_put 53 = .ok (.bipush 32, 2) := by decide +kernel
theorem dX11_put_55 : decode cX11_put 55 = .ok (.aload_n 0, 1) := by decide +kernel
theorem dX11_put_56 : decode cX11_put 56 = .ok (.getfield 16, 3) := by decide +kernel
theorem dX11_put_59 : decode cX11_put 59 = .ok (.iload_n 1, 1) := by decide +kernel
theorem dX11_put_60 : decode cX11_put 60 = .ok (.iaload, 1) := by decide +kernel
theorem dX11_put_61 : decode cX11_put 61 = .ok (.isub, 1) := by decide +kernel
theorem dX11_put_62 : decode cX11_put 62 = .ok (.istore 4, 2) := by decide +kernel
theorem dX11_put_64 : decode cX11_put 64 = .ok (.aload_n 0, 1) := by decide +kernel
theorem dX11_put_65 : decode cX11_put 65 = .ok (.getfield 22, 3) := by decide +kernel
theorem dX11_put_68 : decode cX11_put 68 = .ok (.bipush 24, 2) := by decide +kernel
theorem dX11_put_70 : decode cX11_put 70 = .ok (.iload_n 1, 1) := by decide +kernel
theorem dX11_put_71 : decode cX11_put 71 = .ok (.imul, 1) := by decide +kernel
theorem dX11_put_72 : decode cX11_put 72 = .ok (.iload_n 2, 1) := by decide +kernel
theorem dX11_put_73 : decode cX11_put 73 = .ok (.iadd, 1) := by decide +kernel
theorem dX11_put_74 : decode cX11_put 74 = .ok (.iload_n 3, 1) := by decide +kernel
theorem dX11_put_75 : decode cX11_put 75 = .ok (.iload 4, 2) := by decide +kernel
theorem dX11_put_77 : decode cX11_put 77 = .ok (.ishl, 1) := by decide +kernel
theorem dX11_put_78 : decode cX11_put 78 = .ok (.iload 4, 2) := by decide +kernel
theorem dX11_put_80 : decode cX11_put 80 = .ok (.ishr, 1) := by decide +kernel
theorem dX11_put_81 : decode cX11_put 81 = .ok (.iastore, 1) := by decide +kernel
theorem dX11_put_82 : decode cX11_put 82 = .ok (.iconst 0, 1) := by decide +kernel
theorem dX11_put_83 : decode cX11_put 83 = .ok (.ireturn, 1) := by decide +kernel
set_option maxRecDepth 20000 in
theorem ggX11_copy_X11_isSheet : GoodIn wsX11_copy wsX11_isSheet := goodIn_r _ [11, 12, 13, 10, 14] (by decide +kernel) (by decide +kernel)
set_option maxRecDepth 20000 in
theorem gX11_copy_X11_isSheet : GoodIn wsX11_copy (va_wsS RX11 179 yX11_isSheet wsX11_isSheet) := goodIn_app (goodIn_of _ (by decide +kernel)) ggX11_copy_X11_isSheet
set_option maxRecDepth 20000 in
theorem ggX11_copy_X11_finding : GoodIn wsX11_copy wsX11_finding := goodIn_r _ [18, 19, 20, 21, 22, 23, 24, 25, 26, 27, 28, 29, 30, 31, 32, 33, 34, 35, 36, 37, 38] (by decide +kernel) (by decide +kernel)
set_option maxRecDepth 20000 in
theorem gX11_copy_X11_finding : GoodIn wsX11_copy (wsV RX11 62 RX11 yX11_finding wsX11_finding) := goodIn_app (goodIn_of _ (by decide +kernel)) ggX11_copy_X11_finding
theorem dX11_copy_0 : decode cX11_copy 0 = .ok (.iload_n 1, 1) := by decide +kernel
theorem dX11_copy_1 : decode cX11_copy 1 = .ok (.invokestatic 179, 3) := by decide +kernel
theorem dX11_copy_4 : decode cX11_copy 4 = .ok (.ifCond .eq 10, 3) := by decide +kernel
theorem dX11_copy_7 : decode cX11_copy 7 = .ok (.iload_n 3, 1) := by decide +kernel
theorem dX11_copy_8 : decode cX11_copy 8 = .ok (.invokestatic 179, 3) := by decide +kernel
theorem dX11_copy_11 : decode cX11_copy 11 = .ok (.ifCond .ne 10, 3) := by decide +kernel
theorem dX11_copy_14 : decode cX11_copy 14 = .ok (.aload_n 0, 1) := by decide +kernel
theorem dX11_copy_15 : decode cX11_copy 15 = .ok (.ldc 70, 2) := by decide +kernel
theorem dX11_copy_17 : decode cX11_copy 17 = .ok (.invokevirtual 62, 3) := by decide +kernel
theorem dX11_copy_20 : decode cX11_copy 20 = .ok (.ireturn, 1) := by decide +kernel
theorem dX11_copy_21 : decode cX11_copy 21 = .ok (.aload_n 0, 1) := by decide +kernel
theorem dX11_copy_22 : decode cX11_copy 22 = .ok (.getfield 16, 3) := by decide +kernel
theorem dX11_copy_25 : decode cX11_copy 25 = .ok (.iload_n 1, 1) := by decide +kernel
theorem dX11_copy_26 : decode cX11_copy 26 = .ok (.iaload, 1) := by decide +kernel
theorem dX11_copy_27 : decode cX11_copy 27 = .ok (.ifCond .eq 12, 3) := by decide +kernel
theorem dX11_copy_30 : decode cX11_copy 30 = .ok (.aload_n 0, 1) := by decide +kernel
theorem dX11_copy_31 : decode cX11_copy 31 = .ok (.getfield 16, 3) := by decide +kernel
theorem dX11_copy_34 : decode cX11_copy 34 = .ok (.iload_n 3, 1) := by decide +kernel
theorem dX11_copy_35 : decode cX11_copy 35 = .ok (.iaload, 1) := by decide +kernel
theorem dX11_copy_36 : decode cX11_copy 36 = .ok (.ifCond .ne 10, 3) := by decide +kernel
theorem dX11_copy_39 : decode cX11_copy 39 = .ok (.aload_n 0, 1) := by decide +kernel
theorem dX11_copy_40 : decode cX11_copy 40 = .ok (.ldc 182, 2) := by decide +kernel
theorem dX11_copy_42 : decode cX11_copy 42 = .ok (.invokevirtual 62, 3) := by decide +kernel
theorem dX11_copy_45 : decode cX11_copy 45 = .ok (.ireturn, 1) := by decide +kernel
theorem dX11_copy_46 : decode cX11_copy 46 = .ok (.aload_n 0, 1) := by decide +kernel
theorem dX11_copy_47 : decode cX11_copy 47 = .ok (.getfield 16, 3) := by decide +kernel
theorem dX11_copy_50 : decode cX11_copy 50 = .ok (.iload_n 1, 1) := by decide +kernel
theorem dX11_copy_51 : decode cX11_copy 51 = .ok (.iaload, 1) := by decide +kernel
theorem dX11_copy_52 : decode cX11_copy 52 = .ok (.aload_n 0, 1) := by decide +kernel
theorem dX11_copy_53 : decode cX11_copy 53 = .ok (.getfield 16, 3) := by decide +kernel
theorem dX11_copy_56 : decode cX11_copy 56 = .ok (.iload_n 3, 1) := by decide +kernel
theorem dX11_copy_57 : decode cX11_copy 57 = .ok (.iaload, 1) := by decide +kernel
theorem dX11_copy_58 : decode cX11_copy 58 = .ok (.if_icmp .eq 10, 3) := by decide +kernel
theorem dX11_copy_61 : decode cX11_copy 61 = .ok (.aload_n 0, 1) := by decide +kernel
theorem dX11_copy_62 : decode cX11_copy 62 = .ok (.ldc 79, 2) := by decide +kernel
theorem dX11_copy_64 : decode cX11_copy 64 = .ok (.invokevirtual 62, 3) := by decide +kernel
theorem dX11_copy_67 : decode cX11_copy 67 = .ok (.ireturn, 1) := by decide +kernel
theorem dX11_copy_68 : decode cX11_copy 68 = .ok (.iload_n 2, 1) := by decide +kernel
theorem dX11_copy_69 : decode cX11_copy 69 = .ok (.ifCond .lt 48, 3) := by decide +kernel
theorem dX11_copy_72 : decode cX11_copy 72 = .ok (.iload 4, 2) := by decide +kernel
theorem dX11_copy_74 : decode cX11_copy 74 = .ok (.ifCond .lt 43, 3) := by decide +kernel
theorem dX11_copy_77 : decode cX11_copy 77 = .ok (.iload 5, 2) := by decide +kernel
theorem dX11_copy_79 : decode cX11_copy 79 = .ok (.ifCond .lt 38, 3) := by decide +kernel
theorem dX11_copy_82 : decode cX11_copy 82 = .ok (.iload_n 2, 1) := by decide +kernel
theorem dX11_copy_83 : decode cX11_copy 83 = .ok (.i2l, 1) := by decide +kernel
theorem dX11_copy_84 : decode cX11_copy 84 = .ok (.iload 5, 2) := by decide +kernel
theorem dX11_copy_86 : decode cX11_copy 86 = .ok (.i2l, 1) := by decide +kernel
theorem dX11_copy_87 : decode cX11_copy 87 = .ok (.ladd, 1) := by decide +kernel
theorem dX11_copy_88 : decode cX11_copy 88 = .ok (.aload_n 0, 1) := by decide +kernel
theorem dX11_copy_89 : decode cX11_copy 89 = .ok (.getfield 19, 3) := by decide +kernel
theorem dX11_copy_92 : decode cX11_copy 92 = .ok (.iload_n 1, 1) := by decide +kernel
theorem dX11_copy_93 : decode cX11_copy 93 = .ok (.iaload, 1) := by decide +kernel
theorem dX11_copy_94 : decode cX11_copy 94 = .ok (.i2l, 1) := by decide +kernel
theorem dX11_copy_95 : decode cX11_copy 95 = .ok (.lcmp, 1) := by decide +kernel
theorem dX11_copy_96 : decode cX11_copy 96 = .ok (.ifCond .gt 21, 3) := by decide +kernel
theorem dX11_copy_99 : decode cX11_copy 99 = .ok (.iload 4, 2) := by decide +kernel
theorem dX11_copy_101 : decode cX11_copy 101 = .ok (.i2l, 1) := by decide +kernel
theorem dX11_copy_102 : decode cX11_copy 102 = .ok (.iload 5, 2) := by decide +kernel
theorem dX11_copy_104 : decode cX11_copy 104 = .ok (.i2l, 1) := by decide +kernel
theorem dX11_copy_105 : decode cX11_copy 105 = .ok (.ladd, 1) := by decide +kernel
theorem dX11_copy_106 : decode cX11_copy 106 = .ok (.aload_n 0, 1) := by decide +kernel
theorem dX11_copy_107 : decode cX11_copy 107 = .ok (.getfield 19, 3) := by decide +kernel
theorem dX11_copy_110 : decode cX11_copy 110 = .ok (.iload_n 3, 1) := by decide +kernel
theorem dX11_copy_111 : decode cX11_copy 111 = .ok (.iaload, 1) := by decide +kernel
theorem dX11_copy_112 : decode cX11_copy 112 = .ok (.i2l, 1) := by decide +kernel
theorem dX11_copy_113 : decode cX11_copy 113 = .ok (.lcmp, 1) := by decide +kernel
theorem dX11_copy_114 : decode cX11_copy 114 = .ok (.ifCond .le 10, 3) := by decide +kernel
theorem dX11_copy_117 : decode cX11_copy 117 = .ok (.aload_n 0, 1) := by decide +kernel
theorem dX11_copy_118 : decode cX11_copy 118 = .ok (.ldc 70, 2) := by decide +kernel
theorem dX11_copy_120 : decode cX11_copy 120 = .ok (.invokevirtual 62, 3) := by decide +kernel
theorem dX11_copy_123 : decode cX11_copy 123 = .ok (.ireturn, 1) := by decide +kernel
theorem dX11_copy_124 : decode cX11_copy 124 = .ok (.iconst 0, 1) := by decide +kernel
theorem dX11_copy_125 : decode cX11_copy 125 = .ok (.istore 6, 2) := by decide +kernel
theorem dX11_copy_127 : decode cX11_copy 127 = .ok (.iload 6, 2) := by decide +kernel
theorem dX11_copy_129 : decode cX11_copy 129 = .ok (.iload 5, 2) := by decide +kernel
theorem dX11_copy_131 : decode cX11_copy 131 = .ok (.if_icmp .ge 30, 3) := by decide +kernel
theorem dX11_copy_134 : decode cX11_copy 134 = .ok (.aload_n 0, 1) := by decide +kernel
theorem dX11_copy_135 : decode cX11_copy 135 = .ok (.getfield 47, 3) := by decide +kernel
theorem dX11_copy_138 : decode cX11_copy 138 = .ok (.iload 6, 2) := by decide +kernel
theorem dX11_copy_140 : decode cX11_copy 140 = .ok (.aload_n 0, 1) := by decide +kernel
theorem dX11_copy_141 : decode cX11_copy 141 = .ok (.getfield 22, 3) := by decide +kernel
theorem dX11_copy_144 : decode cX11_copy 144 = .ok (.bipush 24, 2) := by decide +kernel
theorem dX11_copy_146 : decode cX11_copy 146 = .ok (.iload_n 1, 1) := by decide +kernel
theorem dX11_copy_147 : decode cX11_copy 147 = .ok (.imul, 1) := by decide +kernel
theorem dX11_copy_148 : decode cX11_copy 148 = .ok (.iload_n 2, 1) := by decide +kernel
theorem dX11_copy_149 : decode cX11_copy 149 = .ok (.iadd, 1) := by decide +kernel
theorem dX11_copy_150 : decode cX11_copy 150 = .ok (.iload 6, 2) := by decide +kernel
theorem dX11_copy_152 : decode cX11_copy 152 = .ok (.iadd, 1) := by decide +kernel
theorem dX11_copy_153 : decode cX11_copy 153 = .ok (.iaload, 1) := by decide +kernel
theorem dX11_copy_154 : decode cX11_copy 154 = .ok (.iastore, 1) := by decide +kernel
theorem dX11_copy_155 : decode cX11_copy 155 = .ok (.iinc 6 1, 3) := by decide +kernel
theorem dX11_copy_158 : decode cX11_copy 158 = .ok (.goto (-31), 3) := by decide +kernel
theorem dX11_copy_161 : decode cX11_copy 161 = .ok (.iconst 0, 1) := by decide +kernel
theorem dX11_copy_162 : decode cX11_copy 162 = .ok (.istore 6, 2) := by decide +kernel
theorem dX11_copy_164 : decode cX11_copy 164 = .ok (.iload 6, 2) := by decide +kernel
theorem dX11_copy_166 : decode cX11_copy 166 = .ok (.iload 5, 2) := by decide +kernel
theorem dX11_copy_168 : decode cX11_copy 168 = .ok (.if_icmp .ge 31, 3) := by decide +kernel
theorem dX11_copy_171 : decode cX11_copy 171 = .ok (.aload_n 0, 1) := by decide +kernel
theorem dX11_copy_172 : decode cX11_copy 172 = .ok (.getfield 22, 3) := by decide +kernel
theorem dX11_copy_175 : decode cX11_copy 175 = .ok (.bipush 24, 2) := by decide +kernel
theorem dX11_copy_177 : decode cX11_copy 177 = .ok (.iload_n 3, 1) := by decide +kernel
theorem dX11_copy_178 : decode cX11_copy 178 = .ok (.imul, 1) := by decide +kernel
theorem dX11_copy_179 : decode cX11_copy 179 = .ok (.iload 4, 2) := by decide +kernel
theorem dX11_copy_181 : decode cX11_copy 181 = .ok (.iadd, 1) := by decide +kernel
theorem dX11_copy_182 : decode cX11_copy 182 = .ok (.iload 6, 2) := by decide +kernel
theorem dX11_copy_184 : decode cX11_copy 184 = .ok (.iadd, 1) := by decide +kernel
theorem dX11_copy_185 : decode cX11_copy 185 = .ok (.aload_n 0, 1) := by decide +kernel
theorem dX11_copy_186 : decode cX11_copy 186 = .ok (.getfield 47, 3) := by decide +kernel
theorem dX11_copy_189 : decode cX11_copy 189 = .ok (.iload 6, 2) := by decide +kernel
theorem dX11_copy_191 : decode cX11_copy 191 = .ok (.iaload, 1) := by decide +kernel
theorem dX11_copy_192 : decode cX11_copy 192 = .ok (.iastore, 1) := by decide +kernel
theorem dX11_copy_193 : decode cX11_copy 193 = .ok (.iinc 6 1, 3) := by decide +kernel
theorem dX11_copy_196 : decode cX11_copy 196 = .ok (.goto (-32), 3) := by decide +kernel
theorem dX11_copy_199 : decode cX11_copy 199 = .ok (.iload 5, 2) := by decide +kernel
theorem dX11_copy_201 : decode cX11_copy 201 = .ok (.ireturn, 1) := by decide +kernel
set_option maxRecDepth 20000 in
theorem ggX11_tape_X11_isPlayer : GoodIn wsX11_tape wsX11_isPlayer := goodIn_r _ [10, 11, 12, 9, 13] (by decide +kernel) (by decide +kernel)
set_option maxRecDepth 20000 in
theorem gX11_tape_X11_isPlayer : GoodIn wsX11_tape (va_wsS RX11 164 yX11_isPlayer wsX11_isPlayer) := goodIn_app (goodIn_of _ (by decide +kernel)) ggX11_tape_X11_isPlayer
set_option maxRecDepth 20000 in
theorem ggX11_tape_X11_isSheet : GoodIn wsX11_tape wsX11_isSheet := goodIn_r _ [16, 11, 12, 9, 13] (by decide +kernel) (by decide +kernel)
set_option maxRecDepth 20000 in
theorem gX11_tape_X11_isSheet : GoodIn wsX11_tape (va_wsS RX11 179 yX11_isSheet wsX11_isSheet) := goodIn_app (goodIn_of _ (by decide +kernel)) ggX11_tape_X11_isSheet
set_option maxRecDepth 20000 in
theorem ggX11_tape_X11_finding : GoodIn wsX11_tape wsX11_finding := goodIn_r _ [20, 21, 31, 32, 33, 34, 35, 36, 37, 38, 39, 40, 41, 42, 43, 44, 45, 46, 47, 48, 49] (by decide +kernel) (by decide +kernel)
set_option maxRecDepth 20000 in
theorem gX11_tape_X11_finding : GoodIn wsX11_tape (wsV RX11 62 RX11 yX11_finding wsX11_finding) := goodIn_app (goodIn_of _ (by decide +kernel)) ggX11_tape_X11_finding
set_option maxRecDepth 20000 in
theorem ggX11_tape_X11_keep : GoodIn wsX11_tape wsX11_keep := goodIn_r _ [25, 26, 27, 6, 31, 32, 33, 34, 35, 36, 37, 38, 39, 40, 41, 42, 43, 44, 45, 46, 47, 48, 49] (by decide +kernel) (by decide +kernel)
set_option maxRecDepth 20000 in
theorem gX11_tape_X11_keep : GoodIn wsX11_tape (wsV RX11 73 RX11 yX11_keep wsX11_keep) := goodIn_app (goodIn_of _ (by decide +kernel)) ggX11_tape_X11_keep
set_option maxRecDepth 20000 in
theorem ggX11_tape_X11_isTick : GoodIn wsX11_tape wsX11_isTick := goodIn_r _ [30, 11, 12, 9, 13] (by decide +kernel) (by decide +kernel)
set_option maxRecDepth 20000 in
theorem gX11_tape_X11_isTick : GoodIn wsX11_tape (va_wsS RX11 66 yX11_isTick wsX11_isTick) := goodIn_app (goodIn_of _ (by decide +kernel)) ggX11_tape_X11_isTick
theorem dX11_tape_0 : decode cX11_tape 0 = .ok (.iload_n 1, 1) := by decide +kernel
theorem dX11_tape_1 : decode cX11_tape 1 = .ok (.invokestatic 164, 3) := by decide +kernel
theorem dX11_tape_4 : decode cX11_tape 4 = .ok (.ifCond .eq 10, 3) := by decide +kernel
theorem dX11_tape_7 : decode cX11_tape 7 = .ok (.iload_n 2, 1) := by decide +kernel
theorem dX11_tape_8 : decode cX11_tape 8 = .ok (.invokestatic 179, 3) := by decide +kernel
theorem dX11_tape_11 : decode cX11_tape 11 = .ok (.ifCond .ne 10, 3) := by decide +kernel
theorem dX11_tape_14 : decode cX11_tape 14 = .ok (.aload_n 0, 1) := by decide +kernel
theorem dX11_tape_15 : decode cX11_tape 15 = .ok (.ldc 70, 2) := by decide +kernel
theorem dX11_tape_17 : decode cX11_tape 17 = .ok (.invokevirtual 62, 3) := by decide +kernel
theorem dX11_tape_20 : decode cX11_tape 20 = .ok (.ireturn, 1) := by decide +kernel
theorem dX11_tape_21 : decode cX11_tape 21 = .ok (.aload_n 0, 1) := by decide +kernel
theorem dX11_tape_22 : decode cX11_tape 22 = .ok (.getfield 16, 3) := by decide +kernel
theorem dX11_tape_25 : decode cX11_tape 25 = .ok (.iload_n 2, 1) := by decide +kernel
theorem dX11_tape_26 : decode cX11_tape 26 = .ok (.iaload, 1) := by decide +kernel
theorem dX11_tape_27 : decode cX11_tape 27 = .ok (.ifCond .ne 10, 3) := by decide +kernel
theorem dX11_tape_30 : decode cX11_tape 30 = .ok (.aload_n 0, 1) := by decide +kernel
theorem dX11_tape_31 : decode cX11_tape 31 = .ok (.ldc 182, 2) := by decide +kernel
theorem dX11_tape_33 : decode cX11_tape 33 = .ok (.invokevirtual 62, 3) := by decide +kernel
theorem dX11_tape_36 : decode cX11_tape 36 = .ok (.ireturn, 1) := by decide +kernel
theorem dX11_tape_37 : decode cX11_tape 37 = .ok (.aload_n 0, 1) := by decide +kernel
theorem dX11_tape_38 : decode cX11_tape 38 = .ok (.invokevirtual 73, 3) := by decide +kernel
theorem dX11_tape_41 : decode cX11_tape 41 = .ok (.iconst 0, 1) := by decide +kernel
theorem dX11_tape_42 : decode cX11_tape 42 = .ok (.istore_n 3, 1) := by decide +kernel
theorem dX11_tape_43 : decode cX11_tape 43 = .ok (.iload_n 3, 1) := by decide +kernel
theorem dX11_tape_44 : decode cX11_tape 44 = .ok (.aload_n 0, 1) := by decide +kernel
theorem dX11_tape_45 : decode cX11_tape 45 = .ok (.getfield 19, 3) := by decide +kernel
theorem dX11_tape_48 : decode cX11_tape 48 = .ok (.iload_n 2, 1) := by decide +kernel
theorem dX11_tape_49 : decode cX11_tape 49 = .ok (.iaload, 1) := by decide +kernel
theorem dX11_tape_50 : decode cX11_tape 50 = .ok (.if_icmp .ge 82, 3) := by decide +kernel
theorem dX11_tape_53 : decode cX11_tape 53 = .ok (.aload_n 0, 1) := by decide +kernel
theorem dX11_tape_54 : decode cX11_tape 54 = .ok (.getfield 22, 3) := by decide +kernel
theorem dX11_tape_57 : decode cX11_tape 57 = .ok (.bipush 24, 2) := by decide +kernel
theorem dX11_tape_59 : decode cX11_tape 59 = .ok (.iload_n 2, 1) := by decide +kernel
theorem dX11_tape_60 : decode cX11_tape 60 = .ok (.imul, 1) := by decide +kernel
theorem dX11_tape_61 : decode cX11_tape 61 = .ok (.iload_n 3, 1) := by decide +kernel
theorem dX11_tape_62 : decode cX11_tape 62 = .ok (.iadd, 1) := by decide +kernel
theorem dX11_tape_63 : decode cX11_tape 63 = .ok (.iaload, 1) := by decide +kernel
theorem dX11_tape_64 : decode cX11_tape 64 = .ok (.invokestatic 66, 3) := by decide +kernel
theorem dX11_tape_67 : decode cX11_tape 67 = .ok (.ifCond .eq 65, 3) := by decide +kernel
theorem dX11_tape_70 : decode cX11_tape 70 = .ok (.iload_n 3, 1) := by decide +kernel
theorem dX11_tape_71 : decode cX11_tape 71 = .ok (.ifCond .eq 30, 3) := by decide +kernel
theorem dX11_tape_74 : decode cX11_tape 74 = .ok (.aload_n 0, 1) := by decide +kernel
theorem dX11_tape_75 : decode cX11_tape 75 = .ok (.getfield 22, 3) := by decide +kernel
theorem dX11_tape_78 : decode cX11_tape 78 = .ok (.bipush 24, 2) := by decide +kernel
theorem dX11_tape_80 : decode cX11_tape 80 = .ok (.iload_n 2, 1) := by decide +kernel
theorem dX11_tape_81 : decode cX11_tape 81 = .ok (.imul, 1) := by decide +kernel
theorem dX11_tape_82 : decode cX11_tape 82 = .ok (.iload_n 3, 1) := by decide +kernel
theorem dX11_tape_83 : decode cX11_tape 83 = .ok (.iadd, 1) := by decide +kernel
theorem dX11_tape_84 : decode cX11_tape 84 = .ok (.iaload, 1) := by decide +kernel
theorem dX11_tape_85 : decode cX11_tape 85 = .ok (.aload_n 0, 1) := by decide +kernel
theorem dX11_tape_86 : decode cX11_tape 86 = .ok (.getfield 22, 3) := by decide +kernel
theorem dX11_tape_89 : decode cX11_tape 89 = .ok (.bipush 24, 2) := by decide +kernel
theorem dX11_tape_91 : decode cX11_tape 91 = .ok (.iload_n 2, 1) := by decide +kernel
theorem dX11_tape_92 : decode cX11_tape 92 = .ok (.imul, 1) := by decide +kernel
theorem dX11_tape_93 : decode cX11_tape 93 = .ok (.iload_n 3, 1) := by decide +kernel
theorem dX11_tape_94 : decode cX11_tape 94 = .ok (.iadd, 1) := by decide +kernel
theorem dX11_tape_95 : decode cX11_tape 95 = .ok (.iconst 1, 1) := by decide +kernel
theorem dX11_tape_96 : decode cX11_tape 96 = .ok (.isub, 1) := by decide +kernel
theorem dX11_tape_97 : decode cX11_tape 97 = .ok (.iaload, 1) := by decide +kernel
theorem dX11_tape_98 : decode cX11_tape 98 = .ok (.if_icmp .lt 34, 3) := by decide +kernel
theorem dX11_tape_101 : decode cX11_tape 101 = .ok (.aload_n 0, 1) := by decide +kernel
theorem dX11_tape_102 : decode cX11_tape 102 = .ok (.getfield 9, 3) := by decide +kernel
theorem dX11_tape_105 : decode cX11_tape 105 = .ok (.bipush 91, 2) := by decide +kernel
theorem dX11_tape_107 : decode cX11_tape 107 = .ok (.bipush 24, 2) := by decide +kernel
theorem dX11_tape_109 : decode cX11_tape 109 = .ok (.iload_n 1, 1) := by decide +kernel
theorem dX11_tape_110 : decode cX11_tape 110 = .ok (.imul, 1) := by decide +kernel
theorem dX11_tape_111 : decode cX11_tape 111 = .ok (.iadd, 1) := by decide +kernel
theorem dX11_tape_112 : decode cX11_tape 112 = .ok (.iload_n 3, 1) := by decide +kernel
theorem dX11_tape_113 : decode cX11_tape 113 = .ok (.iadd, 1) := by decide +kernel
theorem dX11_tape_114 : decode cX11_tape 114 = .ok (.aload_n 0, 1) := by decide +kernel
theorem dX11_tape_115 : decode cX11_tape 115 = .ok (.getfield 22, 3) := by decide +kernel
theorem dX11_tape_118 : decode cX11_tape 118 = .ok (.bipush 24, 2) := by decide +kernel
theorem dX11_tape_120 : decode cX11_tape 120 = .ok (.iload_n 2, 1) := by decide +kernel
theorem dX11_tape_121 : decode cX11_tape 121 = .ok (.imul, 1) := by decide +kernel
theorem dX11_tape_122 : decode cX11_tape 122 = .ok (.iload_n 3, 1) := by decide +kernel
theorem dX11_tape_123 : decode cX11_tape 123 = .ok (.iadd, 1) := by decide +kernel
theorem dX11_tape_124 : decode cX11_tape 124 = .ok (.iaload, 1) := by decide +kernel
theorem dX11_tape_125 : decode cX11_tape 125 = .ok (.iastore, 1) := by decide +kernel
theorem dX11_tape_126 : decode cX11_tape 126 = .ok (.iinc 3 1, 3) := by decide +kernel
theorem dX11_tape_129 : decode cX11_tape 129 = .ok (.goto (-86), 3) := by decide +kernel
theorem dX11_tape_132 : decode cX11_tape 132 = .ok (.aload_n 0, 1) := by decide +kernel
theorem dX11_tape_133 : decode cX11_tape 133 = .ok (.getfield 9, 3) := by decide +kernel
theorem dX11_tape_136 : decode cX11_tape 136 = .ok (.bipush 87, 2) := by decide +kernel
theorem dX11_tape_138 : decode cX11_tape 138 = .ok (.iload_n 1, 1) := by decide +kernel
theorem dX11_tape_139 : decode cX11_tape 139 = .ok (.iadd, 1) := by decide +kernel
theorem dX11_tape_140 : decode cX11_tape 140 = .ok (.iload_n 3, 1) := by decide +kernel
theorem dX11_tape_141 : decode cX11_tape 141 = .ok (.iastore, 1) := by decide +kernel
theorem dX11_tape_142 : decode cX11_tape 142 = .ok (.iload_n 3, 1) := by decide +kernel
theorem dX11_tape_143 : decode cX11_tape 143 = .ok (.ireturn, 1) := by decide +kernel
set_option maxRecDepth 20000 in
theorem ggX11_all_X11_within : GoodIn wsX11_all wsX11_within := goodIn_r _ [7] (by decide +kernel) (by decide +kernel)
set_option maxRecDepth 20000 in
theorem gX11_all_X11_within : GoodIn wsX11_all (va_wsS RX11 54 yX11_within wsX11_within) := goodIn_app (goodIn_of _ (by decide +kernel)) ggX11_all_X11_within
set_option maxRecDepth 20000 in
theorem ggX11_all_X11_finding : GoodIn wsX11_all wsX11_finding := goodIn_r _ [11, 3, 12, 13, 14, 15, 16, 17, 18, 19, 20, 21, 22, 23, 24, 25, 26, 27, 28, 29, 30] (by decide +kernel) (by decide +kernel)
set_option maxRecDepth 20000 in
theorem gX11_all_X11_finding : GoodIn wsX11_all (wsV RX11 62 RX11 yX11_finding wsX11_finding) := goodIn_app (goodIn_of _ (by decide +kernel)) ggX11_all_X11_finding
theorem dX11_all_0 : decode cX11_all 0 = .ok (.iload_n 1, 1) := by decide +kernel
theorem dX11_all_1 : decode cX11_all 1 = .ok (.iconst 0, 1) := by decide +kernel
theorem dX11_all_2 : decode cX11_all 2 = .ok (.iconst 4, 1) := by decide +kernel
theorem dX11_all_3 : decode cX11_all 3 = .ok (.invokestatic 54, 3) := by decide +kernel
theorem dX11_all_6 : decode cX11_all 6 = .ok (.ifCond .ne 10, 3) := by decide +kernel
theorem dX11_all_9 : decode cX11_all 9 = .ok (.aload_n 0, 1) := by decide +kernel
theorem dX11_all_10 : decode cX11_all 10 = .ok (.ldc 70, 2) := by decide +kernel
theorem dX11_all_12 : decode cX11_all 12 = .ok (.invokevirtual 62, 3) := by decide +kernel
theorem dX11_all_15 : decode cX11_all 15 = .ok (.ireturn, 1) := by decide +kernel
theorem dX11_all_16 : decode cX11_all 16 = .ok (.iconst 0, 1) := by decide +kernel
theorem dX11_all_17 : decode cX11_all 17 = .ok (.istore_n 2, 1) := by decide +kernel
theorem dX11_all_18 : decode cX11_all 18 = .ok (.iconst 0, 1) := by decide +kernel
theorem dX11_all_19 : decode cX11_all 19 = .ok (.istore_n 3, 1) := by decide +kernel
theorem dX11_all_20 : decode cX11_all 20 = .ok (.iconst 0, 1) := by decide +kernel
theorem dX11_all_21 : decode cX11_all 21 = .ok (.istore 4, 2) := by decide +kernel
theorem dX11_all_23 : decode cX11_all 23 = .ok (.iload 4, 2) := by decide +kernel
theorem dX11_all_25 : decode cX11_all 25 = .ok (.aload_n 0, 1) := by decide +kernel
theorem dX11_all_26 : decode cX11_all 26 = .ok (.getfield 9, 3) := by decide +kernel
theorem dX11_all_29 : decode cX11_all 29 = .ok (.iconst 0, 1) := by decide +kernel
theorem dX11_all_30 : decode cX11_all 30 = .ok (.iaload, 1) := by decide +kernel
theorem dX11_all_31 : decode cX11_all 31 = .ok (.if_icmp .ge 30, 3) := by decide +kernel
theorem dX11_all_34 : decode cX11_all 34 = .ok (.iload_n 2, 1) := by decide +kernel
theorem dX11_all_35 : decode cX11_all 35 = .ok (.aload_n 0, 1) := by decide +kernel
theorem dX11_all_36 : decode cX11_all 36 = .ok (.getfield 9, 3) := by decide +kernel
theorem dX11_all_39 : decode cX11_all 39 = .ok (.bipush 67, 2) := by decide +kernel
theorem dX11_all_41 : decode cX11_all 41 = .ok (.iload 4, 2) := by decide +kernel
theorem dX11_all_43 : decode cX11_all 43 = .ok (.iadd, 1) := by decide +kernel
theorem dX11_all_44 : decode cX11_all 44 = .ok (.iaload, 1) := by decide +kernel
theorem dX11_all_45 : decode cX11_all 45 = .ok (.ifCond .lt 7, 3) := by decide +kernel
theorem dX11_all_48 : decode cX11_all 48 = .ok (.iconst 1, 1) := by decide +kernel
theorem dX11_all_49 : decode cX11_all 49 = .ok (.goto 4, 3) := by decide +kernel
theorem dX11_all_52 : decode cX11_all 52 = .ok (.iconst 0, 1) := by decide +kernel
theorem dX11_all_53 : decode cX11_all 53 = .ok (.iadd, 1) := by decide +kernel
theorem dX11_all_54 : decode cX11_all 54 = .ok (.istore_n 2, 1) := by decide +kernel
theorem dX11_all_55 : decode cX11_all 55 = .ok (.iinc 4 1, 3) := by decide +kernel
theorem dX11_all_58 : decode cX11_all 58 = .ok (.goto (-35), 3) := by decide +kernel
theorem dX11_all_61 : decode cX11_all 61 = .ok (.iconst 0, 1) := by decide +kernel
theorem dX11_all_62 : decode cX11_all 62 = .ok (.istore 4, 2) := by decide +kernel
theorem dX11_all_64 : decode cX11_all 64 = .ok (.iload 4, 2) := by decide +kernel
theorem dX11_all_66 : decode cX11_all 66 = .ok (.iconst 4, 1) := by decide +kernel
theorem dX11_all_67 : decode cX11_all 67 = .ok (.if_icmp .ge 22, 3) := by decide +kernel
theorem dX11_all_70 : decode cX11_all 70 = .ok (.iload_n 3, 1) := by decide +kernel
theorem dX11_all_71 : decode cX11_all 71 = .ok (.aload_n 0, 1) := by decide +kernel
theorem dX11_all_72 : decode cX11_all 72 = .ok (.getfield 9, 3) := by decide +kernel
theorem dX11_all_75 : decode cX11_all 75 = .ok (.bipush 87, 2) := by decide +kernel
theorem dX11_all_77 : decode cX11_all 77 = .ok (.iload 4, 2) := by decide +kernel
theorem dX11_all_79 : decode cX11_all 79 = .ok (.iadd, 1) := by decide +kernel
theorem dX11_all_80 : decode cX11_all 80 = .ok (.iaload, 1) := by decide +kernel
theorem dX11_all_81 : decode cX11_all 81 = .ok (.iadd, 1) := by decide +kernel
theorem dX11_all_82 : decode cX11_all 82 = .ok (.istore_n 3, 1) := by decide +kernel
theorem dX11_all_83 : decode cX11_all 83 = .ok (.iinc 4 1, 3) := by decide +kernel
theorem dX11_all_86 : decode cX11_all 86 = .ok (.goto (-22), 3) := by decide +kernel
theorem dX11_all_89 : decode cX11_all 89 = .ok (.iload_n 1, 1) := by decide +kernel
theorem dX11_all_90 : decode cX11_all 90 = .ok (.ifCond .ne 12, 3) := by decide +kernel
theorem dX11_all_93 : decode cX11_all 93 = .ok (.aload_n 0, 1) := by decide +kernel
theorem dX11_all_94 : decode cX11_all 94 = .ok (.getfield 9, 3) := by decide +kernel
theorem dX11_all_97 : decode cX11_all 97 = .ok (.iconst 0, 1) := by decide +kernel
theorem dX11_all_98 : decode cX11_all 98 = .ok (.iaload, 1) := by decide +kernel
theorem dX11_all_99 : decode cX11_all 99 = .ok (.goto 39, 3) := by decide +kernel
theorem dX11_all_102 : decode cX11_all 102 = .ok (.iload_n 1, 1) := by decide +kernel
theorem dX11_all_103 : decode cX11_all 103 = .ok (.iconst 1, 1) := by decide +kernel
theorem dX11_all_104 : decode cX11_all 104 = .ok (.if_icmp .ne 7, 3) := by decide +kernel
theorem dX11_all_107 : decode cX11_all 107 = .ok (.iload_n 2, 1) := by decide +kernel
theorem dX11_all_108 : decode cX11_all 108 = .ok (.goto 30, 3) := by decide +kernel
theorem dX11_all_111 : decode cX11_all 111 = .ok (.iload_n 1, 1) := by decide +kernel
theorem dX11_all_112 : decode cX11_all 112 = .ok (.iconst 2, 1) := by decide +kernel
theorem dX11_all_113 : decode cX11_all 113 = .ok (.if_icmp .ne 12, 3) := by decide +kernel
theorem dX11_all_116 : decode cX11_all 116 = .ok (.aload_n 0, 1) := by decide +kernel
theorem dX11_all_117 : decode cX11_all 117 = .ok (.getfield 9, 3) := by decide +kernel
theorem dX11_all_120 : decode cX11_all 120 = .ok (.iconst 1, 1) := by decide +kernel
theorem dX11_all_121 : decode cX11_all 121 = .ok (.iaload, 1) := by decide +kernel
theorem dX11_all_122 : decode cX11_all 122 = .ok (.goto 16, 3) := by decide +kernel
theorem dX11_all_125 : decode cX11_all 125 = .ok (.iload_n 1, 1) := by decide +kernel
theorem dX11_all_126 : decode cX11_all 126 = .ok (.iconst 3, 1) := by decide +kernel
theorem dX11_all_127 : decode cX11_all 127 = .ok (.if_icmp .ne 7, 3) := by decide +kernel
theorem dX11_all_130 : decode cX11_all 130 = .ok (.iload_n 3, 1) := by decide +kernel
theorem dX11_all_131 : decode cX11_all 131 = .ok (.goto 7, 3) := by decide +kernel
theorem dX11_all_134 : decode cX11_all 134 = .ok (.aload_n 0, 1) := by decide +kernel
theorem dX11_all_135 : decode cX11_all 135 = .ok (.getfield 50, 3) := by decide +kernel
theorem dX11_all_138 : decode cX11_all 138 = .ok (.ireturn, 1) := by decide +kernel
theorem dJ9_abs_0f7a4_0 : decode cJ9_abs_0f7a4 0 = .ok (.iload_n 0, 1) := by decide +kernel
theorem dJ9_abs_0f7a4_1 : decode cJ9_abs_0f7a4 1 = .ok (.ifCond .ge 8, 3) := by decide +kernel
theorem dJ9_abs_0f7a4_4 : decode cJ9_abs_0f7a4 4 = .ok (.iload_n 0, 1) := by decide +kernel
theorem dJ9_abs_0f7a4_5 : decode cJ9_abs_0f7a4 5 = .ok (.ineg, 1) := by decide +kernel
theorem dJ9_abs_0f7a4_6 : decode cJ9_abs_0f7a4 6 = .ok (.goto 4, 3) := by decide +kernel
theorem dJ9_abs_0f7a4_9 : decode cJ9_abs_0f7a4 9 = .ok (.iload_n 0, 1) := by decide +kernel
theorem dJ9_abs_0f7a4_10 : decode cJ9_abs_0f7a4 10 = .ok (.ireturn, 1) := by decide +kernel
theorem dJ9_max_7cf53_0 : decode cJ9_max_7cf53 0 = .ok (.iload_n 0, 1) := by decide +kernel
theorem dJ9_max_7cf53_1 : decode cJ9_max_7cf53 1 = .ok (.iload_n 1, 1) := by decide +kernel
theorem dJ9_max_7cf53_2 : decode cJ9_max_7cf53 2 = .ok (.if_icmp .lt 7, 3) := by decide +kernel
theorem dJ9_max_7cf53_5 : decode cJ9_max_7cf53 5 = .ok (.iload_n 0, 1) := by decide +kernel
theorem dJ9_max_7cf53_6 : decode cJ9_max_7cf53 6 = .ok (.goto 4, 3) := by decide +kernel
theorem dJ9_max_7cf53_9 : decode cJ9_max_7cf53 9 = .ok (.iload_n 1, 1) := by decide +kernel
theorem dJ9_max_7cf53_10 : decode cJ9_max_7cf53 10 = .ok (.ireturn, 1) := by decide +kernel
theorem dJ9_min_7cf53_0 : decode cJ9_min_7cf53 0 = .ok (.iload_n 0, 1) := by decide +kernel
theorem dJ9_min_7cf53_1 : decode cJ9_min_7cf53 1 = .ok (.iload_n 1, 1) := by decide +kernel
theorem dJ9_min_7cf53_2 : decode cJ9_min_7cf53 2 = .ok (.if_icmp .gt 7, 3) := by decide +kernel
theorem dJ9_min_7cf53_5 : decode cJ9_min_7cf53 5 = .ok (.iload_n 0, 1) := by decide +kernel
theorem dJ9_min_7cf53_6 : decode cJ9_min_7cf53 6 = .ok (.goto 4, 3) := by decide +kernel
theorem dJ9_min_7cf53_9 : decode cJ9_min_7cf53 9 = .ok (.iload_n 1, 1) := by decide +kernel
theorem dJ9_min_7cf53_10 : decode cJ9_min_7cf53 10 = .ok (.ireturn, 1) := by decide +kernel
