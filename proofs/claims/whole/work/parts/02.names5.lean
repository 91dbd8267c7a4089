theorem dX11_mark_38 : decode cX11_mark 38 = .ok (.aload_n 0, 1) := by decide +kernel
theorem dX11_mark_39 : decode cX11_mark 39 = .ok (.getfield 9, 3) := by decide +kernel
theorem dX11_mark_42 : decode cX11_mark 42 = .ok (.bipush 67, 2) := by decide +kernel
theorem dX11_mark_44 : decode cX11_mark 44 = .ok (.iload_n 1, 1) := by decide +kernel
theorem dX11_mark_45 : decode cX11_mark 45 = .ok (.iadd, 1) := by decide +kernel
theorem dX11_mark_46 : decode cX11_mark 46 = .ok (.iload_n 2, 1) := by decide +kernel
theorem dX11_mark_47 : decode cX11_mark 47 = .ok (.iastore, 1) := by decide +kernel
theorem dX11_mark_48 : decode cX11_mark 48 = .ok (.iload_n 3, 1) := by decide +kernel
theorem dX11_mark_49 : decode cX11_mark 49 = .ok (.ireturn, 1) := by decide +kernel
theorem dX11_mostOf_0 : decode cX11_mostOf 0 = .ok (.iload_n 0, 1) := by decide +kernel
theorem dX11_mostOf_1 : decode cX11_mostOf 1 = .ok (.ifCond .eq 8, 3) := by decide +kernel
theorem dX11_mostOf_4 : decode cX11_mostOf 4 = .ok (.iload_n 0, 1) := by decide +kernel
theorem dX11_mostOf_5 : decode cX11_mostOf 5 = .ok (.iconst 3, 1) := by decide +kernel
theorem dX11_mostOf_6 : decode cX11_mostOf 6 = .ok (.if_icmp .ne 9, 3) := by decide +kernel
theorem dX11_mostOf_9 : decode cX11_mostOf 9 = .ok (.sipush 200, 3) := by decide +kernel
theorem dX11_mostOf_12 : decode cX11_mostOf 12 = .ok (.goto 14, 3) := by decide +kernel
theorem dX11_mostOf_15 : decode cX11_mostOf 15 = .ok (.iload_n 0, 1) := by decide +kernel
theorem dX11_mostOf_16 : decode cX11_mostOf 16 = .ok (.iconst 2, 1) := by decide +kernel
theorem dX11_mostOf_17 : decode cX11_mostOf 17 = .ok (.if_icmp .ne 7, 3) := by decide +kernel
theorem dX11_mostOf_20 : decode cX11_mostOf 20 = .ok (.iconst 4, 1) := by decide +kernel
theorem dX11_mostOf_21 : decode cX11_mostOf 21 = .ok (.goto 5, 3) := by decide +kernel
theorem dX11_mostOf_24 : decode cX11_mostOf 24 = .ok (.bipush 100, 2) := by decide +kernel
theorem dX11_mostOf_26 : decode cX11_mostOf 26 = .ok (.ireturn, 1) := by decide +kernel
set_option maxRecDepth 20000 in
theorem ggX11_rule_X11_within : GoodIn wsX11_rule wsX11_within := goodIn_r _ [6] (by decide +kernel) (by decide +kernel)
set_option maxRecDepth 20000 in
theorem gX11_rule_X11_within : GoodIn wsX11_rule (va_wsS RX11 54 yX11_within wsX11_within) := goodIn_app (goodIn_of _ (by decide +kernel)) ggX11_rule_X11_within
set_option maxRecDepth 20000 in
theorem ggX11_rule_X11_mostOf : GoodIn wsX11_rule wsX11_mostOf := goodIn_r _ [9] (by decide +kernel) (by decide +kernel)
set_option maxRecDepth 20000 in
theorem gX11_rule_X11_mostOf : GoodIn wsX11_rule (va_wsS RX11 83 yX11_mostOf wsX11_mostOf) := goodIn_app (goodIn_of _ (by decide +kernel)) ggX11_rule_X11_mostOf
set_option maxRecDepth 20000 in
theorem ggX11_rule_X11_finding : GoodIn wsX11_rule wsX11_finding := goodIn_r _ [13, 14, 21, 22, 23, 24, 25, 26, 27, 28, 29, 30, 31, 32, 33, 34, 35, 36, 37, 38, 39] (by decide +kernel) (by decide +kernel)
set_option maxRecDepth 20000 in
theorem gX11_rule_X11_finding : GoodIn wsX11_rule (wsV RX11 62 RX11 yX11_finding wsX11_finding) := goodIn_app (goodIn_of _ (by decide +kernel)) ggX11_rule_X11_finding
set_option maxRecDepth 20000 in
theorem ggX11_rule_X11_keep : GoodIn wsX11_rule wsX11_keep := goodIn_r _ [18, 19, 20, 2, 21, 22, 23, 24, 25, 26, 27, 28, 29, 30, 31, 32, 33, 34, 35, 36, 37, 38, 39] (by decide +kernel) (by decide +kernel)
set_option maxRecDepth 20000 in
theorem gX11_rule_X11_keep : GoodIn wsX11_rule (wsV RX11 73 RX11 yX11_keep wsX11_keep) := goodIn_app (goodIn_of _ (by decide +kernel)) ggX11_rule_X11_keep
theorem dX11_rule_0 : decode cX11_rule 0 = .ok (.iload_n 1, 1) := by decide +kernel
theorem dX11_rule_1 : decode cX11_rule 1 = .ok (.iconst 0, 1) := by decide +kernel
theorem dX11_rule_2 : decode cX11_rule 2 = .ok (.iconst 4, 1) := by decide +kernel
theorem dX11_rule_3 : decode cX11_rule 3 = .ok (.invokestatic 54, 3) := by decide +kernel
theorem dX11_rule_6 : decode cX11_rule 6 = .ok (.ifCond .eq 15, 3) := by decide +kernel
theorem dX11_rule_9 : decode cX11_rule 9 = .ok (.iload_n 2, 1) := by decide +kernel
theorem dX11_rule_10 : decode cX11_rule 10 = .ok (.iconst 0, 1) := by decide +kernel
theorem dX11_rule_11 : decode cX11_rule 11 = .ok (.iload_n 1, 1) := by decide +kernel
theorem dX11_rule_12 : decode cX11_rule 12 = .ok (.invokestatic 83, 3) := by decide +kernel
theorem dX11_rule_15 : decode cX11_rule 15 = .ok (.invokestatic 54, 3) := by decide +kernel
theorem dX11_rule_18 : decode cX11_rule 18 = .ok (.ifCond .ne 10, 3) := by decide +kernel
theorem dX11_rule_21 : decode cX11_rule 21 = .ok (.aload_n 0, 1) := by decide +kernel
theorem dX11_rule_22 : decode cX11_rule 22 = .ok (.ldc 70, 2) := by decide +kernel
theorem dX11_rule_24 : decode cX11_rule 24 = .ok (.invokevirtual 62, 3) := by decide +kernel
theorem dX11_rule_27 : decode cX11_rule 27 = .ok (.ireturn, 1) := by decide +kernel
theorem dX11_rule_28 : decode cX11_rule 28 = .ok (.aload_n 0, 1) := by decide +kernel
theorem dX11_rule_29 : decode cX11_rule 29 = .ok (.invokevirtual 73, 3) := by decide +kernel
theorem dX11_rule_32 : decode cX11_rule 32 = .ok (.aload_n 0, 1) := by decide +kernel
theorem dX11_rule_33 : decode cX11_rule 33 = .ok (.getfield 9, 3) := by decide +kernel
theorem dX11_rule_36 : decode cX11_rule 36 = .ok (.iconst 2, 1) := by decide +kernel
theorem dX11_rule_37 : decode cX11_rule 37 = .ok (.iload_n 1, 1) := by decide +kernel
theorem dX11_rule_38 : decode cX11_rule 38 = .ok (.iadd, 1) := by decide +kernel
theorem dX11_rule_39 : decode cX11_rule 39 = .ok (.iaload, 1) := by decide +kernel
theorem dX11_rule_40 : decode cX11_rule 40 = .ok (.istore_n 3, 1) := by decide +kernel
theorem dX11_rule_41 : decode cX11_rule 41 = .ok (.aload_n 0, 1) := by decide +kernel
theorem dX11_rule_42 : decode cX11_rule 42 = .ok (.getfield 9, 3) := by decide +kernel
theorem dX11_rule_45 : decode cX11_rule 45 = .ok (.iconst 2, 1) := by decide +kernel
theorem dX11_rule_46 : decode cX11_rule 46 = .ok (.iload_n 1, 1) := by decide +kernel
theorem dX11_rule_47 : decode cX11_rule 47 = .ok (.iadd, 1) := by decide +kernel
theorem dX11_rule_48 : decode cX11_rule 48 = .ok (.iload_n 2, 1) := by decide +kernel
theorem dX11_rule_49 : decode cX11_rule 49 = .ok (.iastore, 1) := by decide +kernel
theorem dX11_rule_50 : decode cX11_rule 50 = .ok (.iload_n 3, 1) := by decide +kernel
theorem dX11_rule_51 : decode cX11_rule 51 = .ok (.ireturn, 1) := by decide +kernel
theorem dX11_tickOf_0 : decode cX11_tickOf 0 = .ok (.iload_n 1, 1) := by decide +kernel
theorem dX11_tickOf_1 : decode cX11_tickOf 1 = .ok (.iconst 1, 1) := by decide +kernel
theorem dX11_tickOf_2 : decode cX11_tickOf 2 = .ok (.isub, 1) := by decide +kernel
theorem dX11_tickOf_3 : decode cX11_tickOf 3 = .ok (.iconst 2, 1) := by decide +kernel
theorem dX11_tickOf_4 : decode cX11_tickOf 4 = .ok (.idiv, 1) := by decide +kernel
theorem dX11_tickOf_5 : decode cX11_tickOf 5 = .ok (.istore_n 2, 1) := by decide +kernel
theorem dX11_tickOf_6 : decode cX11_tickOf 6 = .ok (.iload_n 1, 1) := by decide +kernel
theorem dX11_tickOf_7 : decode cX11_tickOf 7 = .ok (.iconst 2, 1) := by decide +kernel
theorem dX11_tickOf_8 : decode cX11_tickOf 8 = .ok (.irem, 1) := by decide +kernel
theorem dX11_tickOf_9 : decode cX11_tickOf 9 = .ok (.iconst 1, 1) := by decide +kernel
theorem dX11_tickOf_10 : decode cX11_tickOf 10 = .ok (.if_icmp .ne 15, 3) := by decide +kernel
theorem dX11_tickOf_13 : decode cX11_tickOf 13 = .ok (.aload_n 0, 1) := by decide +kernel
theorem dX11_tickOf_14 : decode cX11_tickOf 14 = .ok (.getfield 9, 3) := by decide +kernel
theorem dX11_tickOf_17 : decode cX11_tickOf 17 = .ok (.bipush 27, 2) := by decide +kernel
theorem dX11_tickOf_19 : decode cX11_tickOf 19 = .ok (.iload_n 2, 1) := by decide +kernel
theorem dX11_tickOf_20 : decode cX11_tickOf 20 = .ok (.iadd, 1) := by decide +kernel
theorem dX11_tickOf_21 : decode cX11_tickOf 21 = .ok (.iaload, 1) := by decide +kernel
theorem dX11_tickOf_22 : decode cX11_tickOf 22 = .ok (.goto 14, 3) := by decide +kernel
theorem dX11_tickOf_25 : decode cX11_tickOf 25 = .ok (.aload_n 0, 1) := by decide +kernel
theorem dX11_tickOf_26 : decode cX11_tickOf 26 = .ok (.getfield 9, 3) := by decide +kernel
theorem dX11_tickOf_29 : decode cX11_tickOf 29 = .ok (.bipush 27, 2) := by decide +kernel
theorem dX11_tickOf_31 : decode cX11_tickOf 31 = .ok (.iload_n 2, 1) := by decide +kernel
theorem dX11_tickOf_32 : decode cX11_tickOf 32 = .ok (.iadd, 1) := by decide +kernel
theorem dX11_tickOf_33 : decode cX11_tickOf 33 = .ok (.iaload, 1) := by decide +kernel
theorem dX11_tickOf_34 : decode cX11_tickOf 34 = .ok (.iconst 4, 1) := by decide +kernel
theorem dX11_tickOf_35 : decode cX11_tickOf 35 = .ok (.isub, 1) := by decide +kernel
theorem dX11_tickOf_36 : decode cX11_tickOf 36 = .ok (.ireturn, 1) := by decide +kernel
theorem dX11_heightOf_0 : decode cX11_heightOf 0 = .ok (.iload_n 1, 1) := by decide +kernel
theorem dX11_heightOf_1 : decode cX11_heightOf 1 = .ok (.iconst 2, 1) := by decide +kernel
theorem dX11_heightOf_2 : decode cX11_heightOf 2 = .ok (.irem, 1) := by decide +kernel
theorem dX11_heightOf_3 : decode cX11_heightOf 3 = .ok (.ifCond .ne 5, 3) := by decide +kernel
theorem dX11_heightOf_6 : decode cX11_heightOf 6 = .ok (.iconst 1, 1) := by decide +kernel
theorem dX11_heightOf_7 : decode cX11_heightOf 7 = .ok (.ireturn, 1) := by decide +kernel
theorem dX11_heightOf_8 : decode cX11_heightOf 8 = .ok (.aload_n 0, 1) := by decide +kernel
theorem dX11_heightOf_9 : decode cX11_heightOf 9 = .ok (.getfield 9, 3) := by decide +kernel
theorem dX11_heightOf_12 : decode cX11_heightOf 12 = .ok (.bipush 7, 2) := by decide +kernel
theorem dX11_heightOf_14 : decode cX11_heightOf 14 = .ok (.iload_n 1, 1) := by decide +kernel
theorem dX11_heightOf_15 : decode cX11_heightOf 15 = .ok (.iconst 1, 1) := by decide +kernel
theorem dX11_heightOf_16 : decode cX11_heightOf 16 = .ok (.isub, 1) := by decide +kernel
theorem dX11_heightOf_17 : decode cX11_heightOf 17 = .ok (.iconst 2, 1) := by decide +kernel
theorem dX11_heightOf_18 : decode cX11_heightOf 18 = .ok (.idiv, 1) := by decide +kernel
theorem dX11_heightOf_19 : decode cX11_heightOf 19 = .ok (.iadd, 1) := by decide +kernel
theorem dX11_heightOf_20 : decode cX11_heightOf 20 = .ok (.iaload, 1) := by decide +kernel
theorem dX11_heightOf_21 : decode cX11_heightOf 21 = .ok (.istore_n 2, 1) := by decide +kernel
theorem dX11_heightOf_22 : decode cX11_heightOf 22 = .ok (.iload_n 2, 1) := by decide +kernel
theorem dX11_heightOf_23 : decode cX11_heightOf 23 = .ok (.ifCond .ne 7, 3) := by decide +kernel
theorem dX11_heightOf_26 : decode cX11_heightOf 26 = .ok (.iconst 1, 1) := by decide +kernel
theorem dX11_heightOf_27 : decode cX11_heightOf 27 = .ok (.goto 13, 3) := by decide +kernel
theorem dX11_heightOf_30 : decode cX11_heightOf 30 = .ok (.iload_n 2, 1) := by decide +kernel
theorem dX11_heightOf_31 : decode cX11_heightOf 31 = .ok (.iconst 1, 1) := by decide +kernel
theorem dX11_heightOf_32 : decode cX11_heightOf 32 = .ok (.if_icmp .ne 7, 3) := by decide +kernel
theorem dX11_heightOf_35 : decode cX11_heightOf 35 = .ok (.iconst 3, 1) := by decide +kernel
theorem dX11_heightOf_36 : decode cX11_heightOf 36 = .ok (.goto 4, 3) := by decide +kernel
theorem dX11_heightOf_39 : decode cX11_heightOf 39 = .ok (.iconst 2, 1) := by decide +kernel
theorem dX11_heightOf_40 : decode cX11_heightOf 40 = .ok (.ireturn, 1) := by decide +kernel
set_option maxRecDepth 20000 in
theorem ggX11_keepsTime_X11_tickOf : GoodIn wsX11_keepsTime wsX11_tickOf := goodIn_r _ [10, 1, 15, 16, 17, 18, 19, 20, 21, 22, 23, 24, 25, 26, 27, 28, 29, 30, 31, 32, 33] (by decide +kernel) (by decide +kernel)
set_option maxRecDepth 20000 in
theorem gX11_keepsTime_X11_tickOf : GoodIn wsX11_keepsTime (wsV RX11 86 RX11 yX11_tickOf wsX11_tickOf) := goodIn_app (goodIn_of _ (by decide +kernel)) ggX11_keepsTime_X11_tickOf
set_option maxRecDepth 20000 in
theorem ggX11_keepsTime_X11_heightOf : GoodIn wsX11_keepsTime wsX11_heightOf := goodIn_r _ [14, 1, 15, 16, 17, 18, 19, 20, 21, 22, 23, 24, 25, 26, 27, 28, 29, 30, 31, 32, 33] (by decide +kernel) (by decide +kernel)
set_option maxRecDepth 20000 in
theorem gX11_keepsTime_X11_heightOf : GoodIn wsX11_keepsTime (wsV RX11 89 RX11 yX11_heightOf wsX11_heightOf) := goodIn_app (goodIn_of _ (by decide +kernel)) ggX11_keepsTime_X11_heightOf
theorem dX11_keepsTime_0 : decode cX11_keepsTime 0 = .ok (.iload_n 1, 1) := by decide +kernel
theorem dX11_keepsTime_1 : decode cX11_keepsTime 1 = .ok (.ifCond .ne 5, 3) := by decide +kernel
theorem dX11_keepsTime_4 : decode cX11_keepsTime 4 = .ok (.iconst 1, 1) := by decide +kernel
theorem dX11_keepsTime_5 : decode cX11_keepsTime 5 = .ok (.ireturn, 1) := by decide +kernel
theorem dX11_keepsTime_6 : decode cX11_keepsTime 6 = .ok (.iload_n 2, 1) := by decide +kernel
theorem dX11_keepsTime_7 : decode cX11_keepsTime 7 = .ok (.aload_n 0, 1) := by decide +kernel
theorem dX11_keepsTime_8 : decode cX11_keepsTime 8 = .ok (.iload_n 1, 1) := by decide +kernel
theorem dX11_keepsTime_9 : decode cX11_keepsTime 9 = .ok (.invokevirtual 86, 3) := by decide +kernel
theorem dX11_keepsTime_12 : decode cX11_keepsTime 12 = .ok (.isub, 1) := by decide +kernel
theorem dX11_keepsTime_13 : decode cX11_keepsTime 13 = .ok (.istore 4, 2) := by decide +kernel
theorem dX11_keepsTime_15 : decode cX11_keepsTime 15 = .ok (.iload 4, 2) := by decide +kernel
theorem dX11_keepsTime_17 : decode cX11_keepsTime 17 = .ok (.aload_n 0, 1) := by decide +kernel
theorem dX11_keepsTime_18 : decode cX11_keepsTime 18 = .ok (.getfield 9, 3) := by decide +kernel
theorem dX11_keepsTime_21 : decode cX11_keepsTime 21 = .ok (.iconst 2, 1) := by decide +kernel
theorem dX11_keepsTime_22 : decode cX11_keepsTime 22 = .ok (.iaload, 1) := by decide +kernel
theorem dX11_keepsTime_23 : decode cX11_keepsTime 23 = .ok (.if_icmp .lt 29, 3) := by decide +kernel
theorem dX11_keepsTime_26 : decode cX11_keepsTime 26 = .ok (.iload 4, 2) := by decide +kernel
theorem dX11_keepsTime_28 : decode cX11_keepsTime 28 = .ok (.aload_n 0, 1) := by decide +kernel
theorem dX11_keepsTime_29 : decode cX11_keepsTime 29 = .ok (.getfield 9, 3) := by decide +kernel
theorem dX11_keepsTime_32 : decode cX11_keepsTime 32 = .ok (.iconst 3, 1) := by decide +kernel
theorem dX11_keepsTime_33 : decode cX11_keepsTime 33 = .ok (.iaload, 1) := by decide +kernel
theorem dX11_keepsTime_34 : decode cX11_keepsTime 34 = .ok (.iload_n 3, 1) := by decide +kernel
theorem dX11_keepsTime_35 : decode cX11_keepsTime 35 = .ok (.aload_n 0, 1) := by decide +kernel
theorem dX11_keepsTime_36 : decode cX11_keepsTime 36 = .ok (.iload_n 1, 1) := by decide +kernel
theorem dX11_keepsTime_37 : decode cX11_keepsTime 37 = .ok (.invokevirtual 89, 3) := by decide +kernel
theorem dX11_keepsTime_40 : decode cX11_keepsTime 40 = .ok (.isub, 1) := by decide +kernel
theorem dX11_keepsTime_41 : decode cX11_keepsTime 41 = .ok (.invokestatic 92, 3) := by decide +kernel
theorem dX11_keepsTime_44 : decode cX11_keepsTime 44 = .ok (.imul, 1) := by decide +kernel
theorem dX11_keepsTime_45 : decode cX11_keepsTime 45 = .ok (.if_icmp .lt 7, 3) := by decide +kernel
theorem dX11_keepsTime_48 : decode cX11_keepsTime 48 = .ok (.iconst 1, 1) := by decide +kernel
theorem dX11_keepsTime_49 : decode cX11_keepsTime 49 = .ok (.goto 4, 3) := by decide +kernel
theorem dX11_keepsTime_52 : decode cX11_keepsTime 52 = .ok (.iconst 0, 1) := by decide +kernel
theorem dX11_keepsTime_53 : decode cX11_keepsTime 53 = .ok (.ireturn, 1) := by decide +kernel
set_option maxRecDepth 20000 in
theorem ggX11_canBe_X11_graces : GoodIn wsX11_canBe wsX11_graces := goodIn_r _ [6, 1, 23, 24, 25, 26, 27, 28, 29, 30, 31, 32, 33, 34, 35, 36, 37, 38, 39, 40, 41] (by decide +kernel) (by decide +kernel)
set_option maxRecDepth 20000 in
theorem gX11_canBe_X11_graces : GoodIn wsX11_canBe (wsV RX11 80 RX11 yX11_graces wsX11_graces) := goodIn_app (goodIn_of _ (by decide +kernel)) ggX11_canBe_X11_graces
set_option maxRecDepth 20000 in
theorem ggX11_canBe_X11_keepsTime : GoodIn wsX11_canBe wsX11_keepsTime := goodIn_r _ [10, 1, 11, 12, 13, 14, 15, 16, 17, 5, 18, 19, 20, 21, 22, 23, 24, 25, 26, 27, 28, 29, 30, 31, 32, 33, 34, 35, 36, 37, 38, 39, 40, 41] (by decide +kernel) (by decide +kernel)
set_option maxRecDepth 20000 in
theorem gX11_canBe_X11_keepsTime : GoodIn wsX11_canBe (wsV RX11 97 RX11 yX11_keepsTime wsX11_keepsTime) := goodIn_app (goodIn_of _ (by decide +kernel)) ggX11_canBe_X11_keepsTime
set_option maxRecDepth 20000 in
theorem ggX11_canBe_X11_heightOf : GoodIn wsX11_canBe wsX11_heightOf := goodIn_r _ [22, 1, 23, 24, 25, 26, 27, 28, 29, 30, 31, 32, 33, 34, 35, 36, 37, 38, 39, 40, 41] (by decide +kernel) (by decide +kernel)
set_option maxRecDepth 20000 in
theorem gX11_canBe_X11_heightOf : GoodIn wsX11_canBe (wsV RX11 89 RX11 yX11_heightOf wsX11_heightOf) := goodIn_app (goodIn_of _ (by decide +kernel)) ggX11_canBe_X11_heightOf
theorem dX11_canBe_0 : decode cX11_canBe 0 = .ok (.aload_n 0, 1) := by decide +kernel
theorem dX11_canBe_1 : decode cX11_canBe 1 = .ok (.getfield 9, 3) := by decide +kernel
theorem dX11_canBe_4 : decode cX11_canBe 4 = .ok (.bipush 67, 2) := by decide +kernel
theorem dX11_canBe_6 : decode cX11_canBe 6 = .ok (.iload_n 1, 1) := by decide +kernel
theorem dX11_canBe_7 : decode cX11_canBe 7 = .ok (.iadd, 1) := by decide +kernel
theorem dX11_canBe_8 : decode cX11_canBe 8 = .ok (.iaload, 1) := by decide +kernel
theorem dX11_canBe_9 : decode cX11_canBe 9 = .ok (.ifCond .lt 18, 3) := by decide +kernel
theorem dX11_canBe_12 : decode cX11_canBe 12 = .ok (.aload_n 0, 1) := by decide +kernel
theorem dX11_canBe_13 : decode cX11_canBe 13 = .ok (.getfield 9, 3) := by decide +kernel
theorem dX11_canBe_16 : decode cX11_canBe 16 = .ok (.bipush 67, 2) := by decide +kernel
theorem dX11_canBe_18 : decode cX11_canBe 18 = .ok (.iload_n 1, 1) := by decide +kernel
theorem dX11_canBe_19 : decode cX11_canBe 19 = .ok (.iadd, 1) := by decide +kernel
theorem dX11_canBe_20 : decode cX11_canBe 20 = .ok (.iaload, 1) := by decide +kernel
theorem dX11_canBe_21 : decode cX11_canBe 21 = .ok (.iload_n 2, 1) := by decide +kernel
theorem dX11_canBe_22 : decode cX11_canBe 22 = .ok (.if_icmp .eq 5, 3) := by decide +kernel
theorem dX11_canBe_25 : decode cX11_canBe 25 = .ok (.iconst 0, 1) := by decide +kernel
theorem dX11_canBe_26 : decode cX11_canBe 26 = .ok (.ireturn, 1) := by decide +kernel
theorem dX11_canBe_27 : decode cX11_canBe 27 = .ok (.aload_n 0, 1) := by decide +kernel
theorem dX11_canBe_28 : decode cX11_canBe 28 = .ok (.getfield 9, 3) := by decide +kernel
theorem dX11_canBe_31 : decode cX11_canBe 31 = .ok (.bipush 27, 2) := by decide +kernel
theorem dX11_canBe_33 : decode cX11_canBe 33 = .ok (.iload_n 1, 1) := by decide +kernel
theorem dX11_canBe_34 : decode cX11_canBe 34 = .ok (.iadd, 1) := by decide +kernel
theorem dX11_canBe_35 : decode cX11_canBe 35 = .ok (.iaload, 1) := by decide +kernel
theorem dX11_canBe_36 : decode cX11_canBe 36 = .ok (.istore 5, 2) := by decide +kernel
theorem dX11_canBe_38 : decode cX11_canBe 38 = .ok (.aload_n 0, 1) := by decide +kernel
theorem dX11_canBe_39 : decode cX11_canBe 39 = .ok (.iload_n 1, 1) := by decide +kernel
theorem dX11_canBe_40 : decode cX11_canBe 40 = .ok (.invokevirtual 80, 3) := by decide +kernel
theorem dX11_canBe_43 : decode cX11_canBe 43 = .ok (.ifCond .eq 23, 3) := by decide +kernel
theorem dX11_canBe_46 : decode cX11_canBe 46 = .ok (.aload_n 0, 1) := by decide +kernel
theorem dX11_canBe_47 : decode cX11_canBe 47 = .ok (.iload 4, 2) := by decide +kernel
theorem dX11_canBe_49 : decode cX11_canBe 49 = .ok (.iload 5, 2) := by decide +kernel
theorem dX11_canBe_51 : decode cX11_canBe 51 = .ok (.iconst 4, 1) := by decide +kernel
theorem dX11_canBe_52 : decode cX11_canBe 52 = .ok (.aload_n 0, 1) := by decide +kernel
theorem dX11_canBe_53 : decode cX11_canBe 53 = .ok (.iload_n 1, 1) := by decide +kernel
theorem dX11_canBe_54 : decode cX11_canBe 54 = .ok (.invokevirtual 80, 3) := by decide +kernel
theorem dX11_canBe_57 : decode cX11_canBe 57 = .ok (.imul, 1) := by decide +kernel
theorem dX11_canBe_58 : decode cX11_canBe 58 = .ok (.isub, 1) := by decide +kernel
theorem dX11_canBe_59 : decode cX11_canBe 59 = .ok (.iconst 1, 1) := by decide +kernel
theorem dX11_canBe_60 : decode cX11_canBe 60 = .ok (.invokevirtual 97, 3) := by decide +kernel
theorem dX11_canBe_63 : decode cX11_canBe 63 = .ok (.ifCond .eq 7, 3) := by decide +kernel
theorem dX11_canBe_66 : decode cX11_canBe 66 = .ok (.iconst 1, 1) := by decide +kernel
theorem dX11_canBe_67 : decode cX11_canBe 67 = .ok (.goto 4, 3) := by decide +kernel
theorem dX11_canBe_70 : decode cX11_canBe 70 = .ok (.iconst 0, 1) := by decide +kernel
theorem dX11_canBe_71 : decode cX11_canBe 71 = .ok (.istore 6, 2) := by decide +kernel
theorem dX11_canBe_73 : decode cX11_canBe 73 = .ok (.iload 6, 2) := by decide +kernel
theorem dX11_canBe_75 : decode cX11_canBe 75 = .ok (.ifCond .eq 26, 3) := by decide +kernel
theorem dX11_canBe_78 : decode cX11_canBe 78 = .ok (.aload_n 0, 1) := by decide +kernel
theorem dX11_canBe_79 : decode cX11_canBe 79 = .ok (.iload_n 3, 1) := by decide +kernel
theorem dX11_canBe_80 : decode cX11_canBe 80 = .ok (.iload 5, 2) := by decide +kernel
theorem dX11_canBe_82 : decode cX11_canBe 82 = .ok (.aload_n 0, 1) := by decide +kernel
theorem dX11_canBe_83 : decode cX11_canBe 83 = .ok (.iconst 1, 1) := by decide +kernel
theorem dX11_canBe_84 : decode cX11_canBe 84 = .ok (.iconst 2, 1) := by decide +kernel
theorem dX11_canBe_85 : decode cX11_canBe 85 = .ok (.iload_n 1, 1) := by decide +kernel
theorem dX11_canBe_86 : decode cX11_canBe 86 = .ok (.imul, 1) := by decide +kernel
theorem dX11_canBe_87 : decode cX11_canBe 87 = .ok (.iadd, 1) := by decide +kernel
theorem dX11_canBe_88 : decode cX11_canBe 88 = .ok (.invokevirtual 89, 3) := by decide +kernel
theorem dX11_canBe_91 : decode cX11_canBe 91 = .ok (.invokevirtual 97, 3) := by decide +kernel
theorem dX11_canBe_94 : decode cX11_canBe 94 = .ok (.ifCond .eq 7, 3) := by decide +kernel
theorem dX11_canBe_97 : decode cX11_canBe 97 = .ok (.iconst 1, 1) := by decide +kernel
theorem dX11_canBe_98 : decode cX11_canBe 98 = .ok (.goto 4, 3) := by decide +kernel
theorem dX11_canBe_101 : decode cX11_canBe 101 = .ok (.iconst 0, 1) := by decide +kernel
theorem dX11_canBe_102 : decode cX11_canBe 102 = .ok (.ireturn, 1) := by decide +kernel
set_option maxRecDepth 20000 in
theorem ggX11_otherThen_X11_graces : GoodIn wsX11_otherThen wsX11_graces := goodIn_r _ [5, 6, 7, 8, 9, 10, 11, 12, 13, 14, 15, 16, 17, 18, 19, 20, 21, 22, 23, 24, 25] (by decide +kernel) (by decide +kernel)
set_option maxRecDepth 20000 in
theorem gX11_otherThen_X11_graces : GoodIn wsX11_otherThen (wsV RX11 80 RX11 yX11_graces wsX11_graces) := goodIn_app (goodIn_of _ (by decide +kernel)) ggX11_otherThen_X11_graces
theorem dX11_otherThen_0 : decode cX11_otherThen 0 = .ok (.aload_n 0, 1) := by decide +kernel
theorem dX11_otherThen_1 : decode cX11_otherThen 1 = .ok (.iload_n 1, 1) := by decide +kernel
theorem dX11_otherThen_2 : decode cX11_otherThen 2 = .ok (.invokevirtual 80, 3) := by decide +kernel
theorem dX11_otherThen_5 : decode cX11_otherThen 5 = .ok (.ifCond .le 11, 3) := by decide +kernel
theorem dX11_otherThen_8 : decode cX11_otherThen 8 = .ok (.iconst 2, 1) := by decide +kernel
theorem dX11_otherThen_9 : decode cX11_otherThen 9 = .ok (.iconst 2, 1) := by decide +kernel
theorem dX11_otherThen_10 : decode cX11_otherThen 10 = .ok (.iload_n 1, 1) := by decide +kernel
theorem dX11_otherThen_11 : decode cX11_otherThen 11 = .ok (.imul, 1) := by decide +kernel
theorem dX11_otherThen_12 : decode cX11_otherThen 12 = .ok (.iadd, 1) := by decide +kernel
theorem dX11_otherThen_13 : decode cX11_otherThen 13 = .ok (.goto 4, 3) := by decide +kernel
theorem dX11_otherThen_16 : decode cX11_otherThen 16 = .ok (.iload_n 2, 1) := by decide +kernel
theorem dX11_otherThen_17 : decode cX11_otherThen 17 = .ok (.ireturn, 1) := by decide +kernel
theorem dX11_isCrossed_0 : decode cX11_isCrossed 0 = .ok (.iload_n 3, 1) := by decide +kernel
theorem dX11_isCrossed_1 : decode cX11_isCrossed 1 = .ok (.ifCond .ne 5, 3) := by decide +kernel
theorem dX11_isCrossed_4 : decode cX11_isCrossed 4 = .ok (.iconst 0, 1) := by decide +kernel
theorem dX11_isCrossed_5 : decode cX11_isCrossed 5 = .ok (.ireturn, 1) := by decide +kernel
theorem dX11_isCrossed_6 : decode cX11_isCrossed 6 = .ok (.aload_n 0, 1) := by decide +kernel
theorem dX11_isCrossed_7 : decode cX11_isCrossed 7 = .ok (.getfield 9, 3) := by decide +kernel
theorem dX11_isCrossed_10 : decode cX11_isCrossed 10 = .ok (.bipush 47, 2) := by decide +kernel
theorem dX11_isCrossed_12 : decode cX11_isCrossed 12 = .ok (.iload_n 1, 1) := by decide +kernel
theorem dX11_isCrossed_13 : decode cX11_isCrossed 13 = .ok (.iadd, 1) := by decide +kernel
theorem dX11_isCrossed_14 : decode cX11_isCrossed 14 = .ok (.iaload, 1) := by decide +kernel
theorem dX11_isCrossed_15 : decode cX11_isCrossed 15 = .ok (.istore 4, 2) := by decide +kernel
theorem dX11_isCrossed_17 : decode cX11_isCrossed 17 = .ok (.aload_n 0, 1) := by decide +kernel
theorem dX11_isCrossed_18 : decode cX11_isCrossed 18 = .ok (.getfield 9, 3) := by decide +kernel
theorem dX11_isCrossed_21 : decode cX11_isCrossed 21 = .ok (.bipush 47, 2) := by decide +kernel
theorem dX11_isCrossed_23 : decode cX11_isCrossed 23 = .ok (.iload_n 3, 1) := by decide +kernel
theorem dX11_isCrossed_24 : decode cX11_isCrossed 24 = .ok (.iconst 1, 1) := by decide +kernel
theorem dX11_isCrossed_25 : decode cX11_isCrossed 25 = .ok (.isub, 1) := by decide +kernel
theorem dX11_isCrossed_26 : decode cX11_isCrossed 26 = .ok (.iconst 2, 1) := by decide +kernel
theorem dX11_isCrossed_27 : decode cX11_isCrossed 27 = .ok (.idiv, 1) := by decide +kernel
theorem dX11_isCrossed_28 : decode cX11_isCrossed 28 = .ok (.iadd, 1) := by decide +kernel
theorem dX11_isCrossed_29 : decode cX11_isCrossed 29 = .ok (.iaload, 1) := by decide +kernel
theorem dX11_isCrossed_30 : decode cX11_isCrossed 30 = .ok (.istore 5, 2) := by decide +kernel
theorem dX11_isCrossed_32 : decode cX11_isCrossed 32 = .ok (.iload_n 2, 1) := by decide +kernel
theorem dX11_isCrossed_33 : decode cX11_isCrossed 33 = .ok (.iconst 1, 1) := by decide +kernel
theorem dX11_isCrossed_34 : decode cX11_isCrossed 34 = .ok (.if_icmp .ne 18, 3) := by decide +kernel
theorem dX11_isCrossed_37 : decode cX11_isCrossed 37 = .ok (.iload 4, 2) := by decide +kernel
theorem dX11_isCrossed_39 : decode cX11_isCrossed 39 = .ok (.iload 5, 2) := by decide +kernel
theorem dX11_isCrossed_41 : decode cX11_isCrossed 41 = .ok (.if_icmp .ge 7, 3) := by decide +kernel
theorem dX11_isCrossed_44 : decode cX11_isCrossed 44 = .ok (.iconst 1, 1) := by decide +kernel
theorem dX11_isCrossed_45 : decode cX11_isCrossed 45 = .ok (.goto 19, 3) := by decide +kernel
theorem dX11_isCrossed_48 : decode cX11_isCrossed 48 = .ok (.iconst 0, 1) := by decide +kernel
theorem dX11_isCrossed_49 : decode cX11_isCrossed 49 = .ok (.goto 15, 3) := by decide +kernel
theorem dX11_isCrossed_52 : decode cX11_isCrossed 52 = .ok (.iload 5, 2) := by decide +kernel
theorem dX11_isCrossed_54 : decode cX11_isCrossed 54 = .ok (.iload 4, 2) := by decide +kernel
theorem dX11_isCrossed_56 : decode cX11_isCrossed 56 = .ok (.if_icmp .ge 7, 3) := by decide +kernel
theorem dX11_isCrossed_59 : decode cX11_isCrossed 59 = .ok (.iconst 1, 1) := by decide +kernel
theorem dX11_isCrossed_60 : decode cX11_isCrossed 60 = .ok (.goto 4, 3) := by decide +kernel
theorem dX11_isCrossed_63 : decode cX11_isCrossed 63 = .ok (.iconst 0, 1) := by decide +kernel
theorem dX11_isCrossed_64 : decode cX11_isCrossed 64 = .ok (.ireturn, 1) := by decide +kernel
set_option maxRecDepth 20000 in
theorem ggX11_awkwardness_X11_graces : GoodIn wsX11_awkwardness wsX11_graces := goodIn_r _ [6, 1, 7, 8, 9, 10, 11, 12, 13, 14, 15, 16, 17, 18, 19, 20, 21, 22, 23, 24, 25] (by decide +kernel) (by decide +kernel)
set_option maxRecDepth 20000 in
theorem gX11_awkwardness_X11_graces : GoodIn wsX11_awkwardness (wsV RX11 80 RX11 yX11_graces wsX11_graces) := goodIn_app (goodIn_of _ (by decide +kernel)) ggX11_awkwardness_X11_graces
theorem dX11_awkwardness_0 : decode cX11_awkwardness 0 = .ok (.iload 4, 2) := by decide +kernel
theorem dX11_awkwardness_2 : decode cX11_awkwardness 2 = .ok (.ifCond .eq 7, 3) := by decide +kernel
theorem dX11_awkwardness_5 : decode cX11_awkwardness 5 = .ok (.iconst 2, 1) := by decide +kernel
theorem dX11_awkwardness_6 : decode cX11_awkwardness 6 = .ok (.goto 4, 3) := by decide +kernel
theorem dX11_awkwardness_9 : decode cX11_awkwardness 9 = .ok (.iconst 0, 1) := by decide +kernel
theorem dX11_awkwardness_10 : decode cX11_awkwardness 10 = .ok (.istore 5, 2) := by decide +kernel
theorem dX11_awkwardness_12 : decode cX11_awkwardness 12 = .ok (.iload 5, 2) := by decide +kernel
theorem dX11_awkwardness_14 : decode cX11_awkwardness 14 = .ok (.aload_n 0, 1) := by decide +kernel
theorem dX11_awkwardness_15 : decode cX11_awkwardness 15 = .ok (.getfield 9, 3) := by decide +kernel
theorem dX11_awkwardness_18 : decode cX11_awkwardness 18 = .ok (.bipush 7, 2) := by decide +kernel
theorem dX11_awkwardness_20 : decode cX11_awkwardness 20 = .ok (.iload_n 1, 1) := by decide +kernel
theorem dX11_awkwardness_21 : decode cX11_awkwardness 21 = .ok (.iadd, 1) := by decide +kernel
theorem dX11_awkwardness_22 : decode cX11_awkwardness 22 = .ok (.iaload, 1) := by decide +kernel
theorem dX11_awkwardness_23 : decode cX11_awkwardness 23 = .ok (.iconst 1, 1) := by decide +kernel
theorem dX11_awkwardness_24 : decode cX11_awkwardness 24 = .ok (.if_icmp .ne 11, 3) := by decide +kernel
theorem dX11_awkwardness_27 : decode cX11_awkwardness 27 = .ok (.iload_n 2, 1) := by decide +kernel
theorem dX11_awkwardness_28 : decode cX11_awkwardness 28 = .ok (.ifCond .ne 7, 3) := by decide +kernel
theorem dX11_awkwardness_31 : decode cX11_awkwardness 31 = .ok (.iconst 1, 1) := by decide +kernel
theorem dX11_awkwardness_32 : decode cX11_awkwardness 32 = .ok (.goto 4, 3) := by decide +kernel
theorem dX11_awkwardness_35 : decode cX11_awkwardness 35 = .ok (.iconst 0, 1) := by decide +kernel
theorem dX11_awkwardness_36 : decode cX11_awkwardness 36 = .ok (.iadd, 1) := by decide +kernel
theorem dX11_awkwardness_37 : decode cX11_awkwardness 37 = .ok (.istore 5, 2) := by decide +kernel
theorem dX11_awkwardness_39 : decode cX11_awkwardness 39 = .ok (.iload_n 2, 1) := by decide +kernel
theorem dX11_awkwardness_40 : decode cX11_awkwardness 40 = .ok (.iload_n 3, 1) := by decide +kernel
theorem dX11_awkwardness_41 : decode cX11_awkwardness 41 = .ok (.if_icmp .ne 74, 3) := by decide +kernel
theorem dX11_awkwardness_44 : decode cX11_awkwardness 44 = .ok (.iinc 5 2, 3) := by decide +kernel
theorem dX11_awkwardness_47 : decode cX11_awkwardness 47 = .ok (.iload 5, 2) := by decide +kernel
theorem dX11_awkwardness_49 : decode cX11_awkwardness 49 = .ok (.aload_n 0, 1) := by decide +kernel
theorem dX11_awkwardness_50 : decode cX11_awkwardness 50 = .ok (.getfield 9, 3) := by decide +kernel
theorem dX11_awkwardness_53 : decode cX11_awkwardness 53 = .ok (.bipush 27, 2) := by decide +kernel
theorem dX11_awkwardness_55 : decode cX11_awkwardness 55 = .ok (.iload_n 1, 1) := by decide +kernel
theorem dX11_awkwardness_56 : decode cX11_awkwardness 56 = .ok (.iadd, 1) := by decide +kernel
theorem dX11_awkwardness_57 : decode cX11_awkwardness 57 = .ok (.iaload, 1) := by decide +kernel
theorem dX11_awkwardness_58 : decode cX11_awkwardness 58 = .ok (.aload_n 0, 1) := by decide +kernel
theorem dX11_awkwardness_59 : decode cX11_awkwardness 59 = .ok (.getfield 9, 3) := by decide +kernel
theorem dX11_awkwardness_62 : decode cX11_awkwardness 62 = .ok (.bipush 27, 2) := by decide +kernel
theorem dX11_awkwardness_64 : decode cX11_awkwardness 64 = .ok (.iload_n 1, 1) := by decide +kernel
theorem dX11_awkwardness_65 : decode cX11_awkwardness 65 = .ok (.iadd, 1) := by decide +kernel
theorem dX11_awkwardness_66 : decode cX11_awkwardness 66 = .ok (.iconst 1, 1) := by decide +kernel
theorem dX11_awkwardness_67 : decode cX11_awkwardness 67 = .ok (.isub, 1) := by decide +kernel
theorem dX11_awkwardness_68 : decode cX11_awkwardness 68 = .ok (.iaload, 1) := by decide +kernel
theorem dX11_awkwardness_69 : decode cX11_awkwardness 69 = .ok (.isub, 1) := by decide +kernel
theorem dX11_awkwardness_70 : decode cX11_awkwardness 70 = .ok (.aload_n 0, 1) := by decide +kernel
theorem dX11_awkwardness_71 : decode cX11_awkwardness 71 = .ok (.getfield 9, 3) := by decide +kernel
theorem dX11_awkwardness_74 : decode cX11_awkwardness 74 = .ok (.iconst 5, 1) := by decide +kernel
theorem dX11_awkwardness_75 : decode cX11_awkwardness 75 = .ok (.iaload, 1) := by decide +kernel
theorem dX11_awkwardness_76 : decode cX11_awkwardness 76 = .ok (.if_icmp .ge 7, 3) := by decide +kernel
theorem dX11_awkwardness_79 : decode cX11_awkwardness 79 = .ok (.iconst 1, 1) := by decide +kernel
theorem dX11_awkwardness_80 : decode cX11_awkwardness 80 = .ok (.goto 4, 3) := by decide +kernel
theorem dX11_awkwardness_83 : decode cX11_awkwardness 83 = .ok (.iconst 0, 1) := by decide +kernel
theorem dX11_awkwardness_84 : decode cX11_awkwardness 84 = .ok (.iadd, 1) := by decide +kernel
theorem dX11_awkwardness_85 : decode cX11_awkwardness 85 = .ok (.istore 5, 2) := by decide +kernel
theorem dX11_awkwardness_87 : decode cX11_awkwardness 87 = .ok (.iload 5, 2) := by decide +kernel
theorem dX11_awkwardness_89 : decode cX11_awkwardness 89 = .ok (.aload_n 0, 1) := by decide +kernel
theorem dX11_awkwardness_90 : decode cX11_awkwardness 90 = .ok (.iload_n 1, 1) := by decide +kernel
theorem dX11_awkwardness_91 : decode cX11_awkwardness 91 = .ok (.invokevirtual 80, 3) := by decide +kernel
theorem dX11_awkwardness_94 : decode cX11_awkwardness 94 = .ok (.ifCond .le 17, 3) := by decide +kernel
theorem dX11_awkwardness_97 : decode cX11_awkwardness 97 = .ok (.aload_n 0, 1) := by decide +kernel
theorem dX11_awkwardness_98 : decode cX11_awkwardness 98 = .ok (.iload_n 1, 1) := by decide +kernel
theorem dX11_awkwardness_99 : decode cX11_awkwardness 99 = .ok (.iconst 1, 1) := by decide +kernel
theorem dX11_awkwardness_100 : decode cX11_awkwardness 100 = .ok (.isub, 1) := by decide +kernel
theorem dX11_awkwardness_101 : decode cX11_awkwardness 101 = .ok (.invokevirtual 80, 3) := by decide +kernel
theorem dX11_awkwardness_104 : decode cX11_awkwardness 104 = .ok (.ifCond .le 7, 3) := by decide +kernel
theorem dX11_awkwardness_107 : decode cX11_awkwardness 107 = .ok (.iconst 3, 1) := by decide +kernel
theorem dX11_awkwardness_108 : decode cX11_awkwardness 108 = .ok (.goto 4, 3) := by decide +kernel
theorem dX11_awkwardness_111 : decode cX11_awkwardness 111 = .ok (.iconst 0, 1) := by decide +kernel
theorem dX11_awkwardness_112 : decode cX11_awkwardness 112 = .ok (.iadd, 1) := by decide +kernel
theorem dX11_awkwardness_113 : decode cX11_awkwardness 113 = .ok (.istore 5, 2) := by decide +kernel
theorem dX11_awkwardness_115 : decode cX11_awkwardness 115 = .ok (.iload 5, 2) := by decide +kernel
theorem dX11_awkwardness_117 : decode cX11_awkwardness 117 = .ok (.ireturn, 1) := by decide +kernel
theorem dX11_stateOf_0 : decode cX11_stateOf 0 = .ok (.iload_n 0, 1) := by decide +kernel
theorem dX11_stateOf_1 : decode cX11_stateOf 1 = .ok (.iconst 2, 1) := by decide +kernel
theorem dX11_stateOf_2 : decode cX11_stateOf 2 = .ok (.imul, 1) := by decide +kernel
theorem dX11_stateOf_3 : decode cX11_stateOf 3 = .ok (.iload_n 1, 1) := by decide +kernel
theorem dX11_stateOf_4 : decode cX11_stateOf 4 = .ok (.iadd, 1) := by decide +kernel
theorem dX11_stateOf_5 : decode cX11_stateOf 5 = .ok (.bipush 42, 2) := by decide +kernel
theorem dX11_stateOf_7 : decode cX11_stateOf 7 = .ok (.imul, 1) := by decide +kernel
theorem dX11_stateOf_8 : decode cX11_stateOf 8 = .ok (.iload_n 2, 1) := by decide +kernel
theorem dX11_stateOf_9 : decode cX11_stateOf 9 = .ok (.iadd, 1) := by decide +kernel
theorem dX11_stateOf_10 : decode cX11_stateOf 10 = .ok (.iconst 5, 1) := by decide +kernel
theorem dX11_stateOf_11 : decode cX11_stateOf 11 = .ok (.imul, 1) := by decide +kernel
theorem dX11_stateOf_12 : decode cX11_stateOf 12 = .ok (.iload_n 3, 1) := by decide +kernel
theorem dX11_stateOf_13 : decode cX11_stateOf 13 = .ok (.iadd, 1) := by decide +kernel
theorem dX11_stateOf_14 : decode cX11_stateOf 14 = .ok (.ireturn, 1) := by decide +kernel
set_option maxRecDepth 20000 in
theorem ggX11_follows_X11_canBe : GoodIn wsX11_follows wsX11_canBe := goodIn_r _ [15, 4, 16, 17, 18, 14, 19, 20, 21, 22, 23, 24, 25, 8, 26, 27, 28, 29, 30, 31, 32, 33, 34, 50, 51, 52, 53, 54, 55, 56, 57, 58, 59, 60, 61, 62, 63, 64, 65, 66, 67, 68] (by decide +kernel) (by decide +kernel)
set_option maxRecDepth 20000 in
theorem gX11_follows_X11_canBe : GoodIn wsX11_follows (wsV RX11 107 RX11 yX11_canBe wsX11_canBe) := goodIn_app (goodIn_of _ (by decide +kernel)) ggX11_follows_X11_canBe
set_option maxRecDepth 20000 in
theorem ggX11_follows_X11_otherThen : GoodIn wsX11_follows wsX11_otherThen := goodIn_r _ [38, 16, 17, 18, 14, 19, 4, 50, 51, 52, 53, 54, 55, 56, 57, 58, 59, 60, 61, 62, 63, 64, 65, 66, 67, 68] (by decide +kernel) (by decide +kernel)
set_option maxRecDepth 20000 in
theorem gX11_follows_X11_otherThen : GoodIn wsX11_follows (wsV RX11 111 RX11 yX11_otherThen wsX11_otherThen) := goodIn_app (goodIn_of _ (by decide +kernel)) ggX11_follows_X11_otherThen
set_option maxRecDepth 20000 in
theorem ggX11_follows_X11_isCrossed : GoodIn wsX11_follows wsX11_isCrossed := goodIn_r _ [42, 4, 50, 51, 52, 53, 54, 55, 56, 57, 58, 59, 60, 61, 62, 63, 64, 65, 66, 67, 68] (by decide +kernel) (by decide +kernel)
set_option maxRecDepth 20000 in
theorem gX11_follows_X11_isCrossed : GoodIn wsX11_follows (wsV RX11 115 RX11 yX11_isCrossed wsX11_isCrossed) := goodIn_app (goodIn_of _ (by decide +kernel)) ggX11_follows_X11_isCrossed
set_option maxRecDepth 20000 in
theorem ggX11_follows_X11_stateOf : GoodIn wsX11_follows wsX11_stateOf := goodIn_r _ [45] (by decide +kernel) (by decide +kernel)
set_option maxRecDepth 20000 in
theorem gX11_follows_X11_stateOf : GoodIn wsX11_follows (va_wsS RX11 118 yX11_stateOf wsX11_stateOf) := goodIn_app (goodIn_of _ (by decide +kernel)) ggX11_follows_X11_stateOf
set_option maxRecDepth 20000 in
theorem ggX11_follows_X11_awkwardness : GoodIn wsX11_follows wsX11_awkwardness := goodIn_r _ [49, 4, 16, 17, 18, 14, 19, 50, 51, 52, 53, 54, 55, 56, 57, 58, 59, 60, 61, 62, 63, 64, 65, 66, 67, 68] (by decide +kernel) (by decide +kernel)
set_option maxRecDepth 20000 in
theorem gX11_follows_X11_awkwardness : GoodIn wsX11_follows (wsV RX11 122 RX11 yX11_awkwardness wsX11_awkwardness) := goodIn_app (goodIn_of _ (by decide +kernel)) ggX11_follows_X11_awkwardness
theorem dX11_follows_0 : decode cX11_follows 0 = .ok (.iload_n 1, 1) := by decide +kernel
theorem dX11_follows_1 : decode cX11_follows 1 = .ok (.iconst 1, 1) := by decide +kernel
theorem dX11_follows_2 : decode cX11_follows 2 = .ok (.iadd, 1) := by decide +kernel
theorem dX11_follows_3 : decode cX11_follows 3 = .ok (.istore 7, 2) := by decide +kernel
theorem dX11_follows_5 : decode cX11_follows 5 = .ok (.iload_n 1, 1) := by decide +kernel
theorem dX11_follows_6 : decode cX11_follows 6 = .ok (.ifCond .ge 7, 3) := by decide +kernel
theorem dX11_follows_9 : decode cX11_follows 9 = .ok (.iconst 0, 1) := by decide +kernel
theorem dX11_follows_10 : decode cX11_follows 10 = .ok (.goto 8, 3) := by decide +kernel
theorem dX11_follows_13 : decode cX11_follows 13 = .ok (.iconst 1, 1) := by decide +kernel
theorem dX11_follows_14 : decode cX11_follows 14 = .ok (.iconst 2, 1) := by decide +kernel
theorem dX11_follows_15 : decode cX11_follows 15 = .ok (.iload_n 1, 1) := by decide +kernel
theorem dX11_follows_16 : decode cX11_follows 16 = .ok (.imul, 1) := by decide +kernel
theorem dX11_follows_17 : decode cX11_follows 17 = .ok (.iadd, 1) := by decide +kernel
theorem dX11_follows_18 : decode cX11_follows 18 = .ok (.istore 8, 2) := by decide +kernel
theorem dX11_follows_20 : decode cX11_follows 20 = .ok (.iload 5, 2) := by decide +kernel
theorem dX11_follows_22 : decode cX11_follows 22 = .ok (.iload_n 2, 1) := by decide +kernel
theorem dX11_follows_23 : decode cX11_follows 23 = .ok (.if_icmp .ne 8, 3) := by decide +kernel
theorem dX11_follows_26 : decode cX11_follows 26 = .ok (.iload 8, 2) := by decide +kernel
theorem dX11_follows_28 : decode cX11_follows 28 = .ok (.goto 4, 3) := by decide +kernel
theorem dX11_follows_31 : decode cX11_follows 31 = .ok (.iload_n 3, 1) := by decide +kernel
theorem dX11_follows_32 : decode cX11_follows 32 = .ok (.istore 9, 2) := by decide +kernel
theorem dX11_follows_34 : decode cX11_follows 34 = .ok (.iload 5, 2) := by decide +kernel
theorem dX11_follows_36 : decode cX11_follows 36 = .ok (.iload_n 2, 1) := by decide +kernel
theorem dX11_follows_37 : decode cX11_follows 37 = .ok (.if_icmp .ne 7, 3) := by decide +kernel
theorem dX11_follows_40 : decode cX11_follows 40 = .ok (.iload_n 3, 1) := by decide +kernel
theorem dX11_follows_41 : decode cX11_follows 41 = .ok (.goto 5, 3) := by decide +kernel
theorem dX11_follows_44 : decode cX11_follows 44 = .ok (.iload 8, 2) := by decide +kernel
theorem dX11_follows_46 : decode cX11_follows 46 = .ok (.istore 10, 2) := by decide +kernel
theorem dX11_follows_48 : decode cX11_follows 48 = .ok (.aload_n 0, 1) := by decide +kernel
theorem dX11_follows_49 : decode cX11_follows 49 = .ok (.ldc 100, 2) := by decide +kernel
theorem dX11_follows_51 : decode cX11_follows 51 = .ok (.putfield 101, 3) := by decide +kernel
theorem dX11_follows_54 : decode cX11_follows 54 = .ok (.aload_n 0, 1) := by decide +kernel
theorem dX11_follows_55 : decode cX11_follows 55 = .ok (.iconst 0, 1) := by decide +kernel
theorem dX11_follows_56 : decode cX11_follows 56 = .ok (.putfield 104, 3) := by decide +kernel
theorem dX11_follows_59 : decode cX11_follows 59 = .ok (.aload_n 0, 1) := by decide +kernel
theorem dX11_follows_60 : decode cX11_follows 60 = .ok (.iload 7, 2) := by decide +kernel
theorem dX11_follows_62 : decode cX11_follows 62 = .ok (.iload 5, 2) := by decide +kernel
theorem dX11_follows_64 : decode cX11_follows 64 = .ok (.iload 9, 2) := by decide +kernel
theorem dX11_follows_66 : decode cX11_follows 66 = .ok (.iload 10, 2) := by decide +kernel
theorem dX11_follows_68 : decode cX11_follows 68 = .ok (.invokevirtual 107, 3) := by decide +kernel
theorem dX11_follows_71 : decode cX11_follows 71 = .ok (.ifCond .ne 4, 3) := by decide +kernel
theorem dX11_follows_74 : decode cX11_follows 74 = .ok (.return_, 1) := by decide +kernel
theorem dX11_follows_75 : decode cX11_follows 75 = .ok (.aload_n 0, 1) := by decide +kernel
theorem dX11_follows_76 : decode cX11_follows 76 = .ok (.iload 7, 2) := by decide +kernel
theorem dX11_follows_78 : decode cX11_follows 78 = .ok (.iload 10, 2) := by decide +kernel
theorem dX11_follows_80 : decode cX11_follows 80 = .ok (.invokevirtual 111, 3) := by decide +kernel
theorem dX11_follows_83 : decode cX11_follows 83 = .ok (.istore 11, 2) := by decide +kernel
theorem dX11_follows_85 : decode cX11_follows 85 = .ok (.aload_n 0, 1) := by decide +kernel
theorem dX11_follows_86 : decode cX11_follows 86 = .ok (.iload 7, 2) := by decide +kernel
theorem dX11_follows_88 : decode cX11_follows 88 = .ok (.iload 5, 2) := by decide +kernel
theorem dX11_follows_90 : decode cX11_follows 90 = .ok (.iload 11, 2) := by decide +kernel
theorem dX11_follows_92 : decode cX11_follows 92 = .ok (.invokevirtual 115, 3) := by decide +kernel
theorem dX11_follows_95 : decode cX11_follows 95 = .ok (.istore 12, 2) := by decide +kernel
theorem dX11_follows_97 : decode cX11_follows 97 = .ok (.iload 4, 2) := by decide +kernel
theorem dX11_follows_99 : decode cX11_follows 99 = .ok (.iload 12, 2) := by decide +kernel
theorem dX11_follows_101 : decode cX11_follows 101 = .ok (.ifCond .eq 7, 3) := by decide +kernel
theorem dX11_follows_104 : decode cX11_follows 104 = .ok (.iconst 1, 1) := by decide +kernel
theorem dX11_follows_105 : decode cX11_follows 105 = .ok (.goto 4, 3) := by decide +kernel
theorem dX11_follows_108 : decode cX11_follows 108 = .ok (.iconst 0, 1) := by decide +kernel
theorem dX11_follows_109 : decode cX11_follows 109 = .ok (.iadd, 1) := by decide +kernel
theorem dX11_follows_110 : decode cX11_follows 110 = .ok (.istore 13, 2) := by decide +kernel
theorem dX11_follows_112 : decode cX11_follows 112 = .ok (.iload 13, 2) := by decide +kernel
theorem dX11_follows_114 : decode cX11_follows 114 = .ok (.aload_n 0, 1) := by decide +kernel
theorem dX11_follows_115 : decode cX11_follows 115 = .ok (.getfield 9, 3) := by decide +kernel
theorem dX11_follows_118 : decode cX11_follows 118 = .ok (.iconst 4, 1) := by decide +kernel
theorem dX11_follows_119 : decode cX11_follows 119 = .ok (.iaload, 1) := by decide +kernel
theorem dX11_follows_120 : decode cX11_follows 120 = .ok (.if_icmp .le 4, 3) := by decide +kernel
theorem dX11_follows_123 : decode cX11_follows 123 = .ok (.return_, 1) := by decide +kernel
theorem dX11_follows_124 : decode cX11_follows 124 = .ok (.iload 7, 2) := by decide +kernel
theorem dX11_follows_126 : decode cX11_follows 126 = .ok (.iload 5, 2) := by decide +kernel
theorem dX11_follows_128 : decode cX11_follows 128 = .ok (.iload 11, 2) := by decide +kernel
theorem dX11_follows_130 : decode cX11_follows 130 = .ok (.iload 13, 2) := by decide +kernel
theorem dX11_follows_132 : decode cX11_follows 132 = .ok (.invokestatic 118, 3) := by decide +kernel
theorem dX11_follows_135 : decode cX11_follows 135 = .ok (.istore 14, 2) := by decide +kernel
theorem dX11_follows_137 : decode cX11_follows 137 = .ok (.iload 7, 2) := by decide +kernel
theorem dX11_follows_139 : decode cX11_follows 139 = .ok (.iload 6, 2) := by decide +kernel
theorem dX11_follows_141 : decode cX11_follows 141 = .ok (.if_icmp .ne 7, 3) := by decide +kernel
theorem dX11_follows_144 : decode cX11_follows 144 = .ok (.iconst 0, 1) := by decide +kernel
theorem dX11_follows_145 : decode cX11_follows 145 = .ok (.goto 10, 3) := by decide +kernel
theorem dX11_follows_148 : decode cX11_follows 148 = .ok (.aload_n 0, 1) := by decide +kernel
theorem dX11_follows_149 : decode cX11_follows 149 = .ok (.getfield 25, 3) := by decide +kernel
theorem dX11_follows_152 : decode cX11_follows 152 = .ok (.iload 14, 2) := by decide +kernel
theorem dX11_follows_154 : decode cX11_follows 154 = .ok (.iaload, 1) := by decide +kernel
theorem dX11_follows_155 : decode cX11_follows 155 = .ok (.istore 15, 2) := by decide +kernel
theorem dX11_follows_157 : decode cX11_follows 157 = .ok (.aload_n 0, 1) := by decide +kernel
theorem dX11_follows_158 : decode cX11_follows 158 = .ok (.ldc 100, 2) := by decide +kernel
theorem dX11_follows_160 : decode cX11_follows 160 = .ok (.aload_n 0, 1) := by decide +kernel
theorem dX11_follows_161 : decode cX11_follows 161 = .ok (.iload 7, 2) := by decide +kernel
theorem dX11_follows_163 : decode cX11_follows 163 = .ok (.iload 5, 2) := by decide +kernel
theorem dX11_follows_165 : decode cX11_follows 165 = .ok (.iload_n 2, 1) := by decide +kernel
theorem dX11_follows_166 : decode cX11_follows 166 = .ok (.iload 12, 2) := by decide +kernel
theorem dX11_follows_168 : decode cX11_follows 168 = .ok (.invokevirtual 122, 3) := by decide +kernel
theorem dX11_follows_171 : decode cX11_follows 171 = .ok (.iload 15, 2) := by decide +kernel
theorem dX11_follows_173 : decode cX11_follows 173 = .ok (.iadd, 1) := by decide +kernel
theorem dX11_follows_174 : decode cX11_follows 174 = .ok (.invokestatic 126, 3) := by decide +kernel
theorem dX11_follows_177 : decode cX11_follows 177 = .ok (.putfield 101, 3) := by decide +kernel
theorem dX11_follows_180 : decode cX11_follows 180 = .ok (.aload_n 0, 1) := by decide +kernel
theorem dX11_follows_181 : decode cX11_follows 181 = .ok (.iload 7, 2) := by decide +kernel
theorem dX11_follows_183 : decode cX11_follows 183 = .ok (.iload 6, 2) := by decide +kernel
theorem dX11_follows_185 : decode cX11_follows 185 = .ok (.if_icmp .ne 7, 3) := by decide +kernel
theorem dX11_follows_188 : decode cX11_follows 188 = .ok (.iconst 1, 1) := by decide +kernel
theorem dX11_follows_189 : decode cX11_follows 189 = .ok (.goto 10, 3) := by decide +kernel
theorem dX11_follows_192 : decode cX11_follows 192 = .ok (.aload_n 0, 1) := by decide +kernel
theorem dX11_follows_193 : decode cX11_follows 193 = .ok (.getfield 28, 3) := by decide +kernel
theorem dX11_follows_196 : decode cX11_follows 196 = .ok (.iload 14, 2) := by decide +kernel
theorem dX11_follows_198 : decode cX11_follows 198 = .ok (.iaload, 1) := by decide +kernel
theorem dX11_follows_199 : decode cX11_follows 199 = .ok (.putfield 104, 3) := by decide +kernel
theorem dX11_follows_202 : decode cX11_follows 202 = .ok (.return_, 1) := by decide +kernel
set_option maxRecDepth 20000 in
theorem ggX11_findHands_X11_both : GoodIn wsX11_findHands wsX11_both := goodIn_r _ [9, 10, 2, 4, 11, 12, 13, 14, 15, 8, 16, 17, 1, 18, 19, 20, 21, 3, 22, 23, 24, 25, 26, 27, 28, 29, 30, 31, 32, 33, 34, 35, 36, 37, 38, 39, 40, 41, 42, 43, 44, 45, 46, 47, 48, 49, 50, 51, 52, 53, 54, 55, 56, 57, 58, 59, 60, 61, 62, 63, 64, 65, 66, 67, 68, 69, 70, 71, 72, 73, 74, 75, 76, 77, 78] (by decide +kernel) (by decide +kernel)
set_option maxRecDepth 20000 in
theorem gX11_findHands_X11_both : GoodIn wsX11_findHands (wsV RX11 129 RX11 yX11_both wsX11_both) := goodIn_app (goodIn_of _ (by decide +kernel)) ggX11_findHands_X11_both
set_option maxRecDepth 20000 in
theorem ggX11_findHands_X11_stateOf : GoodIn wsX11_findHands wsX11_stateOf := goodIn_r _ [55] (by decide +kernel) (by decide +kernel)
set_option maxRecDepth 20000 in
theorem gX11_findHands_X11_stateOf : GoodIn wsX11_findHands (va_wsS RX11 118 yX11_stateOf wsX11_stateOf) := goodIn_app (goodIn_of _ (by decide +kernel)) ggX11_findHands_X11_stateOf
theorem dX11_findHands_0 : decode cX11_findHands 0 = .ok (.iload_n 1, 1) := by decide +kernel
theorem dX11_findHands_1 : decode cX11_findHands 1 = .ok (.iconst 1, 1) := by decide +kernel
theorem dX11_findHands_2 : decode cX11_findHands 2 = .ok (.isub, 1) := by decide +kernel
theorem dX11_findHands_3 : decode cX11_findHands 3 = .ok (.istore_n 2, 1) := by decide +kernel
theorem dX11_findHands_4 : decode cX11_findHands 4 = .ok (.iload_n 2, 1) := by decide +kernel
theorem dX11_findHands_5 : decode cX11_findHands 5 = .ok (.ifCond .lt 100, 3) := by decide +kernel
theorem dX11_findHands_8 : decode cX11_findHands 8 = .ok (.iconst 0, 1) := by decide +kernel
theorem dX11_findHands_9 : decode cX11_findHands 9 = .ok (.istore_n 3, 1) := by decide +kernel
theorem dX11_findHands_10 : decode cX11_findHands 10 = .ok (.iload_n 3, 1) := by decide +kernel
theorem dX11_findHands_11 : decode cX11_findHands 11 = .ok (.iconst 2, 1) := by decide +kernel
theorem dX11_findHands_12 : decode cX11_findHands 12 = .ok (.if_icmp .ge 87, 3) := by decide +kernel
theorem dX11_findHands_15 : decode cX11_findHands 15 = .ok (.iconst 0, 1) := by decide +kernel
theorem dX11_findHands_16 : decode cX11_findHands 16 = .ok (.istore 4, 2) := by decide +kernel
theorem dX11_findHands_18 : decode cX11_findHands 18 = .ok (.iload 4, 2) := by decide +kernel
theorem dX11_findHands_20 : decode cX11_findHands 20 = .ok (.iconst 2, 1) := by decide +kernel
theorem dX11_findHands_21 : decode cX11_findHands 21 = .ok (.iconst 2, 1) := by decide +kernel
theorem dX11_findHands_22 : decode cX11_findHands 22 = .ok (.iload_n 2, 1) := by decide +kernel
theorem dX11_findHands_23 : decode cX11_findHands 23 = .ok (.imul, 1) := by decide +kernel
theorem dX11_findHands_24 : decode cX11_findHands 24 = .ok (.iadd, 1) := by decide +kernel
theorem dX11_findHands_25 : decode cX11_findHands 25 = .ok (.if_icmp .gt 68, 3) := by decide +kernel
theorem dX11_findHands_28 : decode cX11_findHands 28 = .ok (.iconst 0, 1) := by decide +kernel
theorem dX11_findHands_29 : decode cX11_findHands 29 = .ok (.istore 5, 2) := by decide +kernel
theorem dX11_findHands_31 : decode cX11_findHands 31 = .ok (.iload 5, 2) := by decide +kernel
theorem dX11_findHands_33 : decode cX11_findHands 33 = .ok (.iconst 5, 1) := by decide +kernel
theorem dX11_findHands_34 : decode cX11_findHands 34 = .ok (.if_icmp .ge 53, 3) := by decide +kernel
theorem dX11_findHands_37 : decode cX11_findHands 37 = .ok (.aload_n 0, 1) := by decide +kernel
theorem dX11_findHands_38 : decode cX11_findHands 38 = .ok (.iload_n 2, 1) := by decide +kernel
theorem dX11_findHands_39 : decode cX11_findHands 39 = .ok (.iload_n 3, 1) := by decide +kernel
theorem dX11_findHands_40 : decode cX11_findHands 40 = .ok (.iload 4, 2) := by decide +kernel
theorem dX11_findHands_42 : decode cX11_findHands 42 = .ok (.iload 5, 2) := by decide +kernel
theorem dX11_findHands_44 : decode cX11_findHands 44 = .ok (.iload_n 1, 1) := by decide +kernel
theorem dX11_findHands_45 : decode cX11_findHands 45 = .ok (.invokevirtual 129, 3) := by decide +kernel
theorem dX11_findHands_48 : decode cX11_findHands 48 = .ok (.iload_n 2, 1) := by decide +kernel
theorem dX11_findHands_49 : decode cX11_findHands 49 = .ok (.iload_n 3, 1) := by decide +kernel
theorem dX11_findHands_50 : decode cX11_findHands 50 = .ok (.iload 4, 2) := by decide +kernel
theorem dX11_findHands_52 : decode cX11_findHands 52 = .ok (.iload 5, 2) := by decide +kernel
theorem dX11_findHands_54 : decode cX11_findHands 54 = .ok (.invokestatic 118, 3) := by decide +kernel
theorem dX11_findHands_57 : decode cX11_findHands 57 = .ok (.istore 6, 2) := by decide +kernel
theorem dX11_findHands_59 : decode cX11_findHands 59 = .ok (.aload_n 0, 1) := by decide +kernel
theorem dX11_findHands_60 : decode cX11_findHands 60 = .ok (.getfield 25, 3) := by decide +kernel
theorem dX11_findHands_63 : decode cX11_findHands 63 = .ok (.iload 6, 2) := by decide +kernel
theorem dX11_findHands_65 : decode cX11_findHands 65 = .ok (.aload_n 0, 1) := by decide +kernel
theorem dX11_findHands_66 : decode cX11_findHands 66 = .ok (.getfield 133, 3) := by decide +kernel
theorem dX11_findHands_69 : decode cX11_findHands 69 = .ok (.iastore, 1) := by decide +kernel
theorem dX11_findHands_70 : decode cX11_findHands 70 = .ok (.aload_n 0, 1) := by decide +kernel
theorem dX11_findHands_71 : decode cX11_findHands 71 = .ok (.getfield 28, 3) := by decide +kernel
theorem dX11_findHands_74 : decode cX11_findHands 74 = .ok (.iload 6, 2) := by decide +kernel
theorem dX11_findHands_76 : decode cX11_findHands 76 = .ok (.aload_n 0, 1) := by decide +kernel
theorem dX11_findHands_77 : decode cX11_findHands 77 = .ok (.getfield 136, 3) := by decide +kernel
theorem dX11_findHands_80 : decode cX11_findHands 80 = .ok (.iastore, 1) := by decide +kernel
theorem dX11_findHands_81 : decode cX11_findHands 81 = .ok (.iinc 5 1, 3) := by decide +kernel
theorem dX11_findHands_84 : decode cX11_findHands 84 = .ok (.goto (-53), 3) := by decide +kernel
theorem dX11_findHands_87 : decode cX11_findHands 87 = .ok (.iinc 4 1, 3) := by decide +kernel
theorem dX11_findHands_90 : decode cX11_findHands 90 = .ok (.goto (-72), 3) := by decide +kernel
theorem dX11_findHands_93 : decode cX11_findHands 93 = .ok (.iinc 3 1, 3) := by decide +kernel
theorem dX11_findHands_96 : decode cX11_findHands 96 = .ok (.goto (-86), 3) := by decide +kernel
theorem dX11_findHands_99 : decode cX11_findHands 99 = .ok (.iinc 2 (-1), 3) := by decide +kernel
theorem dX11_findHands_102 : decode cX11_findHands 102 = .ok (.goto (-98), 3) := by decide +kernel
theorem dX11_findHands_105 : decode cX11_findHands 105 = .ok (.return_, 1) := by decide +kernel
set_option maxRecDepth 20000 in
theorem ggX11_both_X11_follows : GoodIn wsX11_both wsX11_follows := goodIn_r _ [10, 1, 4, 5, 11, 12, 13, 14, 15, 16, 17, 18, 19, 20, 9, 21, 22, 23, 24, 25, 26, 27, 28, 29, 30, 31, 32, 33, 34, 35, 36, 37, 38, 39, 40, 41, 42, 43, 44, 45, 46, 47, 48, 49, 50, 51, 52, 53, 54, 55, 56, 57, 58, 59, 60, 61, 62, 63, 64, 65, 66, 67, 68, 69, 70, 71, 72, 73, 74] (by decide +kernel) (by decide +kernel)
set_option maxRecDepth 20000 in
theorem gX11_both_X11_follows : GoodIn wsX11_both (wsV RX11 139 RX11 yX11_follows wsX11_follows) := goodIn_app (goodIn_of _ (by decide +kernel)) ggX11_both_X11_follows
theorem dX11_both_0 : decode cX11_both 0 = .ok (.aload_n 0, 1) := by decide +kernel
theorem dX11_both_1 : decode cX11_both 1 = .ok (.ldc 100, 2) := by decide +kernel
theorem dX11_both_3 : decode cX11_both 3 = .ok (.putfield 133, 3) := by decide +kernel
theorem dX11_both_6 : decode cX11_both 6 = .ok (.aload_n 0, 1) := by decide +kernel
theorem dX11_both_7 : decode cX11_both 7 = .ok (.iconst 0, 1) := by decide +kernel
theorem dX11_both_8 : decode cX11_both 8 = .ok (.putfield 136, 3) := by decide +kernel
theorem dX11_both_11 : decode cX11_both 11 = .ok (.iconst 0, 1) := by decide +kernel
theorem dX11_both_12 : decode cX11_both 12 = .ok (.istore 6, 2) := by decide +kernel
theorem dX11_both_14 : decode cX11_both 14 = .ok (.iload 6, 2) := by decide +kernel
theorem dX11_both_16 : decode cX11_both 16 = .ok (.iconst 2, 1) := by decide +kernel
theorem dX11_both_17 : decode cX11_both 17 = .ok (.if_icmp .ge 85, 3) := by decide +kernel
theorem dX11_both_20 : decode cX11_both 20 = .ok (.aload_n 0, 1) := by decide +kernel
theorem dX11_both_21 : decode cX11_both 21 = .ok (.iload_n 1, 1) := by decide +kernel
theorem dX11_both_22 : decode cX11_both 22 = .ok (.iload_n 2, 1) := by decide +kernel
theorem dX11_both_23 : decode cX11_both 23 = .ok (.iload_n 3, 1) := by decide +kernel
theorem dX11_both_24 : decode cX11_both 24 = .ok (.iload 4, 2) := by decide +kernel
theorem dX11_both_26 : decode cX11_both 26 = .ok (.iload 6, 2) := by decide +kernel
theorem dX11_both_28 : decode cX11_both 28 = .ok (.iload 5, 2) := by decide +kernel
theorem dX11_both_30 : decode cX11_both 30 = .ok (.invokevirtual 139, 3) := by decide +kernel
theorem dX11_both_33 : decode cX11_both 33 = .ok (.aload_n 0, 1) := by decide +kernel
theorem dX11_both_34 : decode cX11_both 34 = .ok (.getfield 101, 3) := by decide +kernel
theorem dX11_both_37 : decode cX11_both 37 = .ok (.aload_n 0, 1) := by decide +kernel
theorem dX11_both_38 : decode cX11_both 38 = .ok (.getfield 133, 3) := by decide +kernel
theorem dX11_both_41 : decode cX11_both 41 = .ok (.if_icmp .ge 22, 3) := by decide +kernel
theorem dX11_both_44 : decode cX11_both 44 = .ok (.aload_n 0, 1) := by decide +kernel
theorem dX11_both_45 : decode cX11_both 45 = .ok (.aload_n 0, 1) := by decide +kernel
theorem dX11_both_46 : decode cX11_both 46 = .ok (.getfield 101, 3) := by decide +kernel
theorem dX11_both_49 : decode cX11_both 49 = .ok (.putfield 133, 3) := by decide +kernel
theorem dX11_both_52 : decode cX11_both 52 = .ok (.aload_n 0, 1) := by decide +kernel
theorem dX11_both_53 : decode cX11_both 53 = .ok (.aload_n 0, 1) := by decide +kernel
theorem dX11_both_54 : decode cX11_both 54 = .ok (.getfield 104, 3) := by decide +kernel
theorem dX11_both_57 : decode cX11_both 57 = .ok (.putfield 136, 3) := by decide +kernel
theorem dX11_both_60 : decode cX11_both 60 = .ok (.goto 36, 3) := by decide +kernel
theorem dX11_both_63 : decode cX11_both 63 = .ok (.aload_n 0, 1) := by decide +kernel
theorem dX11_both_64 : decode cX11_both 64 = .ok (.getfield 101, 3) := by decide +kernel
theorem dX11_both_67 : decode cX11_both 67 = .ok (.aload_n 0, 1) := by decide +kernel
theorem dX11_both_68 : decode cX11_both 68 = .ok (.getfield 133, 3) := by decide +kernel
theorem dX11_both_71 : decode cX11_both 71 = .ok (.if_icmp .ne 25, 3) := by decide +kernel
theorem dX11_both_74 : decode cX11_both 74 = .ok (.aload_n 0, 1) := by decide +kernel
theorem dX11_both_75 : decode cX11_both 75 = .ok (.getfield 101, 3) := by decide +kernel
theorem dX11_both_78 : decode cX11_both 78 = .ok (.ldc 100, 2) := by decide +kernel
theorem dX11_both_80 : decode cX11_both 80 = .ok (.if_icmp .ge 16, 3) := by decide +kernel
theorem dX11_both_83 : decode cX11_both 83 = .ok (.aload_n 0, 1) := by decide +kernel
theorem dX11_both_84 : decode cX11_both 84 = .ok (.dup, 1) := by decide +kernel
theorem dX11_both_85 : decode cX11_both 85 = .ok (.getfield 136, 3) := by decide +kernel
theorem dX11_both_88 : decode cX11_both 88 = .ok (.aload_n 0, 1) := by decide +kernel
theorem dX11_both_89 : decode cX11_both 89 = .ok (.getfield 104, 3) := by decide +kernel
theorem dX11_both_92 : decode cX11_both 92 = .ok (.iadd, 1) := by decide +kernel
theorem dX11_both_93 : decode cX11_both 93 = .ok (.putfield 136, 3) := by decide +kernel
theorem dX11_both_96 : decode cX11_both 96 = .ok (.iinc 6 1, 3) := by decide +kernel
theorem dX11_both_99 : decode cX11_both 99 = .ok (.goto (-85), 3) := by decide +kernel
theorem dX11_both_102 : decode cX11_both 102 = .ok (.return_, 1) := by decide +kernel
set_option maxRecDepth 20000 in
theorem ggX11_costUpTo_X11_findHands : GoodIn wsX11_costUpTo wsX11_findHands := goodIn_r _ [7, 8, 2, 9, 1, 10, 11, 12, 6, 13, 14, 15, 16, 17, 18, 19, 20, 21, 22, 23, 24, 25, 26, 27, 28, 29, 30, 31, 32, 33, 34, 35, 36, 37, 38, 39, 40, 41, 42, 43, 44, 45, 46, 47, 48, 49, 50, 51, 52, 53, 54, 55, 56, 57, 58, 59, 60, 61, 62, 63, 64, 65, 66, 67, 68, 69, 70, 71, 72, 73, 74, 75, 76, 77, 78, 79, 80, 81, 82] (by decide +kernel) (by decide +kernel)
set_option maxRecDepth 20000 in
theorem gX11_costUpTo_X11_findHands : GoodIn wsX11_costUpTo (wsV RX11 143 RX11 yX11_findHands wsX11_findHands) := goodIn_app (goodIn_of _ (by decide +kernel)) ggX11_costUpTo_X11_findHands
set_option maxRecDepth 20000 in
theorem ggX11_costUpTo_X11_both : GoodIn wsX11_costUpTo wsX11_both := goodIn_r _ [13, 14, 2, 1, 15, 16, 17, 18, 19, 6, 20, 21, 8, 22, 23, 24, 25, 9, 26, 27, 28, 29, 30, 31, 32, 33, 34, 35, 36, 37, 38, 39, 40, 41, 42, 43, 44, 45, 46, 47, 48, 49, 50, 51, 52, 53, 54, 55, 56, 57, 58, 59, 60, 61, 62, 63, 64, 65, 66, 67, 68, 69, 70, 71, 72, 73, 74, 75, 76, 77, 78, 79, 80, 81, 82] (by decide +kernel) (by decide +kernel)
set_option maxRecDepth 20000 in
theorem gX11_costUpTo_X11_both : GoodIn wsX11_costUpTo (wsV RX11 129 RX11 yX11_both wsX11_both) := goodIn_app (goodIn_of _ (by decide +kernel)) ggX11_costUpTo_X11_both
theorem dX11_costUpTo_0 : decode cX11_costUpTo 0 = .ok (.iload_n 1, 1) := by decide +kernel
theorem dX11_costUpTo_1 : decode cX11_costUpTo 1 = .ok (.ifCond .ge 10, 3) := by decide +kernel
theorem dX11_costUpTo_4 : decode cX11_costUpTo 4 = .ok (.aload_n 0, 1) := by decide +kernel
theorem dX11_costUpTo_5 : decode cX11_costUpTo 5 = .ok (.iconst 1, 1) := by decide +kernel
theorem dX11_costUpTo_6 : decode cX11_costUpTo 6 = .ok (.putfield 136, 3) := by decide +kernel
theorem dX11_costUpTo_9 : decode cX11_costUpTo 9 = .ok (.iconst 0, 1) := by decide +kernel
theorem dX11_costUpTo_10 : decode cX11_costUpTo 10 = .ok (.ireturn, 1) := by decide +kernel
theorem dX11_costUpTo_11 : decode cX11_costUpTo 11 = .ok (.aload_n 0, 1) := by decide +kernel
theorem dX11_costUpTo_12 : decode cX11_costUpTo 12 = .ok (.iload_n 1, 1) := by decide +kernel
theorem dX11_costUpTo_13 : decode cX11_costUpTo 13 = .ok (.invokevirtual 143, 3) := by decide +kernel
theorem dX11_costUpTo_16 : decode cX11_costUpTo 16 = .ok (.aload_n 0, 1) := by decide +kernel
theorem dX11_costUpTo_17 : decode cX11_costUpTo 17 = .ok (.iconst (-1), 1) := by decide +kernel
theorem dX11_costUpTo_18 : decode cX11_costUpTo 18 = .ok (.iconst (-1), 1) := by decide +kernel
theorem dX11_costUpTo_19 : decode cX11_costUpTo 19 = .ok (.iconst 0, 1) := by decide +kernel
theorem dX11_costUpTo_20 : decode cX11_costUpTo 20 = .ok (.iconst 0, 1) := by decide +kernel
theorem dX11_costUpTo_21 : decode cX11_costUpTo 21 = .ok (.iload_n 1, 1) := by decide +kernel
theorem dX11_costUpTo_22 : decode cX11_costUpTo 22 = .ok (.invokevirtual 129, 3) := by decide +kernel
theorem dX11_costUpTo_25 : decode cX11_costUpTo 25 = .ok (.aload_n 0, 1) := by decide +kernel
theorem dX11_costUpTo_26 : decode cX11_costUpTo 26 = .ok (.getfield 133, 3) := by decide +kernel
theorem dX11_costUpTo_29 : decode cX11_costUpTo 29 = .ok (.ireturn, 1) := by decide +kernel
set_option maxRecDepth 20000 in
theorem ggX11_findThem_X11_costUpTo : GoodIn wsX11_findThem wsX11_costUpTo := goodIn_r _ [12, 13, 3, 14, 15, 16, 11, 17, 18, 19, 20, 21, 22, 23, 2, 4, 24, 25, 26, 27, 28, 1, 29, 30, 31, 32, 33, 34, 35, 36, 37, 38, 39, 40, 41, 42, 43, 44, 45, 46, 47, 48, 49, 50, 51, 52, 53, 54, 55, 56, 57, 58, 59, 60, 61, 62, 63, 64, 65, 66, 67, 68, 69, 70, 71, 72, 73, 74, 75, 76, 77, 78, 79, 80, 81, 82, 83, 84, 85, 86, 87, 88, 89] (by decide +kernel) (by decide +kernel)
set_option maxRecDepth 20000 in
theorem gX11_findThem_X11_costUpTo : GoodIn wsX11_findThem (wsV RX11 147 RX11 yX11_costUpTo wsX11_costUpTo) := goodIn_app (goodIn_of _ (by decide +kernel)) ggX11_findThem_X11_costUpTo
set_option maxRecDepth 20000 in
theorem ggX11_findThem_X11_both : GoodIn wsX11_findThem wsX11_both := goodIn_r _ [23, 2, 3, 13, 4, 24, 25, 26, 27, 11, 28, 1, 18, 29, 30, 31, 32, 19, 33, 34, 35, 36, 37, 38, 39, 40, 41, 42, 43, 44, 45, 46, 47, 48, 49, 50, 51, 52, 53, 54, 55, 56, 57, 58, 59, 60, 61, 62, 63, 64, 65, 66, 67, 68, 69, 70, 71, 72, 73, 74, 75, 76, 77, 78, 79, 80, 81, 82, 83, 84, 85, 86, 87, 88, 89] (by decide +kernel) (by decide +kernel)
set_option maxRecDepth 20000 in
theorem gX11_findThem_X11_both : GoodIn wsX11_findThem (wsV RX11 129 RX11 yX11_both wsX11_both) := goodIn_app (goodIn_of _ (by decide +kernel)) ggX11_findThem_X11_both
set_option maxRecDepth 20000 in
theorem ggX11_findThem_X11_follows : GoodIn wsX11_findThem wsX11_follows := goodIn_r _ [28, 2, 4, 24, 1, 18, 29, 30, 31, 32, 19, 33, 34, 35, 11, 36, 37, 38, 39, 40, 41, 42, 43, 44, 45, 46, 47, 48, 49, 50, 51, 52, 53, 54, 55, 56, 57, 58, 59, 60, 61, 62, 63, 64, 65, 66, 67, 68, 69, 70, 71, 72, 73, 74, 75, 76, 77, 78, 79, 80, 81, 82, 83, 84, 85, 86, 87, 88, 89] (by decide +kernel) (by decide +kernel)
set_option maxRecDepth 20000 in
theorem gX11_findThem_X11_follows : GoodIn wsX11_findThem (wsV RX11 139 RX11 yX11_follows wsX11_follows) := goodIn_app (goodIn_of _ (by decide +kernel)) ggX11_findThem_X11_follows
set_option maxRecDepth 20000 in
theorem ggX11_findThem_X11_otherThen : GoodIn wsX11_findThem wsX11_otherThen := goodIn_r _ [59, 37, 38, 39, 11, 40, 1, 71, 72, 73, 74, 75, 76, 77, 78, 79, 80, 81, 82, 83, 84, 85, 86, 87, 88, 89] (by decide +kernel) (by decide +kernel)
set_option maxRecDepth 20000 in
theorem gX11_findThem_X11_otherThen : GoodIn wsX11_findThem (wsV RX11 111 RX11 yX11_otherThen wsX11_otherThen) := goodIn_app (goodIn_of _ (by decide +kernel)) ggX11_findThem_X11_otherThen
set_option maxRecDepth 20000 in
theorem ggX11_findThem_X11_isCrossed : GoodIn wsX11_findThem wsX11_isCrossed := goodIn_r _ [63, 1, 71, 72, 73, 74, 75, 76, 77, 78, 79, 80, 81, 82, 83, 84, 85, 86, 87, 88, 89] (by decide +kernel) (by decide +kernel)
set_option maxRecDepth 20000 in
theorem gX11_findThem_X11_isCrossed : GoodIn wsX11_findThem (wsV RX11 115 RX11 yX11_isCrossed wsX11_isCrossed) := goodIn_app (goodIn_of _ (by decide +kernel)) ggX11_findThem_X11_isCrossed
theorem dX11_findThem_0 : decode cX11_findThem 0 = .ok (.aload_n 0, 1) := by decide +kernel
theorem dX11_findThem_1 : decode cX11_findThem 1 = .ok (.getfield 9, 3) := by decide +kernel
theorem dX11_findThem_4 : decode cX11_findThem 4 = .ok (.iconst 0, 1) := by decide +kernel
theorem dX11_findThem_5 : decode cX11_findThem 5 = .ok (.iaload, 1) := by decide +kernel
theorem dX11_findThem_6 : decode cX11_findThem 6 = .ok (.iconst 1, 1) := by decide +kernel
theorem dX11_findThem_7 : decode cX11_findThem 7 = .ok (.isub, 1) := by decide +kernel
theorem dX11_findThem_8 : decode cX11_findThem 8 = .ok (.istore_n 1, 1) := by decide +kernel
theorem dX11_findThem_9 : decode cX11_findThem 9 = .ok (.aload_n 0, 1) := by decide +kernel
theorem dX11_findThem_10 : decode cX11_findThem 10 = .ok (.iload_n 1, 1) := by decide +kernel
theorem dX11_findThem_11 : decode cX11_findThem 11 = .ok (.invokevirtual 147, 3) := by decide +kernel
theorem dX11_findThem_14 : decode cX11_findThem 14 = .ok (.ldc 100, 2) := by decide +kernel
theorem dX11_findThem_16 : decode cX11_findThem 16 = .ok (.if_icmp .lt 5, 3) := by decide +kernel
theorem dX11_findThem_19 : decode cX11_findThem 19 = .ok (.iconst 0, 1) := by decide +kernel
theorem dX11_findThem_20 : decode cX11_findThem 20 = .ok (.ireturn, 1) := by decide +kernel
theorem dX11_findThem_21 : decode cX11_findThem 21 = .ok (.iconst (-1), 1) := by decide +kernel
theorem dX11_findThem_22 : decode cX11_findThem 22 = .ok (.istore_n 2, 1) := by decide +kernel
theorem dX11_findThem_23 : decode cX11_findThem 23 = .ok (.iconst 0, 1) := by decide +kernel
theorem dX11_findThem_24 : decode cX11_findThem 24 = .ok (.istore_n 3, 1) := by decide +kernel
theorem dX11_findThem_25 : decode cX11_findThem 25 = .ok (.iconst 0, 1) := by decide +kernel
theorem dX11_findThem_26 : decode cX11_findThem 26 = .ok (.istore 4, 2) := by decide +kernel
theorem dX11_findThem_28 : decode cX11_findThem 28 = .ok (.iconst 0, 1) := by decide +kernel
theorem dX11_findThem_29 : decode cX11_findThem 29 = .ok (.istore 5, 2) := by decide +kernel
theorem dX11_findThem_31 : decode cX11_findThem 31 = .ok (.iload 5, 2) := by decide +kernel
theorem dX11_findThem_33 : decode cX11_findThem 33 = .ok (.iload_n 1, 1) := by decide +kernel
theorem dX11_findThem_34 : decode cX11_findThem 34 = .ok (.if_icmp .gt 175, 3) := by decide +kernel
theorem dX11_findThem_37 : decode cX11_findThem 37 = .ok (.aload_n 0, 1) := by decide +kernel
theorem dX11_findThem_38 : decode cX11_findThem 38 = .ok (.iload 5, 2) := by decide +kernel
theorem dX11_findThem_40 : decode cX11_findThem 40 = .ok (.iconst 1, 1) := by decide +kernel
theorem dX11_findThem_41 : decode cX11_findThem 41 = .ok (.isub, 1) := by decide +kernel
theorem dX11_findThem_42 : decode cX11_findThem 42 = .ok (.iload_n 2, 1) := by decide +kernel
theorem dX11_findThem_43 : decode cX11_findThem 43 = .ok (.iload_n 3, 1) := by decide +kernel
theorem dX11_findThem_44 : decode cX11_findThem 44 = .ok (.iload 4, 2) := by decide +kernel
theorem dX11_findThem_46 : decode cX11_findThem 46 = .ok (.iload_n 1, 1) := by decide +kernel
theorem dX11_findThem_47 : decode cX11_findThem 47 = .ok (.invokevirtual 129, 3) := by decide +kernel
theorem dX11_findThem_50 : decode cX11_findThem 50 = .ok (.aload_n 0, 1) := by decide +kernel
theorem dX11_findThem_51 : decode cX11_findThem 51 = .ok (.getfield 133, 3) := by decide +kernel
theorem dX11_findThem_54 : decode cX11_findThem 54 = .ok (.istore 6, 2) := by decide +kernel
theorem dX11_findThem_56 : decode cX11_findThem 56 = .ok (.aload_n 0, 1) := by decide +kernel
theorem dX11_findThem_57 : decode cX11_findThem 57 = .ok (.iload 5, 2) := by decide +kernel
theorem dX11_findThem_59 : decode cX11_findThem 59 = .ok (.iconst 1, 1) := by decide +kernel
theorem dX11_findThem_60 : decode cX11_findThem 60 = .ok (.isub, 1) := by decide +kernel
theorem dX11_findThem_61 : decode cX11_findThem 61 = .ok (.iload_n 2, 1) := by decide +kernel
theorem dX11_findThem_62 : decode cX11_findThem 62 = .ok (.iload_n 3, 1) := by decide +kernel
theorem dX11_findThem_63 : decode cX11_findThem 63 = .ok (.iload 4, 2) := by decide +kernel
theorem dX11_findThem_65 : decode cX11_findThem 65 = .ok (.iconst 0, 1) := by decide +kernel
theorem dX11_findThem_66 : decode cX11_findThem 66 = .ok (.iload_n 1, 1) := by decide +kernel
theorem dX11_findThem_67 : decode cX11_findThem 67 = .ok (.invokevirtual 139, 3) := by decide +kernel
theorem dX11_findThem_70 : decode cX11_findThem 70 = .ok (.aload_n 0, 1) := by decide +kernel
theorem dX11_findThem_71 : decode cX11_findThem 71 = .ok (.getfield 101, 3) := by decide +kernel
theorem dX11_findThem_74 : decode cX11_findThem 74 = .ok (.iload 6, 2) := by decide +kernel
theorem dX11_findThem_76 : decode cX11_findThem 76 = .ok (.if_icmp .ne 7, 3) := by decide +kernel
theorem dX11_findThem_79 : decode cX11_findThem 79 = .ok (.iconst 0, 1) := by decide +kernel
theorem dX11_findThem_80 : decode cX11_findThem 80 = .ok (.goto 4, 3) := by decide +kernel
theorem dX11_findThem_83 : decode cX11_findThem 83 = .ok (.iconst 1, 1) := by decide +kernel
theorem dX11_findThem_84 : decode cX11_findThem 84 = .ok (.istore 7, 2) := by decide +kernel
theorem dX11_findThem_86 : decode cX11_findThem 86 = .ok (.iload 5, 2) := by decide +kernel
theorem dX11_findThem_88 : decode cX11_findThem 88 = .ok (.ifCond .ne 7, 3) := by decide +kernel
theorem dX11_findThem_91 : decode cX11_findThem 91 = .ok (.iconst 0, 1) := by decide +kernel
theorem dX11_findThem_92 : decode cX11_findThem 92 = .ok (.goto 9, 3) := by decide +kernel
theorem dX11_findThem_95 : decode cX11_findThem 95 = .ok (.iconst 2, 1) := by decide +kernel
theorem dX11_findThem_96 : decode cX11_findThem 96 = .ok (.iload 5, 2) := by decide +kernel
theorem dX11_findThem_98 : decode cX11_findThem 98 = .ok (.imul, 1) := by decide +kernel
theorem dX11_findThem_99 : decode cX11_findThem 99 = .ok (.iconst 1, 1) := by decide +kernel
theorem dX11_findThem_100 : decode cX11_findThem 100 = .ok (.isub, 1) := by decide +kernel
theorem dX11_findThem_101 : decode cX11_findThem 101 = .ok (.istore 8, 2) := by decide +kernel
theorem dX11_findThem_103 : decode cX11_findThem 103 = .ok (.aload_n 0, 1) := by decide +kernel
theorem dX11_findThem_104 : decode cX11_findThem 104 = .ok (.iload 5, 2) := by decide +kernel
theorem dX11_findThem_106 : decode cX11_findThem 106 = .ok (.iload 7, 2) := by decide +kernel
theorem dX11_findThem_108 : decode cX11_findThem 108 = .ok (.iload_n 2, 1) := by decide +kernel
theorem dX11_findThem_109 : decode cX11_findThem 109 = .ok (.if_icmp .ne 7, 3) := by decide +kernel
theorem dX11_findThem_112 : decode cX11_findThem 112 = .ok (.iload_n 3, 1) := by decide +kernel
theorem dX11_findThem_113 : decode cX11_findThem 113 = .ok (.goto 5, 3) := by decide +kernel
theorem dX11_findThem_116 : decode cX11_findThem 116 = .ok (.iload 8, 2) := by decide +kernel
theorem dX11_findThem_118 : decode cX11_findThem 118 = .ok (.invokevirtual 111, 3) := by decide +kernel
theorem dX11_findThem_121 : decode cX11_findThem 121 = .ok (.istore_n 3, 1) := by decide +kernel
theorem dX11_findThem_122 : decode cX11_findThem 122 = .ok (.iload 7, 2) := by decide +kernel
theorem dX11_findThem_124 : decode cX11_findThem 124 = .ok (.istore_n 2, 1) := by decide +kernel
theorem dX11_findThem_125 : decode cX11_findThem 125 = .ok (.aload_n 0, 1) := by decide +kernel
theorem dX11_findThem_126 : decode cX11_findThem 126 = .ok (.getfield 31, 3) := by decide +kernel
theorem dX11_findThem_129 : decode cX11_findThem 129 = .ok (.iload 5, 2) := by decide +kernel
theorem dX11_findThem_131 : decode cX11_findThem 131 = .ok (.iload 7, 2) := by decide +kernel
theorem dX11_findThem_133 : decode cX11_findThem 133 = .ok (.iastore, 1) := by decide +kernel
theorem dX11_findThem_134 : decode cX11_findThem 134 = .ok (.aload_n 0, 1) := by decide +kernel
theorem dX11_findThem_135 : decode cX11_findThem 135 = .ok (.getfield 34, 3) := by decide +kernel
theorem dX11_findThem_138 : decode cX11_findThem 138 = .ok (.iload 5, 2) := by decide +kernel
theorem dX11_findThem_140 : decode cX11_findThem 140 = .ok (.aload_n 0, 1) := by decide +kernel
theorem dX11_findThem_141 : decode cX11_findThem 141 = .ok (.iload 5, 2) := by decide +kernel
theorem dX11_findThem_143 : decode cX11_findThem 143 = .ok (.iload 7, 2) := by decide +kernel
theorem dX11_findThem_145 : decode cX11_findThem 145 = .ok (.iload_n 3, 1) := by decide +kernel
theorem dX11_findThem_146 : decode cX11_findThem 146 = .ok (.invokevirtual 115, 3) := by decide +kernel
theorem dX11_findThem_149 : decode cX11_findThem 149 = .ok (.bastore, 1) := by decide +kernel
theorem dX11_findThem_150 : decode cX11_findThem 150 = .ok (.iload 4, 2) := by decide +kernel
theorem dX11_findThem_152 : decode cX11_findThem 152 = .ok (.aload_n 0, 1) := by decide +kernel
theorem dX11_findThem_153 : decode cX11_findThem 153 = .ok (.getfield 34, 3) := by decide +kernel
theorem dX11_findThem_156 : decode cX11_findThem 156 = .ok (.iload 5, 2) := by decide +kernel
theorem dX11_findThem_158 : decode cX11_findThem 158 = .ok (.baload, 1) := by decide +kernel
theorem dX11_findThem_159 : decode cX11_findThem 159 = .ok (.ifCond .eq 7, 3) := by decide +kernel
theorem dX11_findThem_162 : decode cX11_findThem 162 = .ok (.iconst 1, 1) := by decide +kernel
theorem dX11_findThem_163 : decode cX11_findThem 163 = .ok (.goto 4, 3) := by decide +kernel
theorem dX11_findThem_166 : decode cX11_findThem 166 = .ok (.iconst 0, 1) := by decide +kernel
theorem dX11_findThem_167 : decode cX11_findThem 167 = .ok (.iadd, 1) := by decide +kernel
theorem dX11_findThem_168 : decode cX11_findThem 168 = .ok (.istore 4, 2) := by decide +kernel
theorem dX11_findThem_170 : decode cX11_findThem 170 = .ok (.aload_n 0, 1) := by decide +kernel
theorem dX11_findThem_171 : decode cX11_findThem 171 = .ok (.getfield 38, 3) := by decide +kernel
theorem dX11_findThem_174 : decode cX11_findThem 174 = .ok (.iconst 2, 1) := by decide +kernel
theorem dX11_findThem_175 : decode cX11_findThem 175 = .ok (.iload 5, 2) := by decide +kernel
theorem dX11_findThem_177 : decode cX11_findThem 177 = .ok (.imul, 1) := by decide +kernel
theorem dX11_findThem_178 : decode cX11_findThem 178 = .ok (.iload 7, 2) := by decide +kernel
theorem dX11_findThem_180 : decode cX11_findThem 180 = .ok (.iadd, 1) := by decide +kernel
theorem dX11_findThem_181 : decode cX11_findThem 181 = .ok (.iconst 1, 1) := by decide +kernel
theorem dX11_findThem_182 : decode cX11_findThem 182 = .ok (.iconst 2, 1) := by decide +kernel
theorem dX11_findThem_183 : decode cX11_findThem 183 = .ok (.iload 5, 2) := by decide +kernel
theorem dX11_findThem_185 : decode cX11_findThem 185 = .ok (.imul, 1) := by decide +kernel
theorem dX11_findThem_186 : decode cX11_findThem 186 = .ok (.iadd, 1) := by decide +kernel
theorem dX11_findThem_187 : decode cX11_findThem 187 = .ok (.iastore, 1) := by decide +kernel
theorem dX11_findThem_188 : decode cX11_findThem 188 = .ok (.aload_n 0, 1) := by decide +kernel
theorem dX11_findThem_189 : decode cX11_findThem 189 = .ok (.getfield 38, 3) := by decide +kernel
theorem dX11_findThem_192 : decode cX11_findThem 192 = .ok (.iconst 2, 1) := by decide +kernel
theorem dX11_findThem_193 : decode cX11_findThem 193 = .ok (.iload 5, 2) := by decide +kernel
theorem dX11_findThem_195 : decode cX11_findThem 195 = .ok (.imul, 1) := by decide +kernel
theorem dX11_findThem_196 : decode cX11_findThem 196 = .ok (.iconst 1, 1) := by decide +kernel
theorem dX11_findThem_197 : decode cX11_findThem 197 = .ok (.iadd, 1) := by decide +kernel
theorem dX11_findThem_198 : decode cX11_findThem 198 = .ok (.iload 7, 2) := by decide +kernel
theorem dX11_findThem_200 : decode cX11_findThem 200 = .ok (.isub, 1) := by decide +kernel
theorem dX11_findThem_201 : decode cX11_findThem 201 = .ok (.iload_n 3, 1) := by decide +kernel
theorem dX11_findThem_202 : decode cX11_findThem 202 = .ok (.iastore, 1) := by decide +kernel
theorem dX11_findThem_203 : decode cX11_findThem 203 = .ok (.iinc 5 1, 3) := by decide +kernel
theorem dX11_findThem_206 : decode cX11_findThem 206 = .ok (.goto (-175), 3) := by decide +kernel
theorem dX11_findThem_209 : decode cX11_findThem 209 = .ok (.iconst 1, 1) := by decide +kernel
theorem dX11_findThem_210 : decode cX11_findThem 210 = .ok (.ireturn, 1) := by decide +kernel
set_option maxRecDepth 20000 in
theorem ggX11_awkward_X11_costUpTo : GoodIn wsX11_awkward wsX11_costUpTo := goodIn_r _ [8, 9, 10, 11, 12, 13, 7, 14, 15, 16, 17, 18, 19, 20, 2, 21, 22, 23, 24, 25, 26, 1, 27, 28, 29, 30, 31, 32, 33, 34, 35, 36, 37, 38, 39, 40, 41, 42, 43, 44, 45, 46, 47, 48, 49, 50, 51, 52, 53, 54, 55, 56, 57, 58, 59, 60, 61, 62, 63, 64, 65, 66, 67, 68, 74, 75, 76, 77, 78, 79, 80, 81, 82, 83, 84, 85, 86, 87, 88, 89, 90, 91, 92] (by decide +kernel) (by decide +kernel)
set_option maxRecDepth 20000 in
theorem gX11_awkward_X11_costUpTo : GoodIn wsX11_awkward (wsV RX11 147 RX11 yX11_costUpTo wsX11_costUpTo) := goodIn_app (goodIn_of _ (by decide +kernel)) ggX11_awkward_X11_costUpTo
set_option maxRecDepth 20000 in
theorem ggX11_awkward_X11_finding : GoodIn wsX11_awkward wsX11_finding := goodIn_r _ [72, 73, 74, 75, 76, 77, 78, 79, 80, 81, 82, 83, 84, 85, 86, 87, 88, 89, 90, 91, 92] (by decide +kernel) (by decide +kernel)
set_option maxRecDepth 20000 in
theorem gX11_awkward_X11_finding : GoodIn wsX11_awkward (wsV RX11 62 RX11 yX11_finding wsX11_finding) := goodIn_app (goodIn_of _ (by decide +kernel)) ggX11_awkward_X11_finding
theorem dX11_awkward_0 : decode cX11_awkward 0 = .ok (.aload_n 0, 1) := by decide +kernel
theorem dX11_awkward_1 : decode cX11_awkward 1 = .ok (.aload_n 0, 1) := by decide +kernel
theorem dX11_awkward_2 : decode cX11_awkward 2 = .ok (.getfield 9, 3) := by decide +kernel
theorem dX11_awkward_5 : decode cX11_awkward 5 = .ok (.iconst 0, 1) := by decide +kernel
theorem dX11_awkward_6 : decode cX11_awkward 6 = .ok (.iaload, 1) := by decide +kernel
theorem dX11_awkward_7 : decode cX11_awkward 7 = .ok (.iconst 1, 1) := by decide +kernel
theorem dX11_awkward_8 : decode cX11_awkward 8 = .ok (.isub, 1) := by decide +kernel
theorem dX11_awkward_9 : decode cX11_awkward 9 = .ok (.invokevirtual 147, 3) := by decide +kernel
theorem dX11_awkward_12 : decode cX11_awkward 12 = .ok (.istore_n 1, 1) := by decide +kernel
theorem dX11_awkward_13 : decode cX11_awkward 13 = .ok (.iload_n 1, 1) := by decide +kernel
theorem dX11_awkward_14 : decode cX11_awkward 14 = .ok (.ldc 100, 2) := by decide +kernel
theorem dX11_awkward_16 : decode cX11_awkward 16 = .ok (.if_icmp .lt 12, 3) := by decide +kernel
theorem dX11_awkward_19 : decode cX11_awkward 19 = .ok (.aload_n 0, 1) := by decide +kernel
theorem dX11_awkward_20 : decode cX11_awkward 20 = .ok (.ldc 61, 2) := by decide +kernel
theorem dX11_awkward_22 : decode cX11_awkward 22 = .ok (.invokevirtual 62, 3) := by decide +kernel
theorem dX11_awkward_25 : decode cX11_awkward 25 = .ok (.goto 4, 3) := by decide +kernel
theorem dX11_awkward_28 : decode cX11_awkward 28 = .ok (.iload_n 1, 1) := by decide +kernel
theorem dX11_awkward_29 : decode cX11_awkward 29 = .ok (.ireturn, 1) := by decide +kernel
set_option maxRecDepth 20000 in
theorem ggX11_hand_X11_isNote : GoodIn wsX11_hand wsX11_isNote := goodIn_r _ [8, 9, 10, 11, 7, 12, 89, 90, 91, 92, 93, 94, 95, 96, 97, 98, 99, 100, 101, 102, 103, 104, 105, 106, 107] (by decide +kernel) (by decide +kernel)
set_option maxRecDepth 20000 in
theorem gX11_hand_X11_isNote : GoodIn wsX11_hand (wsV RX11 76 RX11 yX11_isNote wsX11_isNote) := goodIn_app (goodIn_of _ (by decide +kernel)) ggX11_hand_X11_isNote
set_option maxRecDepth 20000 in
theorem ggX11_hand_X11_finding : GoodIn wsX11_hand wsX11_finding := goodIn_r _ [16, 17, 89, 90, 91, 92, 93, 94, 95, 96, 97, 98, 99, 100, 101, 102, 103, 104, 105, 106, 107] (by decide +kernel) (by decide +kernel)
set_option maxRecDepth 20000 in
theorem gX11_hand_X11_finding : GoodIn wsX11_hand (wsV RX11 62 RX11 yX11_finding wsX11_finding) := goodIn_app (goodIn_of _ (by decide +kernel)) ggX11_hand_X11_finding
set_option maxRecDepth 20000 in
theorem ggX11_hand_X11_findThem : GoodIn wsX11_hand wsX11_findThem := goodIn_r _ [21, 9, 22, 23, 24, 2, 25, 26, 27, 28, 29, 7, 30, 31, 32, 33, 34, 35, 36, 37, 38, 39, 40, 41, 42, 43, 44, 45, 46, 47, 48, 49, 50, 51, 52, 53, 54, 55, 56, 57, 58, 59, 60, 61, 62, 63, 64, 65, 66, 67, 68, 69, 70, 71, 72, 73, 74, 75, 76, 77, 78, 79, 80, 81, 82, 83, 84, 85, 86, 87, 88, 89, 90, 91, 92, 93, 94, 95, 96, 97, 98, 99, 100, 101, 102, 103, 104, 105, 106, 107] (by decide +kernel) (by decide +kernel)
set_option maxRecDepth 20000 in
theorem gX11_hand_X11_findThem : GoodIn wsX11_hand (wsV RX11 150 RX11 yX11_findThem wsX11_findThem) := goodIn_app (goodIn_of _ (by decide +kernel)) ggX11_hand_X11_findThem
theorem dX11_hand_0 : decode cX11_hand 0 = .ok (.aload_n 0, 1) := by decide +kernel
theorem dX11_hand_1 : decode cX11_hand 1 = .ok (.iload_n 1, 1) := by decide +kernel
theorem dX11_hand_2 : decode cX11_hand 2 = .ok (.invokevirtual 76, 3) := by decide +kernel
theorem dX11_hand_5 : decode cX11_hand 5 = .ok (.ifCond .ne 10, 3) := by decide +kernel
theorem dX11_hand_8 : decode cX11_hand 8 = .ok (.aload_n 0, 1) := by decide +kernel
theorem dX11_hand_9 : decode cX11_hand 9 = .ok (.ldc 70, 2) := by decide +kernel
theorem dX11_hand_11 : decode cX11_hand 11 = .ok (.invokevirtual 62, 3) := by decide +kernel
theorem dX11_hand_14 : decode cX11_hand 14 = .ok (.ireturn, 1) := by decide +kernel
theorem dX11_hand_15 : decode cX11_hand 15 = .ok (.aload_n 0, 1) := by decide +kernel
theorem dX11_hand_16 : decode cX11_hand 16 = .ok (.invokevirtual 150, 3) := by decide +kernel
theorem dX11_hand_19 : decode cX11_hand 19 = .ok (.ifCond .eq 12, 3) := by decide +kernel
theorem dX11_hand_22 : decode cX11_hand 22 = .ok (.aload_n 0, 1) := by decide +kernel
theorem dX11_hand_23 : decode cX11_hand 23 = .ok (.getfield 31, 3) := by decide +kernel
theorem dX11_hand_26 : decode cX11_hand 26 = .ok (.iload_n 1, 1) := by decide +kernel
theorem dX11_hand_27 : decode cX11_hand 27 = .ok (.iaload, 1) := by decide +kernel
theorem dX11_hand_28 : decode cX11_hand 28 = .ok (.goto 9, 3) := by decide +kernel
theorem dX11_hand_31 : decode cX11_hand 31 = .ok (.aload_n 0, 1) := by decide +kernel
theorem dX11_hand_32 : decode cX11_hand 32 = .ok (.ldc 61, 2) := by decide +kernel
theorem dX11_hand_34 : decode cX11_hand 34 = .ok (.invokevirtual 62, 3) := by decide +kernel
theorem dX11_hand_37 : decode cX11_hand 37 = .ok (.ireturn, 1) := by decide +kernel
set_option maxRecDepth 20000 in
theorem ggX11_crossed_X11_isNote : GoodIn wsX11_crossed wsX11_isNote := goodIn_r _ [8, 9, 10, 11, 7, 12, 89, 90, 91, 92, 93, 94, 95, 96, 97, 98, 99, 100, 101, 102, 103, 104, 105, 106, 107] (by decide +kernel) (by decide +kernel)
set_option maxRecDepth 20000 in
theorem gX11_crossed_X11_isNote : GoodIn wsX11_crossed (wsV RX11 76 RX11 yX11_isNote wsX11_isNote) := goodIn_app (goodIn_of _ (by decide +kernel)) ggX11_crossed_X11_isNote
set_option maxRecDepth 20000 in
theorem ggX11_crossed_X11_finding : GoodIn wsX11_crossed wsX11_finding := goodIn_r _ [16, 17, 89, 90, 91, 92, 93, 94, 95, 96, 97, 98, 99, 100, 101, 102, 103, 104, 105, 106, 107] (by decide +kernel) (by decide +kernel)
set_option maxRecDepth 20000 in
theorem gX11_crossed_X11_finding : GoodIn wsX11_crossed (wsV RX11 62 RX11 yX11_finding wsX11_finding) := goodIn_app (goodIn_of _ (by decide +kernel)) ggX11_crossed_X11_finding
set_option maxRecDepth 20000 in
theorem ggX11_crossed_X11_findThem : GoodIn wsX11_crossed wsX11_findThem := goodIn_r _ [21, 9, 22, 23, 24, 25, 3, 26, 27, 28, 29, 7, 30, 31, 32, 33, 34, 35, 36, 37, 38, 39, 40, 41, 42, 43, 44, 45, 46, 47, 48, 49, 50, 51, 52, 53, 54, 55, 56, 57, 58, 59, 60, 61, 62, 63, 64, 65, 66, 67, 68, 69, 70, 71, 72, 73, 74, 75, 76, 77, 78, 79, 80, 81, 82, 83, 84, 85, 86, 87, 88, 89, 90, 91, 92, 93, 94, 95, 96, 97, 98, 99, 100, 101, 102, 103, 104, 105, 106, 107] (by decide +kernel) (by decide +kernel)
set_option maxRecDepth 20000 in
theorem gX11_crossed_X11_findThem : GoodIn wsX11_crossed (wsV RX11 150 RX11 yX11_findThem wsX11_findThem) := goodIn_app (goodIn_of _ (by decide +kernel)) ggX11_crossed_X11_findThem
theorem dX11_crossed_0 : decode cX11_crossed 0 = .ok (.aload_n 0, 1) := by decide +kernel
theorem dX11_crossed_1 : decode cX11_crossed 1 = .ok (.iload_n 1, 1) := by decide +kernel
theorem dX11_crossed_2 : decode cX11_crossed 2 = .ok (.invokevirtual 76, 3) := by decide +kernel
theorem dX11_crossed_5 : decode cX11_crossed 5 = .ok (.ifCond .ne 10, 3) := by decide +kernel
theorem dX11_crossed_8 : decode cX11_crossed 8 = .ok (.aload_n 0, 1) := by decide +kernel
theorem dX11_crossed_9 : decode cX11_crossed 9 = .ok (.ldc 70, 2) := by decide +kernel
theorem dX11_crossed_11 : decode cX11_crossed 11 = .ok (.invokevirtual 62, 3) := by decide +kernel
theorem dX11_crossed_14 : decode cX11_crossed 14 = .ok (.ireturn, 1) := by decide +kernel
theorem dX11_crossed_15 : decode cX11_crossed 15 = .ok (.aload_n 0, 1) := by decide +kernel
theorem dX11_crossed_16 : decode cX11_crossed 16 = .ok (.invokevirtual 150, 3) := by decide +kernel
theorem dX11_crossed_19 : decode cX11_crossed 19 = .ok (.ifCond .ne 12, 3) := by decide +kernel
theorem dX11_crossed_22 : decode cX11_crossed 22 = .ok (.aload_n 0, 1) := by decide +kernel
theorem dX11_crossed_23 : decode cX11_crossed 23 = .ok (.ldc 61, 2) := by decide +kernel
theorem dX11_crossed_25 : decode cX11_crossed 25 = .ok (.invokevirtual 62, 3) := by decide +kernel
theorem dX11_crossed_28 : decode cX11_crossed 28 = .ok (.goto 17, 3) := by decide +kernel
theorem dX11_crossed_31 : decode cX11_crossed 31 = .ok (.aload_n 0, 1) := by decide +kernel
theorem dX11_crossed_32 : decode cX11_crossed 32 = .ok (.getfield 34, 3) := by decide +kernel
theorem dX11_crossed_35 : decode cX11_crossed 35 = .ok (.iload_n 1, 1) := by decide +kernel
theorem dX11_crossed_36 : decode cX11_crossed 36 = .ok (.baload, 1) := by decide +kernel
theorem dX11_crossed_37 : decode cX11_crossed 37 = .ok (.ifCond .eq 7, 3) := by decide +kernel
theorem dX11_crossed_40 : decode cX11_crossed 40 = .ok (.iconst 1, 1) := by decide +kernel
theorem dX11_crossed_41 : decode cX11_crossed 41 = .ok (.goto 4, 3) := by decide +kernel
theorem dX11_crossed_44 : decode cX11_crossed 44 = .ok (.iconst 0, 1) := by decide +kernel
theorem dX11_crossed_45 : decode cX11_crossed 45 = .ok (.ireturn, 1) := by decide +kernel
set_option maxRecDepth 20000 in
theorem ggX11_ways_X11_costUpTo : GoodIn wsX11_ways wsX11_costUpTo := goodIn_r _ [9, 4, 10, 11, 12, 13, 8, 14, 15, 16, 17, 18, 19, 20, 2, 21, 22, 23, 24, 25, 26, 1, 27, 28, 29, 30, 31, 32, 33, 34, 35, 36, 37, 38, 39, 40, 41, 42, 43, 44, 45, 46, 47, 48, 49, 50, 51, 52, 53, 54, 55, 56, 57, 58, 59, 60, 61, 62, 63, 64, 65, 66, 67, 68, 74, 75, 76, 77, 78, 79, 80, 81, 82, 83, 84, 85, 86, 87, 88, 89, 90, 91, 92] (by decide +kernel) (by decide +kernel)
set_option maxRecDepth 20000 in
theorem gX11_ways_X11_costUpTo : GoodIn wsX11_ways (wsV RX11 147 RX11 yX11_costUpTo wsX11_costUpTo) := goodIn_app (goodIn_of _ (by decide +kernel)) ggX11_ways_X11_costUpTo
set_option maxRecDepth 20000 in
theorem ggX11_ways_X11_finding : GoodIn wsX11_ways wsX11_finding := goodIn_r _ [72, 73, 74, 75, 76, 77, 78, 79, 80, 81, 82, 83, 84, 85, 86, 87, 88, 89, 90, 91, 92] (by decide +kernel) (by decide +kernel)
set_option maxRecDepth 20000 in
theorem gX11_ways_X11_finding : GoodIn wsX11_ways (wsV RX11 62 RX11 yX11_finding wsX11_finding) := goodIn_app (goodIn_of _ (by decide +kernel)) ggX11_ways_X11_finding
theorem dX11_ways_0 : decode cX11_ways 0 = .ok (.aload_n 0, 1) := by decide +kernel
theorem dX11_ways_1 : decode cX11_ways 1 = .ok (.aload_n 0, 1) := by decide +kernel
theorem dX11_ways_2 : decode cX11_ways 2 = .ok (.getfield 9, 3) := by decide +kernel
theorem dX11_ways_5 : decode cX11_ways 5 = .ok (.iconst 0, 1) := by decide +kernel
theorem dX11_ways_6 : decode cX11_ways 6 = .ok (.iaload, 1) := by decide +kernel
theorem dX11_ways_7 : decode cX11_ways 7 = .ok (.iconst 1, 1) := by decide +kernel
theorem dX11_ways_8 : decode cX11_ways 8 = .ok (.isub, 1) := by decide +kernel
theorem dX11_ways_9 : decode cX11_ways 9 = .ok (.invokevirtual 147, 3) := by decide +kernel
theorem dX11_ways_12 : decode cX11_ways 12 = .ok (.ldc 100, 2) := by decide +kernel
theorem dX11_ways_14 : decode cX11_ways 14 = .ok (.if_icmp .lt 12, 3) := by decide +kernel
theorem dX11_ways_17 : decode cX11_ways 17 = .ok (.aload_n 0, 1) := by decide +kernel
theorem dX11_ways_18 : decode cX11_ways 18 = .ok (.ldc 61, 2) := by decide +kernel
theorem dX11_ways_20 : decode cX11_ways 20 = .ok (.invokevirtual 62, 3) := by decide +kernel
theorem dX11_ways_23 : decode cX11_ways 23 = .ok (.goto 7, 3) := by decide +kernel
theorem dX11_ways_26 : decode cX11_ways 26 = .ok (.aload_n 0, 1) := by decide +kernel
theorem dX11_ways_27 : decode cX11_ways 27 = .ok (.getfield 136, 3) := by decide +kernel
theorem dX11_ways_30 : decode cX11_ways 30 = .ok (.ireturn, 1) := by decide +kernel
set_option maxRecDepth 20000 in
theorem ggX11_stuck_X11_costUpTo : GoodIn wsX11_stuck wsX11_costUpTo := goodIn_r _ [7, 8, 9, 10, 11, 12, 6, 13, 14, 15, 16, 17, 18, 19, 2, 20, 21, 22, 23, 24, 25, 1, 26, 27, 28, 29, 30, 31, 32, 33, 34, 35, 36, 37, 38, 39, 40, 41, 42, 43, 44, 45, 46, 47, 48, 49, 50, 51, 52, 53, 54, 55, 56, 57, 58, 59, 60, 61, 62, 63, 64, 65, 66, 67, 68, 69, 70, 71, 72, 73, 74, 75, 76, 77, 78, 79, 80, 81, 82, 83, 84, 85, 86] (by decide +kernel) (by decide +kernel)
set_option maxRecDepth 20000 in
theorem gX11_stuck_X11_costUpTo : GoodIn wsX11_stuck (wsV RX11 147 RX11 yX11_costUpTo wsX11_costUpTo) := goodIn_app (goodIn_of _ (by decide +kernel)) ggX11_stuck_X11_costUpTo
theorem dX11_stuck_0 : decode cX11_stuck 0 = .ok (.iconst 0, 1) := by decide +kernel
theorem dX11_stuck_1 : decode cX11_stuck 1 = .ok (.istore_n 1, 1) := by decide +kernel
theorem dX11_stuck_2 : decode cX11_stuck 2 = .ok (.iload_n 1, 1) := by decide +kernel
theorem dX11_stuck_3 : decode cX11_stuck 3 = .ok (.aload_n 0, 1) := by decide +kernel
theorem dX11_stuck_4 : decode cX11_stuck 4 = .ok (.getfield 9, 3) := by decide +kernel
theorem dX11_stuck_7 : decode cX11_stuck 7 = .ok (.iconst 0, 1) := by decide +kernel
theorem dX11_stuck_8 : decode cX11_stuck 8 = .ok (.iaload, 1) := by decide +kernel
theorem dX11_stuck_9 : decode cX11_stuck 9 = .ok (.if_icmp .ge 21, 3) := by decide +kernel
theorem dX11_stuck_12 : decode cX11_stuck 12 = .ok (.aload_n 0, 1) := by decide +kernel
theorem dX11_stuck_13 : decode cX11_stuck 13 = .ok (.iload_n 1, 1) := by decide +kernel
theorem dX11_stuck_14 : decode cX11_stuck 14 = .ok (.invokevirtual 147, 3) := by decide +kernel
theorem dX11_stuck_17 : decode cX11_stuck 17 = .ok (.ldc 100, 2) := by decide +kernel
theorem dX11_stuck_19 : decode cX11_stuck 19 = .ok (.if_icmp .lt 5, 3) := by decide +kernel
theorem dX11_stuck_22 : decode cX11_stuck 22 = .ok (.iload_n 1, 1) := by decide +kernel
theorem dX11_stuck_23 : decode cX11_stuck 23 = .ok (.ireturn, 1) := by decide +kernel
theorem dX11_stuck_24 : decode cX11_stuck 24 = .ok (.iinc 1 1, 3) := by decide +kernel
theorem dX11_stuck_27 : decode cX11_stuck 27 = .ok (.goto (-25), 3) := by decide +kernel
theorem dX11_stuck_30 : decode cX11_stuck 30 = .ok (.iconst (-1), 1) := by decide +kernel
theorem dX11_stuck_31 : decode cX11_stuck 31 = .ok (.ireturn, 1) := by decide +kernel
set_option maxRecDepth 20000 in
theorem ggX11_latest_X11_within : GoodIn wsX11_latest wsX11_within := goodIn_r _ [7] (by decide +kernel) (by decide +kernel)
set_option maxRecDepth 20000 in
theorem gX11_latest_X11_within : GoodIn wsX11_latest (va_wsS RX11 54 yX11_within wsX11_within) := goodIn_app (goodIn_of _ (by decide +kernel)) ggX11_latest_X11_within
set_option maxRecDepth 20000 in
theorem ggX11_latest_X11_isNote : GoodIn wsX11_latest wsX11_isNote := goodIn_r _ [11, 12, 4, 5, 6, 7, 89, 90, 91, 92, 93, 94, 95, 96, 97, 98, 99, 100, 101, 102, 103, 104, 105, 106, 107] (by decide +kernel) (by decide +kernel)
set_option maxRecDepth 20000 in
theorem gX11_latest_X11_isNote : GoodIn wsX11_latest (wsV RX11 76 RX11 yX11_isNote wsX11_isNote) := goodIn_app (goodIn_of _ (by decide +kernel)) ggX11_latest_X11_isNote
set_option maxRecDepth 20000 in
theorem ggX11_latest_X11_finding : GoodIn wsX11_latest wsX11_finding := goodIn_r _ [16, 17, 89, 90, 91, 92, 93, 94, 95, 96, 97, 98, 99, 100, 101, 102, 103, 104, 105, 106, 107] (by decide +kernel) (by decide +kernel)
set_option maxRecDepth 20000 in
theorem gX11_latest_X11_finding : GoodIn wsX11_latest (wsV RX11 62 RX11 yX11_finding wsX11_finding) := goodIn_app (goodIn_of _ (by decide +kernel)) ggX11_latest_X11_finding
set_option maxRecDepth 20000 in
theorem ggX11_latest_X11_findThem : GoodIn wsX11_latest wsX11_findThem := goodIn_r _ [21, 12, 22, 23, 24, 25, 26, 3, 27, 28, 29, 6, 30, 31, 32, 33, 34, 35, 36, 37, 38, 39, 40, 41, 42, 43, 44, 45, 46, 47, 48, 49, 50, 51, 52, 53, 54, 55, 56, 57, 58, 59, 60, 61, 62, 63, 64, 65, 66, 67, 68, 69, 70, 71, 72, 73, 74, 75, 76, 77, 78, 79, 80, 81, 82, 83, 84, 85, 86, 87, 88, 89, 90, 91, 92, 93, 94, 95, 96, 97, 98, 99, 100, 101, 102, 103, 104, 105, 106, 107] (by decide +kernel) (by decide +kernel)
set_option maxRecDepth 20000 in
theorem gX11_latest_X11_findThem : GoodIn wsX11_latest (wsV RX11 150 RX11 yX11_findThem wsX11_findThem) := goodIn_app (goodIn_of _ (by decide +kernel)) ggX11_latest_X11_findThem
set_option maxRecDepth 20000 in
theorem ggX11_latest_X11_tickOf : GoodIn wsX11_latest wsX11_tickOf := goodIn_r _ [69, 12, 89, 90, 91, 92, 93, 94, 95, 96, 97, 98, 99, 100, 101, 102, 103, 104, 105, 106, 107] (by decide +kernel) (by decide +kernel)
set_option maxRecDepth 20000 in
theorem gX11_latest_X11_tickOf : GoodIn wsX11_latest (wsV RX11 86 RX11 yX11_tickOf wsX11_tickOf) := goodIn_app (goodIn_of _ (by decide +kernel)) ggX11_latest_X11_tickOf
theorem dX11_latest_0 : decode cX11_latest 0 = .ok (.iload_n 1, 1) := by decide +kernel
theorem dX11_latest_1 : decode cX11_latest 1 = .ok (.iconst 0, 1) := by decide +kernel
theorem dX11_latest_2 : decode cX11_latest 2 = .ok (.iconst 1, 1) := by decide +kernel
theorem dX11_latest_3 : decode cX11_latest 3 = .ok (.invokestatic 54, 3) := by decide +kernel
theorem dX11_latest_6 : decode cX11_latest 6 = .ok (.ifCond .eq 11, 3) := by decide +kernel
theorem dX11_latest_9 : decode cX11_latest 9 = .ok (.aload_n 0, 1) := by decide +kernel
theorem dX11_latest_10 : decode cX11_latest 10 = .ok (.iload_n 2, 1) := by decide +kernel
theorem dX11_latest_11 : decode cX11_latest 11 = .ok (.invokevirtual 76, 3) := by decide +kernel
theorem dX11_latest_14 : decode cX11_latest 14 = .ok (.ifCond .ne 10, 3) := by decide +kernel
theorem dX11_latest_17 : decode cX11_latest 17 = .ok (.aload_n 0, 1) := by decide +kernel
theorem dX11_latest_18 : decode cX11_latest 18 = .ok (.ldc 70, 2) := by decide +kernel
theorem dX11_latest_20 : decode cX11_latest 20 = .ok (.invokevirtual 62, 3) := by decide +kernel
theorem dX11_latest_23 : decode cX11_latest 23 = .ok (.ireturn, 1) := by decide +kernel
theorem dX11_latest_24 : decode cX11_latest 24 = .ok (.aload_n 0, 1) := by decide +kernel
theorem dX11_latest_25 : decode cX11_latest 25 = .ok (.invokevirtual 150, 3) := by decide +kernel
theorem dX11_latest_28 : decode cX11_latest 28 = .ok (.ifCond .ne 10, 3) := by decide +kernel
theorem dX11_latest_31 : decode cX11_latest 31 = .ok (.aload_n 0, 1) := by decide +kernel
theorem dX11_latest_32 : decode cX11_latest 32 = .ok (.ldc 61, 2) := by decide +kernel
theorem dX11_latest_34 : decode cX11_latest 34 = .ok (.invokevirtual 62, 3) := by decide +kernel
theorem dX11_latest_37 : decode cX11_latest 37 = .ok (.ireturn, 1) := by decide +kernel
theorem dX11_latest_38 : decode cX11_latest 38 = .ok (.aload_n 0, 1) := by decide +kernel
theorem dX11_latest_39 : decode cX11_latest 39 = .ok (.getfield 38, 3) := by decide +kernel
theorem dX11_latest_42 : decode cX11_latest 42 = .ok (.iconst 2, 1) := by decide +kernel
theorem dX11_latest_43 : decode cX11_latest 43 = .ok (.iload_n 2, 1) := by decide +kernel
theorem dX11_latest_44 : decode cX11_latest 44 = .ok (.imul, 1) := by decide +kernel
theorem dX11_latest_45 : decode cX11_latest 45 = .ok (.iload_n 1, 1) := by decide +kernel
theorem dX11_latest_46 : decode cX11_latest 46 = .ok (.iadd, 1) := by decide +kernel
theorem dX11_latest_47 : decode cX11_latest 47 = .ok (.iaload, 1) := by decide +kernel
theorem dX11_latest_48 : decode cX11_latest 48 = .ok (.istore_n 3, 1) := by decide +kernel
theorem dX11_latest_49 : decode cX11_latest 49 = .ok (.iload_n 3, 1) := by decide +kernel
theorem dX11_latest_50 : decode cX11_latest 50 = .ok (.ifCond .ne 12, 3) := by decide +kernel
theorem dX11_latest_53 : decode cX11_latest 53 = .ok (.aload_n 0, 1) := by decide +kernel
theorem dX11_latest_54 : decode cX11_latest 54 = .ok (.ldc 61, 2) := by decide +kernel
theorem dX11_latest_56 : decode cX11_latest 56 = .ok (.invokevirtual 62, 3) := by decide +kernel
theorem dX11_latest_59 : decode cX11_latest 59 = .ok (.goto 8, 3) := by decide +kernel
theorem dX11_latest_62 : decode cX11_latest 62 = .ok (.aload_n 0, 1) := by decide +kernel
theorem dX11_latest_63 : decode cX11_latest 63 = .ok (.iload_n 3, 1) := by decide +kernel
theorem dX11_latest_64 : decode cX11_latest 64 = .ok (.invokevirtual 86, 3) := by decide +kernel
theorem dX11_latest_67 : decode cX11_latest 67 = .ok (.ireturn, 1) := by decide +kernel
set_option maxRecDepth 20000 in
theorem ggX11_judge_X11_within : GoodIn wsX11_judge wsX11_within := goodIn_r _ [8] (by decide +kernel) (by decide +kernel)
set_option maxRecDepth 20000 in
theorem gX11_judge_X11_within : GoodIn wsX11_judge (va_wsS RX11 54 yX11_within wsX11_within) := goodIn_app (goodIn_of _ (by decide +kernel)) ggX11_judge_X11_within
set_option maxRecDepth 20000 in
theorem ggX11_judge_X11_finding : GoodIn wsX11_judge wsX11_finding := goodIn_r _ [12, 13, 50, 51, 52, 53, 54, 55, 56, 57, 58, 59, 60, 61, 62, 63, 64, 65, 66, 67, 68] (by decide +kernel) (by decide +kernel)
set_option maxRecDepth 20000 in
theorem gX11_judge_X11_finding : GoodIn wsX11_judge (wsV RX11 62 RX11 yX11_finding wsX11_finding) := goodIn_app (goodIn_of _ (by decide +kernel)) ggX11_judge_X11_finding
set_option maxRecDepth 20000 in
theorem ggX11_judge_X11_canBe : GoodIn wsX11_judge wsX11_canBe := goodIn_r _ [17, 1, 18, 19, 20, 7, 21, 22, 23, 24, 25, 26, 27, 28, 29, 30, 31, 32, 33, 34, 35, 36, 37, 50, 51, 52, 53, 54, 55, 56, 57, 58, 59, 60, 61, 62, 63, 64, 65, 66, 67, 68] (by decide +kernel) (by decide +kernel)
set_option maxRecDepth 20000 in
theorem gX11_judge_X11_canBe : GoodIn wsX11_judge (wsV RX11 107 RX11 yX11_canBe wsX11_canBe) := goodIn_app (goodIn_of _ (by decide +kernel)) ggX11_judge_X11_canBe
set_option maxRecDepth 20000 in
theorem ggX11_judge_X11_otherThen : GoodIn wsX11_judge wsX11_otherThen := goodIn_r _ [41, 18, 19, 20, 7, 21, 1, 50, 51, 52, 53, 54, 55, 56, 57, 58, 59, 60, 61, 62, 63, 64, 65, 66, 67, 68] (by decide +kernel) (by decide +kernel)
set_option maxRecDepth 20000 in
theorem gX11_judge_X11_otherThen : GoodIn wsX11_judge (wsV RX11 111 RX11 yX11_otherThen wsX11_otherThen) := goodIn_app (goodIn_of _ (by decide +kernel)) ggX11_judge_X11_otherThen
set_option maxRecDepth 20000 in
theorem ggX11_judge_X11_isCrossed : GoodIn wsX11_judge wsX11_isCrossed := goodIn_r _ [45, 1, 50, 51, 52, 53, 54, 55, 56, 57, 58, 59, 60, 61, 62, 63, 64, 65, 66, 67, 68] (by decide +kernel) (by decide +kernel)
set_option maxRecDepth 20000 in
theorem gX11_judge_X11_isCrossed : GoodIn wsX11_judge (wsV RX11 115 RX11 yX11_isCrossed wsX11_isCrossed) := goodIn_app (goodIn_of _ (by decide +kernel)) ggX11_judge_X11_isCrossed
set_option maxRecDepth 20000 in
theorem ggX11_judge_X11_awkwardness : GoodIn wsX11_judge wsX11_awkwardness := goodIn_r _ [49, 1, 18, 19, 20, 7, 21, 50, 51, 52, 53, 54, 55, 56, 57, 58, 59, 60, 61, 62, 63, 64, 65, 66, 67, 68] (by decide +kernel) (by decide +kernel)
set_option maxRecDepth 20000 in
theorem gX11_judge_X11_awkwardness : GoodIn wsX11_judge (wsV RX11 122 RX11 yX11_awkwardness wsX11_awkwardness) := goodIn_app (goodIn_of _ (by decide +kernel)) ggX11_judge_X11_awkwardness
theorem dX11_judge_0 : decode cX11_judge 0 = .ok (.iload_n 1, 1) := by decide +kernel
theorem dX11_judge_1 : decode cX11_judge 1 = .ok (.iconst 0, 1) := by decide +kernel
theorem dX11_judge_2 : decode cX11_judge 2 = .ok (.iconst 1, 1) := by decide +kernel
theorem dX11_judge_3 : decode cX11_judge 3 = .ok (.aload_n 0, 1) := by decide +kernel
theorem dX11_judge_4 : decode cX11_judge 4 = .ok (.getfield 9, 3) := by decide +kernel
theorem dX11_judge_7 : decode cX11_judge 7 = .ok (.iconst 0, 1) := by decide +kernel
theorem dX11_judge_8 : decode cX11_judge 8 = .ok (.iaload, 1) := by decide +kernel
theorem dX11_judge_9 : decode cX11_judge 9 = .ok (.ishl, 1) := by decide +kernel
theorem dX11_judge_10 : decode cX11_judge 10 = .ok (.iconst 1, 1) := by decide +kernel
theorem dX11_judge_11 : decode cX11_judge 11 = .ok (.isub, 1) := by decide +kernel
theorem dX11_judge_12 : decode cX11_judge 12 = .ok (.invokestatic 54, 3) := by decide +kernel
theorem dX11_judge_15 : decode cX11_judge 15 = .ok (.ifCond .ne 10, 3) := by decide +kernel
theorem dX11_judge_18 : decode cX11_judge 18 = .ok (.aload_n 0, 1) := by decide +kernel
theorem dX11_judge_19 : decode cX11_judge 19 = .ok (.ldc 70, 2) := by decide +kernel
theorem dX11_judge_21 : decode cX11_judge 21 = .ok (.invokevirtual 62, 3) := by decide +kernel
theorem dX11_judge_24 : decode cX11_judge 24 = .ok (.ireturn, 1) := by decide +kernel
theorem dX11_judge_25 : decode cX11_judge 25 = .ok (.iconst 2, 1) := by decide +kernel
theorem dX11_judge_26 : decode cX11_judge 26 = .ok (.newarray .int, 2) := by decide +kernel
theorem dX11_judge_28 : decode cX11_judge 28 = .ok (.astore_n 2, 1) := by decide +kernel
theorem dX11_judge_29 : decode cX11_judge 29 = .ok (.iconst (-1), 1) := by decide +kernel
theorem dX11_judge_30 : decode cX11_judge 30 = .ok (.istore_n 3, 1) := by decide +kernel
theorem dX11_judge_31 : decode cX11_judge 31 = .ok (.iconst 0, 1) := by decide +kernel
theorem dX11_judge_32 : decode cX11_judge 32 = .ok (.istore 4, 2) := by decide +kernel
theorem dX11_judge_34 : decode cX11_judge 34 = .ok (.iconst 0, 1) := by decide +kernel
theorem dX11_judge_35 : decode cX11_judge 35 = .ok (.istore 5, 2) := by decide +kernel
theorem dX11_judge_37 : decode cX11_judge 37 = .ok (.iconst 0, 1) := by decide +kernel
theorem dX11_judge_38 : decode cX11_judge 38 = .ok (.istore 6, 2) := by decide +kernel
theorem dX11_judge_40 : decode cX11_judge 40 = .ok (.iload 6, 2) := by decide +kernel
theorem dX11_judge_42 : decode cX11_judge 42 = .ok (.aload_n 0, 1) := by decide +kernel
theorem dX11_judge_43 : decode cX11_judge 43 = .ok (.getfield 9, 3) := by decide +kernel
theorem dX11_judge_46 : decode cX11_judge 46 = .ok (.iconst 0, 1) := by decide +kernel
theorem dX11_judge_47 : decode cX11_judge 47 = .ok (.iaload, 1) := by decide +kernel
theorem dX11_judge_48 : decode cX11_judge 48 = .ok (.if_icmp .ge 123, 3) := by decide +kernel
theorem dX11_judge_51 : decode cX11_judge 51 = .ok (.iload_n 1, 1) := by decide +kernel
theorem dX11_judge_52 : decode cX11_judge 52 = .ok (.iload 6, 2) := by decide +kernel
theorem dX11_judge_54 : decode cX11_judge 54 = .ok (.ishr, 1) := by decide +kernel
theorem dX11_judge_55 : decode cX11_judge 55 = .ok (.iconst 1, 1) := by decide +kernel
theorem dX11_judge_56 : decode cX11_judge 56 = .ok (.iand, 1) := by decide +kernel
theorem dX11_judge_57 : decode cX11_judge 57 = .ok (.istore 7, 2) := by decide +kernel
theorem dX11_judge_59 : decode cX11_judge 59 = .ok (.aload_n 0, 1) := by decide +kernel
theorem dX11_judge_60 : decode cX11_judge 60 = .ok (.iload 6, 2) := by decide +kernel
theorem dX11_judge_62 : decode cX11_judge 62 = .ok (.iload 7, 2) := by decide +kernel
theorem dX11_judge_64 : decode cX11_judge 64 = .ok (.aload_n 2, 1) := by decide +kernel
theorem dX11_judge_65 : decode cX11_judge 65 = .ok (.iload 7, 2) := by decide +kernel
theorem dX11_judge_67 : decode cX11_judge 67 = .ok (.iaload, 1) := by decide +kernel
theorem dX11_judge_68 : decode cX11_judge 68 = .ok (.aload_n 2, 1) := by decide +kernel
theorem dX11_judge_69 : decode cX11_judge 69 = .ok (.iconst 1, 1) := by decide +kernel
theorem dX11_judge_70 : decode cX11_judge 70 = .ok (.iload 7, 2) := by decide +kernel
theorem dX11_judge_72 : decode cX11_judge 72 = .ok (.isub, 1) := by decide +kernel
theorem dX11_judge_73 : decode cX11_judge 73 = .ok (.iaload, 1) := by decide +kernel
theorem dX11_judge_74 : decode cX11_judge 74 = .ok (.invokevirtual 107, 3) := by decide +kernel
theorem dX11_judge_77 : decode cX11_judge 77 = .ok (.ifCond .ne 10, 3) := by decide +kernel
theorem dX11_judge_80 : decode cX11_judge 80 = .ok (.aload_n 0, 1) := by decide +kernel
theorem dX11_judge_81 : decode cX11_judge 81 = .ok (.ldc 79, 2) := by decide +kernel
theorem dX11_judge_83 : decode cX11_judge 83 = .ok (.invokevirtual 62, 3) := by decide +kernel
theorem dX11_judge_86 : decode cX11_judge 86 = .ok (.ireturn, 1) := by decide +kernel
theorem dX11_judge_87 : decode cX11_judge 87 = .ok (.aload_n 2, 1) := by decide +kernel
theorem dX11_judge_88 : decode cX11_judge 88 = .ok (.iload 7, 2) := by decide +kernel
theorem dX11_judge_90 : decode cX11_judge 90 = .ok (.iconst 1, 1) := by decide +kernel
theorem dX11_judge_91 : decode cX11_judge 91 = .ok (.iconst 2, 1) := by decide +kernel
theorem dX11_judge_92 : decode cX11_judge 92 = .ok (.iload 6, 2) := by decide +kernel
theorem dX11_judge_94 : decode cX11_judge 94 = .ok (.imul, 1) := by decide +kernel
theorem dX11_judge_95 : decode cX11_judge 95 = .ok (.iadd, 1) := by decide +kernel
theorem dX11_judge_96 : decode cX11_judge 96 = .ok (.iastore, 1) := by decide +kernel
theorem dX11_judge_97 : decode cX11_judge 97 = .ok (.aload_n 2, 1) := by decide +kernel
theorem dX11_judge_98 : decode cX11_judge 98 = .ok (.iconst 1, 1) := by decide +kernel
theorem dX11_judge_99 : decode cX11_judge 99 = .ok (.iload 7, 2) := by decide +kernel
theorem dX11_judge_101 : decode cX11_judge 101 = .ok (.isub, 1) := by decide +kernel
theorem dX11_judge_102 : decode cX11_judge 102 = .ok (.aload_n 0, 1) := by decide +kernel
theorem dX11_judge_103 : decode cX11_judge 103 = .ok (.iload 6, 2) := by decide +kernel
theorem dX11_judge_105 : decode cX11_judge 105 = .ok (.aload_n 2, 1) := by decide +kernel
theorem dX11_judge_106 : decode cX11_judge 106 = .ok (.iconst 1, 1) := by decide +kernel
theorem dX11_judge_107 : decode cX11_judge 107 = .ok (.iload 7, 2) := by decide +kernel
theorem dX11_judge_109 : decode cX11_judge 109 = .ok (.isub, 1) := by decide +kernel
theorem dX11_judge_110 : decode cX11_judge 110 = .ok (.iaload, 1) := by decide +kernel
theorem dX11_judge_111 : decode cX11_judge 111 = .ok (.invokevirtual 111, 3) := by decide +kernel
theorem dX11_judge_114 : decode cX11_judge 114 = .ok (.iastore, 1) := by decide +kernel
theorem dX11_judge_115 : decode cX11_judge 115 = .ok (.aload_n 0, 1) := by decide +kernel
theorem dX11_judge_116 : decode cX11_judge 116 = .ok (.iload 6, 2) := by decide +kernel
theorem dX11_judge_118 : decode cX11_judge 118 = .ok (.iload 7, 2) := by decide +kernel
theorem dX11_judge_120 : decode cX11_judge 120 = .ok (.aload_n 2, 1) := by decide +kernel
theorem dX11_judge_121 : decode cX11_judge 121 = .ok (.iconst 1, 1) := by decide +kernel
theorem dX11_judge_122 : decode cX11_judge 122 = .ok (.iload 7, 2) := by decide +kernel
theorem dX11_judge_124 : decode cX11_judge 124 = .ok (.isub, 1) := by decide +kernel
theorem dX11_judge_125 : decode cX11_judge 125 = .ok (.iaload, 1) := by decide +kernel
theorem dX11_judge_126 : decode cX11_judge 126 = .ok (.invokevirtual 115, 3) := by decide +kernel
theorem dX11_judge_129 : decode cX11_judge 129 = .ok (.istore 8, 2) := by decide +kernel
theorem dX11_judge_131 : decode cX11_judge 131 = .ok (.iload 5, 2) := by decide +kernel
theorem dX11_judge_133 : decode cX11_judge 133 = .ok (.iload 8, 2) := by decide +kernel
theorem dX11_judge_135 : decode cX11_judge 135 = .ok (.ifCond .eq 7, 3) := by decide +kernel
theorem dX11_judge_138 : decode cX11_judge 138 = .ok (.iconst 1, 1) := by decide +kernel
theorem dX11_judge_139 : decode cX11_judge 139 = .ok (.goto 4, 3) := by decide +kernel
theorem dX11_judge_142 : decode cX11_judge 142 = .ok (.iconst 0, 1) := by decide +kernel
theorem dX11_judge_143 : decode cX11_judge 143 = .ok (.iadd, 1) := by decide +kernel
theorem dX11_judge_144 : decode cX11_judge 144 = .ok (.istore 5, 2) := by decide +kernel
theorem dX11_judge_146 : decode cX11_judge 146 = .ok (.iload 4, 2) := by decide +kernel
theorem dX11_judge_148 : decode cX11_judge 148 = .ok (.aload_n 0, 1) := by decide +kernel
theorem dX11_judge_149 : decode cX11_judge 149 = .ok (.iload 6, 2) := by decide +kernel
theorem dX11_judge_151 : decode cX11_judge 151 = .ok (.iload 7, 2) := by decide +kernel
theorem dX11_judge_153 : decode cX11_judge 153 = .ok (.iload_n 3, 1) := by decide +kernel
theorem dX11_judge_154 : decode cX11_judge 154 = .ok (.iload 8, 2) := by decide +kernel
theorem dX11_judge_156 : decode cX11_judge 156 = .ok (.invokevirtual 122, 3) := by decide +kernel
theorem dX11_judge_159 : decode cX11_judge 159 = .ok (.iadd, 1) := by decide +kernel
theorem dX11_judge_160 : decode cX11_judge 160 = .ok (.istore 4, 2) := by decide +kernel
theorem dX11_judge_162 : decode cX11_judge 162 = .ok (.iload 7, 2) := by decide +kernel
theorem dX11_judge_164 : decode cX11_judge 164 = .ok (.istore_n 3, 1) := by decide +kernel
theorem dX11_judge_165 : decode cX11_judge 165 = .ok (.iinc 6 1, 3) := by decide +kernel
theorem dX11_judge_168 : decode cX11_judge 168 = .ok (.goto (-128), 3) := by decide +kernel
theorem dX11_judge_171 : decode cX11_judge 171 = .ok (.iload 5, 2) := by decide +kernel
theorem dX11_judge_173 : decode cX11_judge 173 = .ok (.aload_n 0, 1) := by decide +kernel
theorem dX11_judge_174 : decode cX11_judge 174 = .ok (.getfield 9, 3) := by decide +kernel
theorem dX11_judge_177 : decode cX11_judge 177 = .ok (.iconst 4, 1) := by decide +kernel
theorem dX11_judge_178 : decode cX11_judge 178 = .ok (.iaload, 1) := by decide +kernel
theorem dX11_judge_179 : decode cX11_judge 179 = .ok (.if_icmp .le 12, 3) := by decide +kernel
theorem dX11_judge_182 : decode cX11_judge 182 = .ok (.aload_n 0, 1) := by decide +kernel
theorem dX11_judge_183 : decode cX11_judge 183 = .ok (.ldc 79, 2) := by decide +kernel
theorem dX11_judge_185 : decode cX11_judge 185 = .ok (.invokevirtual 62, 3) := by decide +kernel
theorem dX11_judge_188 : decode cX11_judge 188 = .ok (.goto 5, 3) := by decide +kernel
theorem dX11_judge_191 : decode cX11_judge 191 = .ok (.iload 4, 2) := by decide +kernel
theorem dX11_judge_193 : decode cX11_judge 193 = .ok (.ireturn, 1) := by decide +kernel
set_option maxRecDepth 20000 in
theorem ggX11_bass_X11_within : GoodIn wsX11_bass wsX11_within := goodIn_r _ [6] (by decide +kernel) (by decide +kernel)
set_option maxRecDepth 20000 in
theorem gX11_bass_X11_within : GoodIn wsX11_bass (va_wsS RX11 54 yX11_within wsX11_within) := goodIn_app (goodIn_of _ (by decide +kernel)) ggX11_bass_X11_within
set_option maxRecDepth 20000 in
theorem ggX11_bass_X11_finding : GoodIn wsX11_bass wsX11_finding := goodIn_r _ [10, 11, 18, 19, 20, 21, 22, 23, 24, 25, 26, 27, 28, 29, 30, 31, 32, 33, 34, 35, 36] (by decide +kernel) (by decide +kernel)
set_option maxRecDepth 20000 in
theorem gX11_bass_X11_finding : GoodIn wsX11_bass (wsV RX11 62 RX11 yX11_finding wsX11_finding) := goodIn_app (goodIn_of _ (by decide +kernel)) ggX11_bass_X11_finding
set_option maxRecDepth 20000 in
theorem ggX11_bass_X11_keep : GoodIn wsX11_bass wsX11_keep := goodIn_r _ [15, 16, 17, 2, 18, 19, 20, 21, 22, 23, 24, 25, 26, 27, 28, 29, 30, 31, 32, 33, 34, 35, 36] (by decide +kernel) (by decide +kernel)
set_option maxRecDepth 20000 in
theorem gX11_bass_X11_keep : GoodIn wsX11_bass (wsV RX11 73 RX11 yX11_keep wsX11_keep) := goodIn_app (goodIn_of _ (by decide +kernel)) ggX11_bass_X11_keep
theorem dX11_bass_0 : decode cX11_bass 0 = .ok (.iload_n 1, 1) := by decide +kernel
theorem dX11_bass_1 : decode cX11_bass 1 = .ok (.iconst 0, 1) := by decide +kernel
theorem dX11_bass_2 : decode cX11_bass 2 = .ok (.iconst 4, 1) := by decide +kernel
theorem dX11_bass_3 : decode cX11_bass 3 = .ok (.invokestatic 54, 3) := by decide +kernel
theorem dX11_bass_6 : decode cX11_bass 6 = .ok (.ifCond .ne 10, 3) := by decide +kernel
theorem dX11_bass_9 : decode cX11_bass 9 = .ok (.aload_n 0, 1) := by decide +kernel
theorem dX11_bass_10 : decode cX11_bass 10 = .ok (.ldc 70, 2) := by decide +kernel
theorem dX11_bass_12 : decode cX11_bass 12 = .ok (.invokevirtual 62, 3) := by decide +kernel
theorem dX11_bass_15 : decode cX11_bass 15 = .ok (.ireturn, 1) := by decide +kernel
theorem dX11_bass_16 : decode cX11_bass 16 = .ok (.aload_n 0, 1) := by decide +kernel
theorem dX11_bass_17 : decode cX11_bass 17 = .ok (.invokevirtual 73, 3) := by decide +kernel
theorem dX11_bass_20 : decode cX11_bass 20 = .ok (.aload_n 0, 1) := by decide +kernel
theorem dX11_bass_21 : decode cX11_bass 21 = .ok (.getfield 9, 3) := by decide +kernel
theorem dX11_bass_24 : decode cX11_bass 24 = .ok (.iconst 1, 1) := by decide +kernel
theorem dX11_bass_25 : decode cX11_bass 25 = .ok (.iaload, 1) := by decide +kernel
theorem dX11_bass_26 : decode cX11_bass 26 = .ok (.istore_n 3, 1) := by decide +kernel
theorem dX11_bass_27 : decode cX11_bass 27 = .ok (.aload_n 0, 1) := by decide +kernel
theorem dX11_bass_28 : decode cX11_bass 28 = .ok (.getfield 9, 3) := by decide +kernel
theorem dX11_bass_31 : decode cX11_bass 31 = .ok (.iconst 1, 1) := by decide +kernel
theorem dX11_bass_32 : decode cX11_bass 32 = .ok (.iload_n 2, 1) := by decide +kernel
theorem dX11_bass_33 : decode cX11_bass 33 = .ok (.ifCond .eq 11, 3) := by decide +kernel
theorem dX11_bass_36 : decode cX11_bass 36 = .ok (.iload_n 3, 1) := by decide +kernel
theorem dX11_bass_37 : decode cX11_bass 37 = .ok (.iconst 1, 1) := by decide +kernel
theorem dX11_bass_38 : decode cX11_bass 38 = .ok (.iload_n 1, 1) := by decide +kernel
theorem dX11_bass_39 : decode cX11_bass 39 = .ok (.ishl, 1) := by decide +kernel
theorem dX11_bass_40 : decode cX11_bass 40 = .ok (.ior, 1) := by decide +kernel
theorem dX11_bass_41 : decode cX11_bass 41 = .ok (.goto 10, 3) := by decide +kernel
theorem dX11_bass_44 : decode cX11_bass 44 = .ok (.iload_n 3, 1) := by decide +kernel
theorem dX11_bass_45 : decode cX11_bass 45 = .ok (.iconst 1, 1) := by decide +kernel
theorem dX11_bass_46 : decode cX11_bass 46 = .ok (.iload_n 1, 1) := by decide +kernel
theorem dX11_bass_47 : decode cX11_bass 47 = .ok (.ishl, 1) := by decide +kernel
theorem dX11_bass_48 : decode cX11_bass 48 = .ok (.iconst (-1), 1) := by decide +kernel
theorem dX11_bass_49 : decode cX11_bass 49 = .ok (.ixor, 1) := by decide +kernel
theorem dX11_bass_50 : decode cX11_bass 50 = .ok (.iand, 1) := by decide +kernel
theorem dX11_bass_51 : decode cX11_bass 51 = .ok (.iastore, 1) := by decide +kernel
theorem dX11_bass_52 : decode cX11_bass 52 = .ok (.iload_n 3, 1) := by decide +kernel
theorem dX11_bass_53 : decode cX11_bass 53 = .ok (.aload_n 0, 1) := by decide +kernel
theorem dX11_bass_54 : decode cX11_bass 54 = .ok (.getfield 9, 3) := by decide +kernel
theorem dX11_bass_57 : decode cX11_bass 57 = .ok (.iconst 1, 1) := by decide +kernel
theorem dX11_bass_58 : decode cX11_bass 58 = .ok (.iaload, 1) := by decide +kernel
theorem dX11_bass_59 : decode cX11_bass 59 = .ok (.if_icmp .ne 7, 3) := by decide +kernel
theorem dX11_bass_62 : decode cX11_bass 62 = .ok (.iconst 0, 1) := by decide +kernel
theorem dX11_bass_63 : decode cX11_bass 63 = .ok (.goto 4, 3) := by decide +kernel
theorem dX11_bass_66 : decode cX11_bass 66 = .ok (.iconst 1, 1) := by decide +kernel
theorem dX11_bass_67 : decode cX11_bass 67 = .ok (.ireturn, 1) := by decide +kernel
theorem dX11_bassOf_0 : decode cX11_bassOf 0 = .ok (.iload_n 1, 1) := by decide +kernel
theorem dX11_bassOf_1 : decode cX11_bassOf 1 = .ok (.ifCond .ne 9, 3) := by decide +kernel
theorem dX11_bassOf_4 : decode cX11_bassOf 4 = .ok (.iload_n 2, 1) := by decide +kernel
theorem dX11_bassOf_5 : decode cX11_bassOf 5 = .ok (.iconst 5, 1) := by decide +kernel
theorem dX11_bassOf_6 : decode cX11_bassOf 6 = .ok (.irem, 1) := by decide +kernel
theorem dX11_bassOf_7 : decode cX11_bassOf 7 = .ok (.goto 38, 3) := by decide +kernel
theorem dX11_bassOf_10 : decode cX11_bassOf 10 = .ok (.iload_n 1, 1) := by decide +kernel
theorem dX11_bassOf_11 : decode cX11_bassOf 11 = .ok (.iconst 1, 1) := by decide +kernel
theorem dX11_bassOf_12 : decode cX11_bassOf 12 = .ok (.if_icmp .ne 11, 3) := by decide +kernel
theorem dX11_bassOf_15 : decode cX11_bassOf 15 = .ok (.iconst 4, 1) := by decide +kernel
theorem dX11_bassOf_16 : decode cX11_bassOf 16 = .ok (.iload_n 2, 1) := by decide +kernel
theorem dX11_bassOf_17 : decode cX11_bassOf 17 = .ok (.iconst 5, 1) := by decide +kernel
theorem dX11_bassOf_18 : decode cX11_bassOf 18 = .ok (.irem, 1) := by decide +kernel
theorem dX11_bassOf_19 : decode cX11_bassOf 19 = .ok (.isub, 1) := by decide +kernel
theorem dX11_bassOf_20 : decode cX11_bassOf 20 = .ok (.goto 25, 3) := by decide +kernel
theorem dX11_bassOf_23 : decode cX11_bassOf 23 = .ok (.iload_n 2, 1) := by decide +kernel
theorem dX11_bassOf_24 : decode cX11_bassOf 24 = .ok (.bipush 8, 2) := by decide +kernel
theorem dX11_bassOf_26 : decode cX11_bassOf 26 = .ok (.irem, 1) := by decide +kernel
theorem dX11_bassOf_27 : decode cX11_bassOf 27 = .ok (.iconst 5, 1) := by decide +kernel
theorem dX11_bassOf_28 : decode cX11_bassOf 28 = .ok (.if_icmp .ge 10, 3) := by decide +kernel
theorem dX11_bassOf_31 : decode cX11_bassOf 31 = .ok (.iload_n 2, 1) := by decide +kernel
theorem dX11_bassOf_32 : decode cX11_bassOf 32 = .ok (.bipush 8, 2) := by decide +kernel
theorem dX11_bassOf_34 : decode cX11_bassOf 34 = .ok (.irem, 1) := by decide +kernel
theorem dX11_bassOf_35 : decode cX11_bassOf 35 = .ok (.goto 10, 3) := by decide +kernel
theorem dX11_bassOf_38 : decode cX11_bassOf 38 = .ok (.bipush 8, 2) := by decide +kernel
theorem dX11_bassOf_40 : decode cX11_bassOf 40 = .ok (.iload_n 2, 1) := by decide +kernel
theorem dX11_bassOf_41 : decode cX11_bassOf 41 = .ok (.bipush 8, 2) := by decide +kernel
theorem dX11_bassOf_43 : decode cX11_bassOf 43 = .ok (.irem, 1) := by decide +kernel
theorem dX11_bassOf_44 : decode cX11_bassOf 44 = .ok (.isub, 1) := by decide +kernel
theorem dX11_bassOf_45 : decode cX11_bassOf 45 = .ok (.istore_n 3, 1) := by decide +kernel
theorem dX11_bassOf_46 : decode cX11_bassOf 46 = .ok (.iload_n 3, 1) := by decide +kernel
theorem dX11_bassOf_47 : decode cX11_bassOf 47 = .ok (.istore 4, 2) := by decide +kernel
theorem dX11_bassOf_49 : decode cX11_bassOf 49 = .ok (.iload 4, 2) := by decide +kernel
theorem dX11_bassOf_51 : decode cX11_bassOf 51 = .ok (.ifCond .lt 23, 3) := by decide +kernel
theorem dX11_bassOf_54 : decode cX11_bassOf 54 = .ok (.aload_n 0, 1) := by decide +kernel
theorem dX11_bassOf_55 : decode cX11_bassOf 55 = .ok (.getfield 9, 3) := by decide +kernel
theorem dX11_bassOf_58 : decode cX11_bassOf 58 = .ok (.iconst 1, 1) := by decide +kernel
theorem dX11_bassOf_59 : decode cX11_bassOf 59 = .ok (.iaload, 1) := by decide +kernel
theorem dX11_bassOf_60 : decode cX11_bassOf 60 = .ok (.iload 4, 2) := by decide +kernel
theorem dX11_bassOf_62 : decode cX11_bassOf 62 = .ok (.ishr, 1) := by decide +kernel
theorem dX11_bassOf_63 : decode cX11_bassOf 63 = .ok (.iconst 1, 1) := by decide +kernel
theorem dX11_bassOf_64 : decode cX11_bassOf 64 = .ok (.iand, 1) := by decide +kernel
theorem dX11_bassOf_65 : decode cX11_bassOf 65 = .ok (.ifCond .ne 9, 3) := by decide +kernel
theorem dX11_bassOf_68 : decode cX11_bassOf 68 = .ok (.iinc 4 (-1), 3) := by decide +kernel
theorem dX11_bassOf_71 : decode cX11_bassOf 71 = .ok (.goto (-22), 3) := by decide +kernel
theorem dX11_bassOf_74 : decode cX11_bassOf 74 = .ok (.iload 4, 2) := by decide +kernel
theorem dX11_bassOf_76 : decode cX11_bassOf 76 = .ok (.ifCond .ge 26, 3) := by decide +kernel
theorem dX11_bassOf_79 : decode cX11_bassOf 79 = .ok (.iload_n 3, 1) := by decide +kernel
theorem dX11_bassOf_80 : decode cX11_bassOf 80 = .ok (.istore 4, 2) := by decide +kernel
theorem dX11_bassOf_82 : decode cX11_bassOf 82 = .ok (.aload_n 0, 1) := by decide +kernel
theorem dX11_bassOf_83 : decode cX11_bassOf 83 = .ok (.getfield 9, 3) := by decide +kernel
theorem dX11_bassOf_86 : decode cX11_bassOf 86 = .ok (.iconst 1, 1) := by decide +kernel
theorem dX11_bassOf_87 : decode cX11_bassOf 87 = .ok (.iaload, 1) := by decide +kernel
theorem dX11_bassOf_88 : decode cX11_bassOf 88 = .ok (.iload 4, 2) := by decide +kernel
theorem dX11_bassOf_90 : decode cX11_bassOf 90 = .ok (.ishr, 1) := by decide +kernel
theorem dX11_bassOf_91 : decode cX11_bassOf 91 = .ok (.iconst 1, 1) := by decide +kernel
theorem dX11_bassOf_92 : decode cX11_bassOf 92 = .ok (.iand, 1) := by decide +kernel
theorem dX11_bassOf_93 : decode cX11_bassOf 93 = .ok (.ifCond .ne 9, 3) := by decide +kernel
theorem dX11_bassOf_96 : decode cX11_bassOf 96 = .ok (.iinc 4 1, 3) := by decide +kernel
theorem dX11_bassOf_99 : decode cX11_bassOf 99 = .ok (.goto (-17), 3) := by decide +kernel
theorem dX11_bassOf_102 : decode cX11_bassOf 102 = .ok (.iload 4, 2) := by decide +kernel
theorem dX11_bassOf_104 : decode cX11_bassOf 104 = .ok (.ireturn, 1) := by decide +kernel
set_option maxRecDepth 20000 in
theorem ggX11_isRun_X11_isNote : GoodIn wsX11_isRun wsX11_isNote := goodIn_r _ [5, 6, 7, 8, 4, 9, 10, 11, 12, 13, 14, 15, 16, 17, 18, 19, 20, 21, 22, 23, 24, 25, 26, 27, 28] (by decide +kernel) (by decide +kernel)
set_option maxRecDepth 20000 in
theorem gX11_isRun_X11_isNote : GoodIn wsX11_isRun (wsV RX11 76 RX11 yX11_isNote wsX11_isNote) := goodIn_app (goodIn_of _ (by decide +kernel)) ggX11_isRun_X11_isNote
set_option maxRecDepth 20000 in
theorem ggX11_isRun_X11_within : GoodIn wsX11_isRun wsX11_within := goodIn_r _ [9] (by decide +kernel) (by decide +kernel)
set_option maxRecDepth 20000 in
theorem gX11_isRun_X11_within : GoodIn wsX11_isRun (va_wsS RX11 54 yX11_within wsX11_within) := goodIn_app (goodIn_of _ (by decide +kernel)) ggX11_isRun_X11_within
theorem dX11_isRun_0 : decode cX11_isRun 0 = .ok (.aload_n 0, 1) := by decide +kernel
theorem dX11_isRun_1 : decode cX11_isRun 1 = .ok (.iload_n 1, 1) := by decide +kernel
theorem dX11_isRun_2 : decode cX11_isRun 2 = .ok (.invokevirtual 76, 3) := by decide +kernel
theorem dX11_isRun_5 : decode cX11_isRun 5 = .ok (.ifCond .eq 29, 3) := by decide +kernel
theorem dX11_isRun_8 : decode cX11_isRun 8 = .ok (.aload_n 0, 1) := by decide +kernel
theorem dX11_isRun_9 : decode cX11_isRun 9 = .ok (.iload_n 2, 1) := by decide +kernel
theorem dX11_isRun_10 : decode cX11_isRun 10 = .ok (.invokevirtual 76, 3) := by decide +kernel
theorem dX11_isRun_13 : decode cX11_isRun 13 = .ok (.ifCond .eq 21, 3) := by decide +kernel
theorem dX11_isRun_16 : decode cX11_isRun 16 = .ok (.iload_n 1, 1) := by decide +kernel
theorem dX11_isRun_17 : decode cX11_isRun 17 = .ok (.iload_n 2, 1) := by decide +kernel
theorem dX11_isRun_18 : decode cX11_isRun 18 = .ok (.if_icmp .gt 16, 3) := by decide +kernel
theorem dX11_isRun_21 : decode cX11_isRun 21 = .ok (.iload_n 3, 1) := by decide +kernel
theorem dX11_isRun_22 : decode cX11_isRun 22 = .ok (.iconst 0, 1) := by decide +kernel
theorem dX11_isRun_23 : decode cX11_isRun 23 = .ok (.iconst 2, 1) := by decide +kernel
theorem dX11_isRun_24 : decode cX11_isRun 24 = .ok (.invokestatic 54, 3) := by decide +kernel
theorem dX11_isRun_27 : decode cX11_isRun 27 = .ok (.ifCond .eq 7, 3) := by decide +kernel
theorem dX11_isRun_30 : decode cX11_isRun 30 = .ok (.iconst 1, 1) := by decide +kernel
theorem dX11_isRun_31 : decode cX11_isRun 31 = .ok (.goto 4, 3) := by decide +kernel
theorem dX11_isRun_34 : decode cX11_isRun 34 = .ok (.iconst 0, 1) := by decide +kernel
theorem dX11_isRun_35 : decode cX11_isRun 35 = .ok (.ireturn, 1) := by decide +kernel
set_option maxRecDepth 20000 in
theorem ggX11_split_X11_isRun : GoodIn wsX11_split wsX11_isRun := goodIn_r _ [8, 9, 10, 11, 7, 12, 2, 13, 14, 15, 25, 26, 27, 28, 29, 30, 31, 32, 33, 34, 35, 36, 37, 38, 39, 40, 41, 42, 43] (by decide +kernel) (by decide +kernel)
set_option maxRecDepth 20000 in
theorem gX11_split_X11_isRun : GoodIn wsX11_split (wsV RX11 154 RX11 yX11_isRun wsX11_isRun) := goodIn_app (goodIn_of _ (by decide +kernel)) ggX11_split_X11_isRun
set_option maxRecDepth 20000 in
theorem ggX11_split_X11_within : GoodIn wsX11_split wsX11_within := goodIn_r _ [15] (by decide +kernel) (by decide +kernel)
set_option maxRecDepth 20000 in
theorem gX11_split_X11_within : GoodIn wsX11_split (va_wsS RX11 54 yX11_within wsX11_within) := goodIn_app (goodIn_of _ (by decide +kernel)) ggX11_split_X11_within
set_option maxRecDepth 20000 in
theorem ggX11_split_X11_finding : GoodIn wsX11_split wsX11_finding := goodIn_r _ [19, 20, 25, 26, 27, 28, 29, 30, 31, 32, 33, 34, 35, 36, 37, 38, 39, 40, 41, 42, 43] (by decide +kernel) (by decide +kernel)
set_option maxRecDepth 20000 in
theorem gX11_split_X11_finding : GoodIn wsX11_split (wsV RX11 62 RX11 yX11_finding wsX11_finding) := goodIn_app (goodIn_of _ (by decide +kernel)) ggX11_split_X11_finding
set_option maxRecDepth 20000 in
theorem ggX11_split_X11_bassOf : GoodIn wsX11_split wsX11_bassOf := goodIn_r _ [24, 2, 25, 26, 27, 28, 29, 30, 31, 32, 33, 34, 35, 36, 37, 38, 39, 40, 41, 42, 43] (by decide +kernel) (by decide +kernel)
set_option maxRecDepth 20000 in
theorem gX11_split_X11_bassOf : GoodIn wsX11_split (wsV RX11 157 RX11 yX11_bassOf wsX11_bassOf) := goodIn_app (goodIn_of _ (by decide +kernel)) ggX11_split_X11_bassOf
theorem dX11_split_0 : decode cX11_split 0 = .ok (.aload_n 0, 1) := by decide +kernel
theorem dX11_split_1 : decode cX11_split 1 = .ok (.iload_n 1, 1) := by decide +kernel
theorem dX11_split_2 : decode cX11_split 2 = .ok (.iload_n 2, 1) := by decide +kernel
theorem dX11_split_3 : decode cX11_split 3 = .ok (.iload_n 3, 1) := by decide +kernel
theorem dX11_split_4 : decode cX11_split 4 = .ok (.invokevirtual 154, 3) := by decide +kernel
theorem dX11_split_7 : decode cX11_split 7 = .ok (.ifCond .eq 13, 3) := by decide +kernel
theorem dX11_split_10 : decode cX11_split 10 = .ok (.iload 4, 2) := by decide +kernel
theorem dX11_split_12 : decode cX11_split 12 = .ok (.iload_n 1, 1) := by decide +kernel
theorem dX11_split_13 : decode cX11_split 13 = .ok (.iload_n 2, 1) := by decide +kernel
theorem dX11_split_14 : decode cX11_split 14 = .ok (.invokestatic 54, 3) := by decide +kernel
theorem dX11_split_17 : decode cX11_split 17 = .ok (.ifCond .ne 10, 3) := by decide +kernel
theorem dX11_split_20 : decode cX11_split 20 = .ok (.aload_n 0, 1) := by decide +kernel
theorem dX11_split_21 : decode cX11_split 21 = .ok (.ldc 70, 2) := by decide +kernel
theorem dX11_split_23 : decode cX11_split 23 = .ok (.invokevirtual 62, 3) := by decide +kernel
theorem dX11_split_26 : decode cX11_split 26 = .ok (.ireturn, 1) := by decide +kernel
theorem dX11_split_27 : decode cX11_split 27 = .ok (.aload_n 0, 1) := by decide +kernel
theorem dX11_split_28 : decode cX11_split 28 = .ok (.getfield 9, 3) := by decide +kernel
theorem dX11_split_31 : decode cX11_split 31 = .ok (.iconst 1, 1) := by decide +kernel
theorem dX11_split_32 : decode cX11_split 32 = .ok (.iaload, 1) := by decide +kernel
theorem dX11_split_33 : decode cX11_split 33 = .ok (.ifCond .ne 12, 3) := by decide +kernel
theorem dX11_split_36 : decode cX11_split 36 = .ok (.aload_n 0, 1) := by decide +kernel
theorem dX11_split_37 : decode cX11_split 37 = .ok (.ldc 61, 2) := by decide +kernel
theorem dX11_split_39 : decode cX11_split 39 = .ok (.invokevirtual 62, 3) := by decide +kernel
theorem dX11_split_42 : decode cX11_split 42 = .ok (.goto 12, 3) := by decide +kernel
theorem dX11_split_45 : decode cX11_split 45 = .ok (.aload_n 0, 1) := by decide +kernel
theorem dX11_split_46 : decode cX11_split 46 = .ok (.iload_n 3, 1) := by decide +kernel
theorem dX11_split_47 : decode cX11_split 47 = .ok (.iload 4, 2) := by decide +kernel
theorem dX11_split_49 : decode cX11_split 49 = .ok (.iload_n 1, 1) := by decide +kernel
theorem dX11_split_50 : decode cX11_split 50 = .ok (.isub, 1) := by decide +kernel
theorem dX11_split_51 : decode cX11_split 51 = .ok (.invokevirtual 157, 3) := by decide +kernel
theorem dX11_split_54 : decode cX11_split 54 = .ok (.ireturn, 1) := by decide +kernel
set_option maxRecDepth 20000 in
theorem ggX11_has_X11_isRun : GoodIn wsX11_has wsX11_isRun := goodIn_r _ [8, 9, 10, 11, 7, 12, 2, 13, 14, 15, 25, 26, 27, 28, 29, 30, 31, 32, 33, 34, 35, 36, 37, 38, 39, 40, 41, 42, 43] (by decide +kernel) (by decide +kernel)
set_option maxRecDepth 20000 in
theorem gX11_has_X11_isRun : GoodIn wsX11_has (wsV RX11 154 RX11 yX11_isRun wsX11_isRun) := goodIn_app (goodIn_of _ (by decide +kernel)) ggX11_has_X11_isRun
set_option maxRecDepth 20000 in
theorem ggX11_has_X11_within : GoodIn wsX11_has wsX11_within := goodIn_r _ [15] (by decide +kernel) (by decide +kernel)
set_option maxRecDepth 20000 in
theorem gX11_has_X11_within : GoodIn wsX11_has (va_wsS RX11 54 yX11_within wsX11_within) := goodIn_app (goodIn_of _ (by decide +kernel)) ggX11_has_X11_within
set_option maxRecDepth 20000 in
theorem ggX11_has_X11_finding : GoodIn wsX11_has wsX11_finding := goodIn_r _ [19, 20, 25, 26, 27, 28, 29, 30, 31, 32, 33, 34, 35, 36, 37, 38, 39, 40, 41, 42, 43] (by decide +kernel) (by decide +kernel)
set_option maxRecDepth 20000 in
theorem gX11_has_X11_finding : GoodIn wsX11_has (wsV RX11 62 RX11 yX11_finding wsX11_finding) := goodIn_app (goodIn_of _ (by decide +kernel)) ggX11_has_X11_finding
set_option maxRecDepth 20000 in
theorem ggX11_has_X11_bassOf : GoodIn wsX11_has wsX11_bassOf := goodIn_r _ [24, 2, 25, 26, 27, 28, 29, 30, 31, 32, 33, 34, 35, 36, 37, 38, 39, 40, 41, 42, 43] (by decide +kernel) (by decide +kernel)
set_option maxRecDepth 20000 in
theorem gX11_has_X11_bassOf : GoodIn wsX11_has (wsV RX11 157 RX11 yX11_bassOf wsX11_bassOf) := goodIn_app (goodIn_of _ (by decide +kernel)) ggX11_has_X11_bassOf
theorem dX11_has_0 : decode cX11_has 0 = .ok (.aload_n 0, 1) := by decide +kernel
theorem dX11_has_1 : decode cX11_has 1 = .ok (.iload_n 1, 1) := by decide +kernel
theorem dX11_has_2 : decode cX11_has 2 = .ok (.iload_n 2, 1) := by decide +kernel
theorem dX11_has_3 : decode cX11_has 3 = .ok (.iload_n 3, 1) := by decide +kernel
theorem dX11_has_4 : decode cX11_has 4 = .ok (.invokevirtual 154, 3) := by decide +kernel
theorem dX11_has_7 : decode cX11_has 7 = .ok (.ifCond .eq 13, 3) := by decide +kernel
theorem dX11_has_10 : decode cX11_has 10 = .ok (.iload 4, 2) := by decide +kernel
theorem dX11_has_12 : decode cX11_has 12 = .ok (.iconst 0, 1) := by decide +kernel
theorem dX11_has_13 : decode cX11_has 13 = .ok (.iconst 4, 1) := by decide +kernel
theorem dX11_has_14 : decode cX11_has 14 = .ok (.invokestatic 54, 3) := by decide +kernel
theorem dX11_has_17 : decode cX11_has 17 = .ok (.ifCond .ne 10, 3) := by decide +kernel
theorem dX11_has_20 : decode cX11_has 20 = .ok (.aload_n 0, 1) := by decide +kernel
theorem dX11_has_21 : decode cX11_has 21 = .ok (.ldc 70, 2) := by decide +kernel
theorem dX11_has_23 : decode cX11_has 23 = .ok (.invokevirtual 62, 3) := by decide +kernel
theorem dX11_has_26 : decode cX11_has 26 = .ok (.ireturn, 1) := by decide +kernel
theorem dX11_has_27 : decode cX11_has 27 = .ok (.aload_n 0, 1) := by decide +kernel
theorem dX11_has_28 : decode cX11_has 28 = .ok (.getfield 9, 3) := by decide +kernel
theorem dX11_has_31 : decode cX11_has 31 = .ok (.iconst 1, 1) := by decide +kernel
theorem dX11_has_32 : decode cX11_has 32 = .ok (.iaload, 1) := by decide +kernel
theorem dX11_has_33 : decode cX11_has 33 = .ok (.ifCond .ne 10, 3) := by decide +kernel
theorem dX11_has_36 : decode cX11_has 36 = .ok (.aload_n 0, 1) := by decide +kernel
theorem dX11_has_37 : decode cX11_has 37 = .ok (.ldc 61, 2) := by decide +kernel
theorem dX11_has_39 : decode cX11_has 39 = .ok (.invokevirtual 62, 3) := by decide +kernel
theorem dX11_has_42 : decode cX11_has 42 = .ok (.ireturn, 1) := by decide +kernel
theorem dX11_has_43 : decode cX11_has 43 = .ok (.iconst 0, 1) := by decide +kernel
theorem dX11_has_44 : decode cX11_has 44 = .ok (.istore 5, 2) := by decide +kernel
theorem dX11_has_46 : decode cX11_has 46 = .ok (.iconst 0, 1) := by decide +kernel
theorem dX11_has_47 : decode cX11_has 47 = .ok (.istore 6, 2) := by decide +kernel
theorem dX11_has_49 : decode cX11_has 49 = .ok (.iload 6, 2) := by decide +kernel
theorem dX11_has_51 : decode cX11_has 51 = .ok (.iload_n 2, 1) := by decide +kernel
theorem dX11_has_52 : decode cX11_has 52 = .ok (.iload_n 1, 1) := by decide +kernel
theorem dX11_has_53 : decode cX11_has 53 = .ok (.isub, 1) := by decide +kernel
theorem dX11_has_54 : decode cX11_has 54 = .ok (.if_icmp .gt 31, 3) := by decide +kernel
theorem dX11_has_57 : decode cX11_has 57 = .ok (.iload 5, 2) := by decide +kernel
theorem dX11_has_59 : decode cX11_has 59 = .ok (.aload_n 0, 1) := by decide +kernel
theorem dX11_has_60 : decode cX11_has 60 = .ok (.iload_n 3, 1) := by decide +kernel
theorem dX11_has_61 : decode cX11_has 61 = .ok (.iload 6, 2) := by decide +kernel
theorem dX11_has_63 : decode cX11_has 63 = .ok (.invokevirtual 157, 3) := by decide +kernel
theorem dX11_has_66 : decode cX11_has 66 = .ok (.iload 4, 2) := by decide +kernel
theorem dX11_has_68 : decode cX11_has 68 = .ok (.if_icmp .ne 7, 3) := by decide +kernel
theorem dX11_has_71 : decode cX11_has 71 = .ok (.iconst 1, 1) := by decide +kernel
theorem dX11_has_72 : decode cX11_has 72 = .ok (.goto 4, 3) := by decide +kernel
theorem dX11_has_75 : decode cX11_has 75 = .ok (.iconst 0, 1) := by decide +kernel
theorem dX11_has_76 : decode cX11_has 76 = .ok (.iadd, 1) := by decide +kernel
theorem dX11_has_77 : decode cX11_has 77 = .ok (.istore 5, 2) := by decide +kernel
theorem dX11_has_79 : decode cX11_has 79 = .ok (.iinc 6 1, 3) := by decide +kernel
theorem dX11_has_82 : decode cX11_has 82 = .ok (.goto (-33), 3) := by decide +kernel
theorem dX11_has_85 : decode cX11_has 85 = .ok (.iload 5, 2) := by decide +kernel
theorem dX11_has_87 : decode cX11_has 87 = .ok (.ireturn, 1) := by decide +kernel
set_option maxRecDepth 20000 in
theorem ggX11_tooFast_X11_bassOf : GoodIn wsX11_tooFast wsX11_bassOf := goodIn_r _ [6, 1, 7, 8, 9, 10, 11, 12, 13, 14, 15, 16, 17, 18, 19, 20, 21, 22, 23, 24, 25] (by decide +kernel) (by decide +kernel)
set_option maxRecDepth 20000 in
theorem gX11_tooFast_X11_bassOf : GoodIn wsX11_tooFast (wsV RX11 157 RX11 yX11_bassOf wsX11_bassOf) := goodIn_app (goodIn_of _ (by decide +kernel)) ggX11_tooFast_X11_bassOf
theorem dX11_tooFast_0 : decode cX11_tooFast 0 = .ok (.iconst 0, 1) := by decide +kernel
theorem dX11_tooFast_1 : decode cX11_tooFast 1 = .ok (.istore 4, 2) := by decide +kernel
theorem dX11_tooFast_3 : decode cX11_tooFast 3 = .ok (.iload_n 1, 1) := by decide +kernel
theorem dX11_tooFast_4 : decode cX11_tooFast 4 = .ok (.istore 5, 2) := by decide +kernel
theorem dX11_tooFast_6 : decode cX11_tooFast 6 = .ok (.iload 5, 2) := by decide +kernel
theorem dX11_tooFast_8 : decode cX11_tooFast 8 = .ok (.iload_n 2, 1) := by decide +kernel
theorem dX11_tooFast_9 : decode cX11_tooFast 9 = .ok (.if_icmp .gt 100, 3) := by decide +kernel
theorem dX11_tooFast_12 : decode cX11_tooFast 12 = .ok (.aload_n 0, 1) := by decide +kernel
theorem dX11_tooFast_13 : decode cX11_tooFast 13 = .ok (.iload_n 3, 1) := by decide +kernel
theorem dX11_tooFast_14 : decode cX11_tooFast 14 = .ok (.iload 5, 2) := by decide +kernel
theorem dX11_tooFast_16 : decode cX11_tooFast 16 = .ok (.iload_n 1, 1) := by decide +kernel
theorem dX11_tooFast_17 : decode cX11_tooFast 17 = .ok (.isub, 1) := by decide +kernel
theorem dX11_tooFast_18 : decode cX11_tooFast 18 = .ok (.invokevirtual 157, 3) := by decide +kernel
theorem dX11_tooFast_21 : decode cX11_tooFast 21 = .ok (.istore 6, 2) := by decide +kernel
theorem dX11_tooFast_23 : decode cX11_tooFast 23 = .ok (.iload 5, 2) := by decide +kernel
theorem dX11_tooFast_25 : decode cX11_tooFast 25 = .ok (.iconst 1, 1) := by decide +kernel
theorem dX11_tooFast_26 : decode cX11_tooFast 26 = .ok (.isub, 1) := by decide +kernel
theorem dX11_tooFast_27 : decode cX11_tooFast 27 = .ok (.istore 7, 2) := by decide +kernel
theorem dX11_tooFast_29 : decode cX11_tooFast 29 = .ok (.iload 7, 2) := by decide +kernel
theorem dX11_tooFast_31 : decode cX11_tooFast 31 = .ok (.iload_n 1, 1) := by decide +kernel
theorem dX11_tooFast_32 : decode cX11_tooFast 32 = .ok (.if_icmp .lt 23, 3) := by decide +kernel
theorem dX11_tooFast_35 : decode cX11_tooFast 35 = .ok (.aload_n 0, 1) := by decide +kernel
theorem dX11_tooFast_36 : decode cX11_tooFast 36 = .ok (.iload_n 3, 1) := by decide +kernel
theorem dX11_tooFast_37 : decode cX11_tooFast 37 = .ok (.iload 7, 2) := by decide +kernel
theorem dX11_tooFast_39 : decode cX11_tooFast 39 = .ok (.iload_n 1, 1) := by decide +kernel
theorem dX11_tooFast_40 : decode cX11_tooFast 40 = .ok (.isub, 1) := by decide +kernel
theorem dX11_tooFast_41 : decode cX11_tooFast 41 = .ok (.invokevirtual 157, 3) := by decide +kernel
theorem dX11_tooFast_44 : decode cX11_tooFast 44 = .ok (.iload 6, 2) := by decide +kernel
theorem dX11_tooFast_46 : decode cX11_tooFast 46 = .ok (.if_icmp .eq 9, 3) := by decide +kernel
theorem dX11_tooFast_49 : decode cX11_tooFast 49 = .ok (.iinc 7 (-1), 3) := by decide +kernel
theorem dX11_tooFast_52 : decode cX11_tooFast 52 = .ok (.goto (-23), 3) := by decide +kernel
theorem dX11_tooFast_55 : decode cX11_tooFast 55 = .ok (.iload 4, 2) := by decide +kernel
theorem dX11_tooFast_57 : decode cX11_tooFast 57 = .ok (.iload 7, 2) := by decide +kernel
theorem dX11_tooFast_59 : decode cX11_tooFast 59 = .ok (.iload_n 1, 1) := by decide +kernel
theorem dX11_tooFast_60 : decode cX11_tooFast 60 = .ok (.if_icmp .lt 39, 3) := by decide +kernel
theorem dX11_tooFast_63 : decode cX11_tooFast 63 = .ok (.aload_n 0, 1) := by decide +kernel
theorem dX11_tooFast_64 : decode cX11_tooFast 64 = .ok (.getfield 9, 3) := by decide +kernel
theorem dX11_tooFast_67 : decode cX11_tooFast 67 = .ok (.bipush 27, 2) := by decide +kernel
theorem dX11_tooFast_69 : decode cX11_tooFast 69 = .ok (.iload 5, 2) := by decide +kernel
theorem dX11_tooFast_71 : decode cX11_tooFast 71 = .ok (.iadd, 1) := by decide +kernel
theorem dX11_tooFast_72 : decode cX11_tooFast 72 = .ok (.iaload, 1) := by decide +kernel
theorem dX11_tooFast_73 : decode cX11_tooFast 73 = .ok (.aload_n 0, 1) := by decide +kernel
theorem dX11_tooFast_74 : decode cX11_tooFast 74 = .ok (.getfield 9, 3) := by decide +kernel
theorem dX11_tooFast_77 : decode cX11_tooFast 77 = .ok (.bipush 27, 2) := by decide +kernel
theorem dX11_tooFast_79 : decode cX11_tooFast 79 = .ok (.iload 7, 2) := by decide +kernel
theorem dX11_tooFast_81 : decode cX11_tooFast 81 = .ok (.iadd, 1) := by decide +kernel
theorem dX11_tooFast_82 : decode cX11_tooFast 82 = .ok (.iaload, 1) := by decide +kernel
theorem dX11_tooFast_83 : decode cX11_tooFast 83 = .ok (.isub, 1) := by decide +kernel
theorem dX11_tooFast_84 : decode cX11_tooFast 84 = .ok (.iconst 2, 1) := by decide +kernel
theorem dX11_tooFast_85 : decode cX11_tooFast 85 = .ok (.aload_n 0, 1) := by decide +kernel
theorem dX11_tooFast_86 : decode cX11_tooFast 86 = .ok (.getfield 9, 3) := by decide +kernel
theorem dX11_tooFast_89 : decode cX11_tooFast 89 = .ok (.iconst 2, 1) := by decide +kernel
theorem dX11_tooFast_90 : decode cX11_tooFast 90 = .ok (.iaload, 1) := by decide +kernel
theorem dX11_tooFast_91 : decode cX11_tooFast 91 = .ok (.imul, 1) := by decide +kernel
theorem dX11_tooFast_92 : decode cX11_tooFast 92 = .ok (.if_icmp .ge 7, 3) := by decide +kernel
theorem dX11_tooFast_95 : decode cX11_tooFast 95 = .ok (.iconst 1, 1) := by decide +kernel
theorem dX11_tooFast_96 : decode cX11_tooFast 96 = .ok (.goto 4, 3) := by decide +kernel
theorem dX11_tooFast_99 : decode cX11_tooFast 99 = .ok (.iconst 0, 1) := by decide +kernel
theorem dX11_tooFast_100 : decode cX11_tooFast 100 = .ok (.iadd, 1) := by decide +kernel
theorem dX11_tooFast_101 : decode cX11_tooFast 101 = .ok (.istore 4, 2) := by decide +kernel
theorem dX11_tooFast_103 : decode cX11_tooFast 103 = .ok (.iinc 5 1, 3) := by decide +kernel
theorem dX11_tooFast_106 : decode cX11_tooFast 106 = .ok (.goto (-100), 3) := by decide +kernel
theorem dX11_tooFast_109 : decode cX11_tooFast 109 = .ok (.iload 4, 2) := by decide +kernel
theorem dX11_tooFast_111 : decode cX11_tooFast 111 = .ok (.ireturn, 1) := by decide +kernel
set_option maxRecDepth 20000 in
theorem ggX11_fast_X11_isRun : GoodIn wsX11_fast wsX11_isRun := goodIn_r _ [8, 9, 10, 11, 7, 12, 2, 13, 14, 15, 29, 30, 31, 32, 33, 34, 35, 36, 37, 38, 39, 40, 41, 42, 43, 44, 45, 46, 47] (by decide +kernel) (by decide +kernel)
set_option maxRecDepth 20000 in
theorem gX11_fast_X11_isRun : GoodIn wsX11_fast (wsV RX11 154 RX11 yX11_isRun wsX11_isRun) := goodIn_app (goodIn_of _ (by decide +kernel)) ggX11_fast_X11_isRun
set_option maxRecDepth 20000 in
theorem ggX11_fast_X11_finding : GoodIn wsX11_fast wsX11_finding := goodIn_r _ [19, 20, 29, 30, 31, 32, 33, 34, 35, 36, 37, 38, 39, 40, 41, 42, 43, 44, 45, 46, 47] (by decide +kernel) (by decide +kernel)
set_option maxRecDepth 20000 in
theorem gX11_fast_X11_finding : GoodIn wsX11_fast (wsV RX11 62 RX11 yX11_finding wsX11_finding) := goodIn_app (goodIn_of _ (by decide +kernel)) ggX11_fast_X11_finding
set_option maxRecDepth 20000 in
theorem ggX11_fast_X11_tooFast : GoodIn wsX11_fast wsX11_tooFast := goodIn_r _ [24, 2, 25, 26, 27, 7, 28, 29, 30, 31, 32, 33, 34, 35, 36, 37, 38, 39, 40, 41, 42, 43, 44, 45, 46, 47] (by decide +kernel) (by decide +kernel)
set_option maxRecDepth 20000 in
theorem gX11_fast_X11_tooFast : GoodIn wsX11_fast (wsV RX11 160 RX11 yX11_tooFast wsX11_tooFast) := goodIn_app (goodIn_of _ (by decide +kernel)) ggX11_fast_X11_tooFast
theorem dX11_fast_0 : decode cX11_fast 0 = .ok (.aload_n 0, 1) := by decide +kernel
theorem dX11_fast_1 : decode cX11_fast 1 = .ok (.iload_n 1, 1) := by decide +kernel
