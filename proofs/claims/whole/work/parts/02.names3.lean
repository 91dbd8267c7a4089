theorem dX5_keepPlace_8 : decode cX5_keepPlace 8 = .ok (.iload_n 1, 1) := by decide +kernel
theorem dX5_keepPlace_9 : decode cX5_keepPlace 9 = .ok (.iastore, 1) := by decide +kernel
theorem dX5_keepPlace_10 : decode cX5_keepPlace 10 = .ok (.aload_n 0, 1) := by decide +kernel
theorem dX5_keepPlace_11 : decode cX5_keepPlace 11 = .ok (.getfield 28, 3) := by decide +kernel
theorem dX5_keepPlace_14 : decode cX5_keepPlace 14 = .ok (.aload_n 0, 1) := by decide +kernel
theorem dX5_keepPlace_15 : decode cX5_keepPlace 15 = .ok (.getfield 34, 3) := by decide +kernel
theorem dX5_keepPlace_18 : decode cX5_keepPlace 18 = .ok (.iload_n 2, 1) := by decide +kernel
theorem dX5_keepPlace_19 : decode cX5_keepPlace 19 = .ok (.iastore, 1) := by decide +kernel
theorem dX5_keepPlace_20 : decode cX5_keepPlace 20 = .ok (.return_, 1) := by decide +kernel
set_option maxRecDepth 20000 in
theorem ggX5_keepHits_X9_tickAt : GoodIn wsX5_keepHits wsX9_tickAt := goodIn_r _ [8, 9, 10, 11] (by decide +kernel) (by decide +kernel)
set_option maxRecDepth 20000 in
theorem gX5_keepHits_X9_tickAt : GoodIn wsX5_keepHits (wsV RX5 48 RX9 yX9_tickAt wsX9_tickAt) := goodIn_app (goodIn_of _ (by decide +kernel)) ggX5_keepHits_X9_tickAt
theorem dX5_keepHits_0 : decode cX5_keepHits 0 = .ok (.iconst 0, 1) := by decide +kernel
theorem dX5_keepHits_1 : decode cX5_keepHits 1 = .ok (.istore_n 3, 1) := by decide +kernel
theorem dX5_keepHits_2 : decode cX5_keepHits 2 = .ok (.iload_n 3, 1) := by decide +kernel
theorem dX5_keepHits_3 : decode cX5_keepHits 3 = .ok (.aload_n 1, 1) := by decide +kernel
theorem dX5_keepHits_4 : decode cX5_keepHits 4 = .ok (.getfield 43, 3) := by decide +kernel
theorem dX5_keepHits_7 : decode cX5_keepHits 7 = .ok (.iload_n 2, 1) := by decide +kernel
theorem dX5_keepHits_8 : decode cX5_keepHits 8 = .ok (.iaload, 1) := by decide +kernel
theorem dX5_keepHits_9 : decode cX5_keepHits 9 = .ok (.if_icmp .ge 29, 3) := by decide +kernel
theorem dX5_keepHits_12 : decode cX5_keepHits 12 = .ok (.aload_n 0, 1) := by decide +kernel
theorem dX5_keepHits_13 : decode cX5_keepHits 13 = .ok (.getfield 31, 3) := by decide +kernel
theorem dX5_keepHits_16 : decode cX5_keepHits 16 = .ok (.aload_n 0, 1) := by decide +kernel
theorem dX5_keepHits_17 : decode cX5_keepHits 17 = .ok (.getfield 34, 3) := by decide +kernel
theorem dX5_keepHits_20 : decode cX5_keepHits 20 = .ok (.bipush 24, 2) := by decide +kernel
theorem dX5_keepHits_22 : decode cX5_keepHits 22 = .ok (.imul, 1) := by decide +kernel
theorem dX5_keepHits_23 : decode cX5_keepHits 23 = .ok (.iload_n 3, 1) := by decide +kernel
theorem dX5_keepHits_24 : decode cX5_keepHits 24 = .ok (.iadd, 1) := by decide +kernel
theorem dX5_keepHits_25 : decode cX5_keepHits 25 = .ok (.aload_n 1, 1) := by decide +kernel
theorem dX5_keepHits_26 : decode cX5_keepHits 26 = .ok (.iload_n 2, 1) := by decide +kernel
theorem dX5_keepHits_27 : decode cX5_keepHits 27 = .ok (.iload_n 3, 1) := by decide +kernel
theorem dX5_keepHits_28 : decode cX5_keepHits 28 = .ok (.invokevirtual 48, 3) := by decide +kernel
theorem dX5_keepHits_31 : decode cX5_keepHits 31 = .ok (.iastore, 1) := by decide +kernel
theorem dX5_keepHits_32 : decode cX5_keepHits 32 = .ok (.iinc 3 1, 3) := by decide +kernel
theorem dX5_keepHits_35 : decode cX5_keepHits 35 = .ok (.goto (-33), 3) := by decide +kernel
theorem dX5_keepHits_38 : decode cX5_keepHits 38 = .ok (.return_, 1) := by decide +kernel
theorem dX5_act_0 : decode cX5_act 0 = .ok (.aload_n 0, 1) := by decide +kernel
theorem dX5_act_1 : decode cX5_act 1 = .ok (.getfield 15, 3) := by decide +kernel
theorem dX5_act_4 : decode cX5_act 4 = .ok (.aload_n 0, 1) := by decide +kernel
theorem dX5_act_5 : decode cX5_act 5 = .ok (.getfield 34, 3) := by decide +kernel
theorem dX5_act_8 : decode cX5_act 8 = .ok (.iaload, 1) := by decide +kernel
theorem dX5_act_9 : decode cX5_act 9 = .ok (.ireturn, 1) := by decide +kernel
theorem dX5_first_0 : decode cX5_first 0 = .ok (.aload_n 0, 1) := by decide +kernel
theorem dX5_first_1 : decode cX5_first 1 = .ok (.getfield 19, 3) := by decide +kernel
theorem dX5_first_4 : decode cX5_first 4 = .ok (.aload_n 0, 1) := by decide +kernel
theorem dX5_first_5 : decode cX5_first 5 = .ok (.getfield 34, 3) := by decide +kernel
theorem dX5_first_8 : decode cX5_first 8 = .ok (.iaload, 1) := by decide +kernel
theorem dX5_first_9 : decode cX5_first 9 = .ok (.ireturn, 1) := by decide +kernel
theorem dX5_second_0 : decode cX5_second 0 = .ok (.aload_n 0, 1) := by decide +kernel
theorem dX5_second_1 : decode cX5_second 1 = .ok (.getfield 22, 3) := by decide +kernel
theorem dX5_second_4 : decode cX5_second 4 = .ok (.aload_n 0, 1) := by decide +kernel
theorem dX5_second_5 : decode cX5_second 5 = .ok (.getfield 34, 3) := by decide +kernel
theorem dX5_second_8 : decode cX5_second 8 = .ok (.iaload, 1) := by decide +kernel
theorem dX5_second_9 : decode cX5_second 9 = .ok (.ireturn, 1) := by decide +kernel
theorem dX5_tick_0 : decode cX5_tick 0 = .ok (.aload_n 0, 1) := by decide +kernel
theorem dX5_tick_1 : decode cX5_tick 1 = .ok (.getfield 25, 3) := by decide +kernel
theorem dX5_tick_4 : decode cX5_tick 4 = .ok (.aload_n 0, 1) := by decide +kernel
theorem dX5_tick_5 : decode cX5_tick 5 = .ok (.getfield 34, 3) := by decide +kernel
theorem dX5_tick_8 : decode cX5_tick 8 = .ok (.iaload, 1) := by decide +kernel
theorem dX5_tick_9 : decode cX5_tick 9 = .ok (.ireturn, 1) := by decide +kernel
theorem dX5_drum_0 : decode cX5_drum 0 = .ok (.aload_n 0, 1) := by decide +kernel
theorem dX5_drum_1 : decode cX5_drum 1 = .ok (.getfield 28, 3) := by decide +kernel
theorem dX5_drum_4 : decode cX5_drum 4 = .ok (.aload_n 0, 1) := by decide +kernel
theorem dX5_drum_5 : decode cX5_drum 5 = .ok (.getfield 34, 3) := by decide +kernel
theorem dX5_drum_8 : decode cX5_drum 8 = .ok (.iaload, 1) := by decide +kernel
theorem dX5_drum_9 : decode cX5_drum 9 = .ok (.ireturn, 1) := by decide +kernel
theorem dX5_hitAt_0 : decode cX5_hitAt 0 = .ok (.aload_n 0, 1) := by decide +kernel
theorem dX5_hitAt_1 : decode cX5_hitAt 1 = .ok (.getfield 31, 3) := by decide +kernel
theorem dX5_hitAt_4 : decode cX5_hitAt 4 = .ok (.aload_n 0, 1) := by decide +kernel
theorem dX5_hitAt_5 : decode cX5_hitAt 5 = .ok (.getfield 34, 3) := by decide +kernel
theorem dX5_hitAt_8 : decode cX5_hitAt 8 = .ok (.bipush 24, 2) := by decide +kernel
theorem dX5_hitAt_10 : decode cX5_hitAt 10 = .ok (.imul, 1) := by decide +kernel
theorem dX5_hitAt_11 : decode cX5_hitAt 11 = .ok (.iload_n 1, 1) := by decide +kernel
theorem dX5_hitAt_12 : decode cX5_hitAt 12 = .ok (.iadd, 1) := by decide +kernel
theorem dX5_hitAt_13 : decode cX5_hitAt 13 = .ok (.iaload, 1) := by decide +kernel
theorem dX5_hitAt_14 : decode cX5_hitAt 14 = .ok (.ireturn, 1) := by decide +kernel
theorem dX5_forgetLatest_0 : decode cX5_forgetLatest 0 = .ok (.aload_n 0, 1) := by decide +kernel
theorem dX5_forgetLatest_1 : decode cX5_forgetLatest 1 = .ok (.getfield 9, 3) := by decide +kernel
theorem dX5_forgetLatest_4 : decode cX5_forgetLatest 4 = .ok (.ifCond .le 29, 3) := by decide +kernel
theorem dX5_forgetLatest_7 : decode cX5_forgetLatest 7 = .ok (.aload_n 0, 1) := by decide +kernel
theorem dX5_forgetLatest_8 : decode cX5_forgetLatest 8 = .ok (.dup, 1) := by decide +kernel
theorem dX5_forgetLatest_9 : decode cX5_forgetLatest 9 = .ok (.getfield 9, 3) := by decide +kernel
theorem dX5_forgetLatest_12 : decode cX5_forgetLatest 12 = .ok (.iconst 1, 1) := by decide +kernel
theorem dX5_forgetLatest_13 : decode cX5_forgetLatest 13 = .ok (.isub, 1) := by decide +kernel
theorem dX5_forgetLatest_14 : decode cX5_forgetLatest 14 = .ok (.putfield 9, 3) := by decide +kernel
theorem dX5_forgetLatest_17 : decode cX5_forgetLatest 17 = .ok (.aload_n 0, 1) := by decide +kernel
theorem dX5_forgetLatest_18 : decode cX5_forgetLatest 18 = .ok (.aload_n 0, 1) := by decide +kernel
theorem dX5_forgetLatest_19 : decode cX5_forgetLatest 19 = .ok (.getfield 34, 3) := by decide +kernel
theorem dX5_forgetLatest_22 : decode cX5_forgetLatest 22 = .ok (.bipush 20, 2) := by decide +kernel
theorem dX5_forgetLatest_24 : decode cX5_forgetLatest 24 = .ok (.iadd, 1) := by decide +kernel
theorem dX5_forgetLatest_25 : decode cX5_forgetLatest 25 = .ok (.iconst 1, 1) := by decide +kernel
theorem dX5_forgetLatest_26 : decode cX5_forgetLatest 26 = .ok (.isub, 1) := by decide +kernel
theorem dX5_forgetLatest_27 : decode cX5_forgetLatest 27 = .ok (.bipush 20, 2) := by decide +kernel
theorem dX5_forgetLatest_29 : decode cX5_forgetLatest 29 = .ok (.irem, 1) := by decide +kernel
theorem dX5_forgetLatest_30 : decode cX5_forgetLatest 30 = .ok (.putfield 34, 3) := by decide +kernel
theorem dX5_forgetLatest_33 : decode cX5_forgetLatest 33 = .ok (.return_, 1) := by decide +kernel
theorem dX6_init_0 : decode cX6_init 0 = .ok (.aload_n 0, 1) := by decide +kernel
theorem dX6_init_1 : decode cX6_init 1 = .ok (.invokespecial 3, 3) := by decide +kernel
theorem dX6_init_4 : decode cX6_init 4 = .ok (.aload_n 0, 1) := by decide +kernel
theorem dX6_init_5 : decode cX6_init 5 = .ok (.bipush 20, 2) := by decide +kernel
theorem dX6_init_7 : decode cX6_init 7 = .ok (.newarray .int, 2) := by decide +kernel
theorem dX6_init_9 : decode cX6_init 9 = .ok (.putfield 9, 3) := by decide +kernel
theorem dX6_init_12 : decode cX6_init 12 = .ok (.aload_n 0, 1) := by decide +kernel
theorem dX6_init_13 : decode cX6_init 13 = .ok (.iconst 0, 1) := by decide +kernel
theorem dX6_init_14 : decode cX6_init 14 = .ok (.putfield 15, 3) := by decide +kernel
theorem dX6_init_17 : decode cX6_init 17 = .ok (.aload_n 0, 1) := by decide +kernel
theorem dX6_init_18 : decode cX6_init 18 = .ok (.sipush 525, 3) := by decide +kernel
theorem dX6_init_21 : decode cX6_init 21 = .ok (.newarray .int, 2) := by decide +kernel
theorem dX6_init_23 : decode cX6_init 23 = .ok (.putfield 19, 3) := by decide +kernel
theorem dX6_init_26 : decode cX6_init 26 = .ok (.aload_n 0, 1) := by decide +kernel
theorem dX6_init_27 : decode cX6_init 27 = .ok (.iconst 0, 1) := by decide +kernel
theorem dX6_init_28 : decode cX6_init 28 = .ok (.putfield 22, 3) := by decide +kernel
theorem dX6_init_31 : decode cX6_init 31 = .ok (.aload_n 0, 1) := by decide +kernel
theorem dX6_init_32 : decode cX6_init 32 = .ok (.aload_n 1, 1) := by decide +kernel
theorem dX6_init_33 : decode cX6_init 33 = .ok (.putfield 25, 3) := by decide +kernel
theorem dX6_init_36 : decode cX6_init 36 = .ok (.aload_n 0, 1) := by decide +kernel
theorem dX6_init_37 : decode cX6_init 37 = .ok (.aload_n 2, 1) := by decide +kernel
theorem dX6_init_38 : decode cX6_init 38 = .ok (.putfield 29, 3) := by decide +kernel
theorem dX6_init_41 : decode cX6_init 41 = .ok (.aload_n 0, 1) := by decide +kernel
theorem dX6_init_42 : decode cX6_init 42 = .ok (.aload_n 3, 1) := by decide +kernel
theorem dX6_init_43 : decode cX6_init 43 = .ok (.putfield 33, 3) := by decide +kernel
theorem dX6_init_46 : decode cX6_init 46 = .ok (.return_, 1) := by decide +kernel
theorem dX6_leastPrice_0 : decode cX6_leastPrice 0 = .ok (.aload_n 0, 1) := by decide +kernel
theorem dX6_leastPrice_1 : decode cX6_leastPrice 1 = .ok (.getfield 19, 3) := by decide +kernel
theorem dX6_leastPrice_4 : decode cX6_leastPrice 4 = .ok (.iconst 0, 1) := by decide +kernel
theorem dX6_leastPrice_5 : decode cX6_leastPrice 5 = .ok (.iaload, 1) := by decide +kernel
theorem dX6_leastPrice_6 : decode cX6_leastPrice 6 = .ok (.ireturn, 1) := by decide +kernel
set_option maxRecDepth 20000 in
theorem ggX6_find_X6_priceFrom : GoodIn wsX6_find wsX6_priceFrom := goodIn_r _ [11, 4, 5, 6, 12, 13, 14, 15, 16, 17, 18, 19, 20, 10, 21, 2, 1, 22, 23, 24, 25, 26, 27, 28, 29, 30, 31, 42, 43, 44, 45, 46, 47, 48, 51, 52, 53, 54, 55, 56, 57, 58, 49, 50] (by decide +kernel) (by decide +kernel)
set_option maxRecDepth 20000 in
theorem gX6_find_X6_priceFrom : GoodIn wsX6_find (wsV RX6 47 RX6 yX6_priceFrom wsX6_priceFrom) := goodIn_app (goodIn_of _ (by decide +kernel)) ggX6_find_X6_priceFrom
set_option maxRecDepth 20000 in
theorem ggX6_find_X6_chooseMatches : GoodIn wsX6_find wsX6_chooseMatches := goodIn_r _ [35, 36, 4, 5, 37, 38, 39, 40, 10, 41, 6, 16, 17, 18, 19, 20, 21, 2, 1, 22, 23, 24, 14, 25, 26, 27, 28, 29, 30, 31, 42, 43, 44, 45, 46, 47, 48, 51, 52, 53, 54, 55, 56, 57, 58, 49, 50] (by decide +kernel) (by decide +kernel)
set_option maxRecDepth 20000 in
theorem gX6_find_X6_chooseMatches : GoodIn wsX6_find (wsV RX6 51 RX6 yX6_chooseMatches wsX6_chooseMatches) := goodIn_app (goodIn_of _ (by decide +kernel)) ggX6_find_X6_chooseMatches
theorem dX6_find_0 : decode cX6_find 0 = .ok (.aload_n 0, 1) := by decide +kernel
theorem dX6_find_1 : decode cX6_find 1 = .ok (.iload_n 1, 1) := by decide +kernel
theorem dX6_find_2 : decode cX6_find 2 = .ok (.putfield 22, 3) := by decide +kernel
theorem dX6_find_5 : decode cX6_find 5 = .ok (.aload_n 0, 1) := by decide +kernel
theorem dX6_find_6 : decode cX6_find 6 = .ok (.getfield 33, 3) := by decide +kernel
theorem dX6_find_9 : decode cX6_find 9 = .ok (.getfield 37, 3) := by decide +kernel
theorem dX6_find_12 : decode cX6_find 12 = .ok (.aload_n 0, 1) := by decide +kernel
theorem dX6_find_13 : decode cX6_find 13 = .ok (.getfield 22, 3) := by decide +kernel
theorem dX6_find_16 : decode cX6_find 16 = .ok (.iaload, 1) := by decide +kernel
theorem dX6_find_17 : decode cX6_find 17 = .ok (.istore_n 2, 1) := by decide +kernel
theorem dX6_find_18 : decode cX6_find 18 = .ok (.aload_n 0, 1) := by decide +kernel
theorem dX6_find_19 : decode cX6_find 19 = .ok (.getfield 25, 3) := by decide +kernel
theorem dX6_find_22 : decode cX6_find 22 = .ok (.getfield 42, 3) := by decide +kernel
theorem dX6_find_25 : decode cX6_find 25 = .ok (.istore_n 3, 1) := by decide +kernel
theorem dX6_find_26 : decode cX6_find 26 = .ok (.iload_n 3, 1) := by decide +kernel
theorem dX6_find_27 : decode cX6_find 27 = .ok (.ifCond .lt 43, 3) := by decide +kernel
theorem dX6_find_30 : decode cX6_find 30 = .ok (.iload_n 2, 1) := by decide +kernel
theorem dX6_find_31 : decode cX6_find 31 = .ok (.istore 4, 2) := by decide +kernel
theorem dX6_find_33 : decode cX6_find 33 = .ok (.iload 4, 2) := by decide +kernel
theorem dX6_find_35 : decode cX6_find 35 = .ok (.ifCond .lt 29, 3) := by decide +kernel
theorem dX6_find_38 : decode cX6_find 38 = .ok (.aload_n 0, 1) := by decide +kernel
theorem dX6_find_39 : decode cX6_find 39 = .ok (.getfield 19, 3) := by decide +kernel
theorem dX6_find_42 : decode cX6_find 42 = .ok (.iload_n 3, 1) := by decide +kernel
theorem dX6_find_43 : decode cX6_find 43 = .ok (.bipush 25, 2) := by decide +kernel
theorem dX6_find_45 : decode cX6_find 45 = .ok (.imul, 1) := by decide +kernel
theorem dX6_find_46 : decode cX6_find 46 = .ok (.iload 4, 2) := by decide +kernel
theorem dX6_find_48 : decode cX6_find 48 = .ok (.iadd, 1) := by decide +kernel
theorem dX6_find_49 : decode cX6_find 49 = .ok (.aload_n 0, 1) := by decide +kernel
theorem dX6_find_50 : decode cX6_find 50 = .ok (.iload_n 3, 1) := by decide +kernel
theorem dX6_find_51 : decode cX6_find 51 = .ok (.iload 4, 2) := by decide +kernel
theorem dX6_find_53 : decode cX6_find 53 = .ok (.iload_n 2, 1) := by decide +kernel
theorem dX6_find_54 : decode cX6_find 54 = .ok (.invokevirtual 47, 3) := by decide +kernel
theorem dX6_find_57 : decode cX6_find 57 = .ok (.iastore, 1) := by decide +kernel
theorem dX6_find_58 : decode cX6_find 58 = .ok (.iinc 4 (-1), 3) := by decide +kernel
theorem dX6_find_61 : decode cX6_find 61 = .ok (.goto (-28), 3) := by decide +kernel
theorem dX6_find_64 : decode cX6_find 64 = .ok (.iinc 3 (-1), 3) := by decide +kernel
theorem dX6_find_67 : decode cX6_find 67 = .ok (.goto (-41), 3) := by decide +kernel
theorem dX6_find_70 : decode cX6_find 70 = .ok (.aload_n 0, 1) := by decide +kernel
theorem dX6_find_71 : decode cX6_find 71 = .ok (.iload_n 2, 1) := by decide +kernel
theorem dX6_find_72 : decode cX6_find 72 = .ok (.invokevirtual 51, 3) := by decide +kernel
theorem dX6_find_75 : decode cX6_find 75 = .ok (.return_, 1) := by decide +kernel
set_option maxRecDepth 20000 in
theorem ggX6_priceFrom_X6_apart : GoodIn wsX6_priceFrom wsX6_apart := goodIn_r _ [14, 15, 16, 1, 17, 18, 19, 6, 20, 21, 22, 23, 24, 25, 26, 27, 28, 29, 30, 31, 32, 33, 34, 35, 36, 37, 38, 39, 40, 42, 43] (by decide +kernel) (by decide +kernel)
set_option maxRecDepth 20000 in
theorem gX6_priceFrom_X6_apart : GoodIn wsX6_priceFrom (wsV RX6 61 RX6 yX6_apart wsX6_apart) := goodIn_app (goodIn_of _ (by decide +kernel)) ggX6_priceFrom_X6_apart
theorem dX6_priceFrom_0 : decode cX6_priceFrom 0 = .ok (.iload_n 1, 1) := by decide +kernel
theorem dX6_priceFrom_1 : decode cX6_priceFrom 1 = .ok (.aload_n 0, 1) := by decide +kernel
theorem dX6_priceFrom_2 : decode cX6_priceFrom 2 = .ok (.getfield 25, 3) := by decide +kernel
theorem dX6_priceFrom_5 : decode cX6_priceFrom 5 = .ok (.getfield 42, 3) := by decide +kernel
theorem dX6_priceFrom_8 : decode cX6_priceFrom 8 = .ok (.if_icmp .ne 10, 3) := by decide +kernel
theorem dX6_priceFrom_11 : decode cX6_priceFrom 11 = .ok (.bipush 40, 2) := by decide +kernel
theorem dX6_priceFrom_13 : decode cX6_priceFrom 13 = .ok (.iload_n 3, 1) := by decide +kernel
theorem dX6_priceFrom_14 : decode cX6_priceFrom 14 = .ok (.iload_n 2, 1) := by decide +kernel
theorem dX6_priceFrom_15 : decode cX6_priceFrom 15 = .ok (.isub, 1) := by decide +kernel
theorem dX6_priceFrom_16 : decode cX6_priceFrom 16 = .ok (.imul, 1) := by decide +kernel
theorem dX6_priceFrom_17 : decode cX6_priceFrom 17 = .ok (.ireturn, 1) := by decide +kernel
theorem dX6_priceFrom_18 : decode cX6_priceFrom 18 = .ok (.iload_n 2, 1) := by decide +kernel
theorem dX6_priceFrom_19 : decode cX6_priceFrom 19 = .ok (.iload_n 3, 1) := by decide +kernel
theorem dX6_priceFrom_20 : decode cX6_priceFrom 20 = .ok (.if_icmp .ne 16, 3) := by decide +kernel
theorem dX6_priceFrom_23 : decode cX6_priceFrom 23 = .ok (.bipush 40, 2) := by decide +kernel
theorem dX6_priceFrom_25 : decode cX6_priceFrom 25 = .ok (.aload_n 0, 1) := by decide +kernel
theorem dX6_priceFrom_26 : decode cX6_priceFrom 26 = .ok (.getfield 25, 3) := by decide +kernel
theorem dX6_priceFrom_29 : decode cX6_priceFrom 29 = .ok (.getfield 42, 3) := by decide +kernel
theorem dX6_priceFrom_32 : decode cX6_priceFrom 32 = .ok (.iload_n 1, 1) := by decide +kernel
theorem dX6_priceFrom_33 : decode cX6_priceFrom 33 = .ok (.isub, 1) := by decide +kernel
theorem dX6_priceFrom_34 : decode cX6_priceFrom 34 = .ok (.imul, 1) := by decide +kernel
theorem dX6_priceFrom_35 : decode cX6_priceFrom 35 = .ok (.ireturn, 1) := by decide +kernel
theorem dX6_priceFrom_36 : decode cX6_priceFrom 36 = .ok (.bipush 40, 2) := by decide +kernel
theorem dX6_priceFrom_38 : decode cX6_priceFrom 38 = .ok (.aload_n 0, 1) := by decide +kernel
theorem dX6_priceFrom_39 : decode cX6_priceFrom 39 = .ok (.getfield 19, 3) := by decide +kernel
theorem dX6_priceFrom_42 : decode cX6_priceFrom 42 = .ok (.iload_n 1, 1) := by decide +kernel
theorem dX6_priceFrom_43 : decode cX6_priceFrom 43 = .ok (.iconst 1, 1) := by decide +kernel
theorem dX6_priceFrom_44 : decode cX6_priceFrom 44 = .ok (.iadd, 1) := by decide +kernel
theorem dX6_priceFrom_45 : decode cX6_priceFrom 45 = .ok (.bipush 25, 2) := by decide +kernel
theorem dX6_priceFrom_47 : decode cX6_priceFrom 47 = .ok (.imul, 1) := by decide +kernel
theorem dX6_priceFrom_48 : decode cX6_priceFrom 48 = .ok (.iload_n 2, 1) := by decide +kernel
theorem dX6_priceFrom_49 : decode cX6_priceFrom 49 = .ok (.iadd, 1) := by decide +kernel
theorem dX6_priceFrom_50 : decode cX6_priceFrom 50 = .ok (.iaload, 1) := by decide +kernel
theorem dX6_priceFrom_51 : decode cX6_priceFrom 51 = .ok (.aload_n 0, 1) := by decide +kernel
theorem dX6_priceFrom_52 : decode cX6_priceFrom 52 = .ok (.getfield 19, 3) := by decide +kernel
theorem dX6_priceFrom_55 : decode cX6_priceFrom 55 = .ok (.iload_n 1, 1) := by decide +kernel
theorem dX6_priceFrom_56 : decode cX6_priceFrom 56 = .ok (.bipush 25, 2) := by decide +kernel
theorem dX6_priceFrom_58 : decode cX6_priceFrom 58 = .ok (.imul, 1) := by decide +kernel
theorem dX6_priceFrom_59 : decode cX6_priceFrom 59 = .ok (.iload_n 2, 1) := by decide +kernel
theorem dX6_priceFrom_60 : decode cX6_priceFrom 60 = .ok (.iadd, 1) := by decide +kernel
theorem dX6_priceFrom_61 : decode cX6_priceFrom 61 = .ok (.iconst 1, 1) := by decide +kernel
theorem dX6_priceFrom_62 : decode cX6_priceFrom 62 = .ok (.iadd, 1) := by decide +kernel
theorem dX6_priceFrom_63 : decode cX6_priceFrom 63 = .ok (.iaload, 1) := by decide +kernel
theorem dX6_priceFrom_64 : decode cX6_priceFrom 64 = .ok (.invokestatic 55, 3) := by decide +kernel
theorem dX6_priceFrom_67 : decode cX6_priceFrom 67 = .ok (.iadd, 1) := by decide +kernel
theorem dX6_priceFrom_68 : decode cX6_priceFrom 68 = .ok (.istore 4, 2) := by decide +kernel
theorem dX6_priceFrom_70 : decode cX6_priceFrom 70 = .ok (.aload_n 0, 1) := by decide +kernel
theorem dX6_priceFrom_71 : decode cX6_priceFrom 71 = .ok (.iload_n 1, 1) := by decide +kernel
theorem dX6_priceFrom_72 : decode cX6_priceFrom 72 = .ok (.iload_n 2, 1) := by decide +kernel
theorem dX6_priceFrom_73 : decode cX6_priceFrom 73 = .ok (.invokevirtual 61, 3) := by decide +kernel
theorem dX6_priceFrom_76 : decode cX6_priceFrom 76 = .ok (.istore 5, 2) := by decide +kernel
theorem dX6_priceFrom_78 : decode cX6_priceFrom 78 = .ok (.iload 5, 2) := by decide +kernel
theorem dX6_priceFrom_80 : decode cX6_priceFrom 80 = .ok (.aload_n 0, 1) := by decide +kernel
theorem dX6_priceFrom_81 : decode cX6_priceFrom 81 = .ok (.getfield 29, 3) := by decide +kernel
theorem dX6_priceFrom_84 : decode cX6_priceFrom 84 = .ok (.getfield 64, 3) := by decide +kernel
theorem dX6_priceFrom_87 : decode cX6_priceFrom 87 = .ok (.iconst 4, 1) := by decide +kernel
theorem dX6_priceFrom_88 : decode cX6_priceFrom 88 = .ok (.iaload, 1) := by decide +kernel
theorem dX6_priceFrom_89 : decode cX6_priceFrom 89 = .ok (.if_icmp .le 6, 3) := by decide +kernel
theorem dX6_priceFrom_92 : decode cX6_priceFrom 92 = .ok (.iload 4, 2) := by decide +kernel
theorem dX6_priceFrom_94 : decode cX6_priceFrom 94 = .ok (.ireturn, 1) := by decide +kernel
theorem dX6_priceFrom_95 : decode cX6_priceFrom 95 = .ok (.iload 4, 2) := by decide +kernel
theorem dX6_priceFrom_97 : decode cX6_priceFrom 97 = .ok (.iload 5, 2) := by decide +kernel
theorem dX6_priceFrom_99 : decode cX6_priceFrom 99 = .ok (.aload_n 0, 1) := by decide +kernel
theorem dX6_priceFrom_100 : decode cX6_priceFrom 100 = .ok (.getfield 19, 3) := by decide +kernel
theorem dX6_priceFrom_103 : decode cX6_priceFrom 103 = .ok (.iload_n 1, 1) := by decide +kernel
theorem dX6_priceFrom_104 : decode cX6_priceFrom 104 = .ok (.iconst 1, 1) := by decide +kernel
theorem dX6_priceFrom_105 : decode cX6_priceFrom 105 = .ok (.iadd, 1) := by decide +kernel
theorem dX6_priceFrom_106 : decode cX6_priceFrom 106 = .ok (.bipush 25, 2) := by decide +kernel
theorem dX6_priceFrom_108 : decode cX6_priceFrom 108 = .ok (.imul, 1) := by decide +kernel
theorem dX6_priceFrom_109 : decode cX6_priceFrom 109 = .ok (.iload_n 2, 1) := by decide +kernel
theorem dX6_priceFrom_110 : decode cX6_priceFrom 110 = .ok (.iadd, 1) := by decide +kernel
theorem dX6_priceFrom_111 : decode cX6_priceFrom 111 = .ok (.iconst 1, 1) := by decide +kernel
theorem dX6_priceFrom_112 : decode cX6_priceFrom 112 = .ok (.iadd, 1) := by decide +kernel
theorem dX6_priceFrom_113 : decode cX6_priceFrom 113 = .ok (.iaload, 1) := by decide +kernel
theorem dX6_priceFrom_114 : decode cX6_priceFrom 114 = .ok (.iadd, 1) := by decide +kernel
theorem dX6_priceFrom_115 : decode cX6_priceFrom 115 = .ok (.invokestatic 55, 3) := by decide +kernel
theorem dX6_priceFrom_118 : decode cX6_priceFrom 118 = .ok (.ireturn, 1) := by decide +kernel
set_option maxRecDepth 20000 in
theorem ggX6_apart_X9_tickAt : GoodIn wsX6_apart wsX9_tickAt := goodIn_r _ [13, 14, 29, 30] (by decide +kernel) (by decide +kernel)
set_option maxRecDepth 20000 in
theorem gX6_apart_X9_tickAt : GoodIn wsX6_apart (wsV RX6 69 RX9 yX9_tickAt wsX9_tickAt) := goodIn_app (goodIn_of _ (by decide +kernel)) ggX6_apart_X9_tickAt
theorem dX6_apart_0 : decode cX6_apart 0 = .ok (.aload_n 0, 1) := by decide +kernel
theorem dX6_apart_1 : decode cX6_apart 1 = .ok (.getfield 33, 3) := by decide +kernel
theorem dX6_apart_4 : decode cX6_apart 4 = .ok (.aload_n 0, 1) := by decide +kernel
theorem dX6_apart_5 : decode cX6_apart 5 = .ok (.getfield 22, 3) := by decide +kernel
theorem dX6_apart_8 : decode cX6_apart 8 = .ok (.iload_n 2, 1) := by decide +kernel
theorem dX6_apart_9 : decode cX6_apart 9 = .ok (.invokevirtual 69, 3) := by decide +kernel
theorem dX6_apart_12 : decode cX6_apart 12 = .ok (.aload_n 0, 1) := by decide +kernel
theorem dX6_apart_13 : decode cX6_apart 13 = .ok (.getfield 25, 3) := by decide +kernel
theorem dX6_apart_16 : decode cX6_apart 16 = .ok (.getfield 72, 3) := by decide +kernel
theorem dX6_apart_19 : decode cX6_apart 19 = .ok (.iload_n 1, 1) := by decide +kernel
theorem dX6_apart_20 : decode cX6_apart 20 = .ok (.iaload, 1) := by decide +kernel
theorem dX6_apart_21 : decode cX6_apart 21 = .ok (.isub, 1) := by decide +kernel
theorem dX6_apart_22 : decode cX6_apart 22 = .ok (.invokestatic 75, 3) := by decide +kernel
theorem dX6_apart_25 : decode cX6_apart 25 = .ok (.ireturn, 1) := by decide +kernel
set_option maxRecDepth 20000 in
theorem ggX6_chooseMatches_X6_firstBestMatch : GoodIn wsX6_chooseMatches wsX6_firstBestMatch := goodIn_r _ [9, 10, 11, 12, 13, 14, 15, 8, 16, 17, 18, 2, 19, 20, 21, 22, 23, 24, 25, 26, 27, 28, 29, 30, 31, 32, 33, 34, 35, 36, 44, 37, 38, 39, 40, 41, 42, 43, 45, 46] (by decide +kernel) (by decide +kernel)
set_option maxRecDepth 20000 in
theorem gX6_chooseMatches_X6_firstBestMatch : GoodIn wsX6_chooseMatches (wsV RX6 79 RX6 yX6_firstBestMatch wsX6_firstBestMatch) := goodIn_app (goodIn_of _ (by decide +kernel)) ggX6_chooseMatches_X6_firstBestMatch
theorem dX6_chooseMatches_0 : decode cX6_chooseMatches 0 = .ok (.iconst 0, 1) := by decide +kernel
theorem dX6_chooseMatches_1 : decode cX6_chooseMatches 1 = .ok (.istore_n 2, 1) := by decide +kernel
theorem dX6_chooseMatches_2 : decode cX6_chooseMatches 2 = .ok (.aload_n 0, 1) := by decide +kernel
theorem dX6_chooseMatches_3 : decode cX6_chooseMatches 3 = .ok (.iconst 0, 1) := by decide +kernel
theorem dX6_chooseMatches_4 : decode cX6_chooseMatches 4 = .ok (.putfield 15, 3) := by decide +kernel
theorem dX6_chooseMatches_7 : decode cX6_chooseMatches 7 = .ok (.iconst 0, 1) := by decide +kernel
theorem dX6_chooseMatches_8 : decode cX6_chooseMatches 8 = .ok (.istore_n 3, 1) := by decide +kernel
theorem dX6_chooseMatches_9 : decode cX6_chooseMatches 9 = .ok (.iload_n 3, 1) := by decide +kernel
theorem dX6_chooseMatches_10 : decode cX6_chooseMatches 10 = .ok (.aload_n 0, 1) := by decide +kernel
theorem dX6_chooseMatches_11 : decode cX6_chooseMatches 11 = .ok (.getfield 25, 3) := by decide +kernel
theorem dX6_chooseMatches_14 : decode cX6_chooseMatches 14 = .ok (.getfield 42, 3) := by decide +kernel
theorem dX6_chooseMatches_17 : decode cX6_chooseMatches 17 = .ok (.if_icmp .ge 47, 3) := by decide +kernel
theorem dX6_chooseMatches_20 : decode cX6_chooseMatches 20 = .ok (.aload_n 0, 1) := by decide +kernel
theorem dX6_chooseMatches_21 : decode cX6_chooseMatches 21 = .ok (.iload_n 3, 1) := by decide +kernel
theorem dX6_chooseMatches_22 : decode cX6_chooseMatches 22 = .ok (.iload_n 2, 1) := by decide +kernel
theorem dX6_chooseMatches_23 : decode cX6_chooseMatches 23 = .ok (.iload_n 1, 1) := by decide +kernel
theorem dX6_chooseMatches_24 : decode cX6_chooseMatches 24 = .ok (.invokevirtual 79, 3) := by decide +kernel
theorem dX6_chooseMatches_27 : decode cX6_chooseMatches 27 = .ok (.istore 4, 2) := by decide +kernel
theorem dX6_chooseMatches_29 : decode cX6_chooseMatches 29 = .ok (.aload_n 0, 1) := by decide +kernel
theorem dX6_chooseMatches_30 : decode cX6_chooseMatches 30 = .ok (.getfield 9, 3) := by decide +kernel
theorem dX6_chooseMatches_33 : decode cX6_chooseMatches 33 = .ok (.iload_n 3, 1) := by decide +kernel
theorem dX6_chooseMatches_34 : decode cX6_chooseMatches 34 = .ok (.iload 4, 2) := by decide +kernel
theorem dX6_chooseMatches_36 : decode cX6_chooseMatches 36 = .ok (.iastore, 1) := by decide +kernel
theorem dX6_chooseMatches_37 : decode cX6_chooseMatches 37 = .ok (.iload 4, 2) := by decide +kernel
theorem dX6_chooseMatches_39 : decode cX6_chooseMatches 39 = .ok (.iconst (-1), 1) := by decide +kernel
theorem dX6_chooseMatches_40 : decode cX6_chooseMatches 40 = .ok (.if_icmp .eq 18, 3) := by decide +kernel
theorem dX6_chooseMatches_43 : decode cX6_chooseMatches 43 = .ok (.aload_n 0, 1) := by decide +kernel
theorem dX6_chooseMatches_44 : decode cX6_chooseMatches 44 = .ok (.dup, 1) := by decide +kernel
theorem dX6_chooseMatches_45 : decode cX6_chooseMatches 45 = .ok (.getfield 15, 3) := by decide +kernel
theorem dX6_chooseMatches_48 : decode cX6_chooseMatches 48 = .ok (.iconst 1, 1) := by decide +kernel
theorem dX6_chooseMatches_49 : decode cX6_chooseMatches 49 = .ok (.iadd, 1) := by decide +kernel
theorem dX6_chooseMatches_50 : decode cX6_chooseMatches 50 = .ok (.putfield 15, 3) := by decide +kernel
theorem dX6_chooseMatches_53 : decode cX6_chooseMatches 53 = .ok (.iload 4, 2) := by decide +kernel
theorem dX6_chooseMatches_55 : decode cX6_chooseMatches 55 = .ok (.iconst 1, 1) := by decide +kernel
theorem dX6_chooseMatches_56 : decode cX6_chooseMatches 56 = .ok (.iadd, 1) := by decide +kernel
theorem dX6_chooseMatches_57 : decode cX6_chooseMatches 57 = .ok (.istore_n 2, 1) := by decide +kernel
theorem dX6_chooseMatches_58 : decode cX6_chooseMatches 58 = .ok (.iinc 3 1, 3) := by decide +kernel
theorem dX6_chooseMatches_61 : decode cX6_chooseMatches 61 = .ok (.goto (-52), 3) := by decide +kernel
theorem dX6_chooseMatches_64 : decode cX6_chooseMatches 64 = .ok (.return_, 1) := by decide +kernel
set_option maxRecDepth 20000 in
theorem ggX6_firstBestMatch_X6_apart : GoodIn wsX6_firstBestMatch wsX6_apart := goodIn_r _ [8, 9, 10, 11, 12, 13, 14, 15, 16, 17, 18, 19, 20, 21, 22, 23, 24, 25, 26, 27, 28, 29, 31, 32, 33, 34, 35, 36, 37, 38, 39] (by decide +kernel) (by decide +kernel)
set_option maxRecDepth 20000 in
theorem gX6_firstBestMatch_X6_apart : GoodIn wsX6_firstBestMatch (wsV RX6 61 RX6 yX6_apart wsX6_apart) := goodIn_app (goodIn_of _ (by decide +kernel)) ggX6_firstBestMatch_X6_apart
theorem dX6_firstBestMatch_0 : decode cX6_firstBestMatch 0 = .ok (.aload_n 0, 1) := by decide +kernel
theorem dX6_firstBestMatch_1 : decode cX6_firstBestMatch 1 = .ok (.getfield 19, 3) := by decide +kernel
theorem dX6_firstBestMatch_4 : decode cX6_firstBestMatch 4 = .ok (.iload_n 1, 1) := by decide +kernel
theorem dX6_firstBestMatch_5 : decode cX6_firstBestMatch 5 = .ok (.bipush 25, 2) := by decide +kernel
theorem dX6_firstBestMatch_7 : decode cX6_firstBestMatch 7 = .ok (.imul, 1) := by decide +kernel
theorem dX6_firstBestMatch_8 : decode cX6_firstBestMatch 8 = .ok (.iload_n 2, 1) := by decide +kernel
theorem dX6_firstBestMatch_9 : decode cX6_firstBestMatch 9 = .ok (.iadd, 1) := by decide +kernel
theorem dX6_firstBestMatch_10 : decode cX6_firstBestMatch 10 = .ok (.iaload, 1) := by decide +kernel
theorem dX6_firstBestMatch_11 : decode cX6_firstBestMatch 11 = .ok (.istore 4, 2) := by decide +kernel
theorem dX6_firstBestMatch_13 : decode cX6_firstBestMatch 13 = .ok (.iload_n 2, 1) := by decide +kernel
theorem dX6_firstBestMatch_14 : decode cX6_firstBestMatch 14 = .ok (.istore 5, 2) := by decide +kernel
theorem dX6_firstBestMatch_16 : decode cX6_firstBestMatch 16 = .ok (.iload 5, 2) := by decide +kernel
theorem dX6_firstBestMatch_18 : decode cX6_firstBestMatch 18 = .ok (.iload_n 3, 1) := by decide +kernel
theorem dX6_firstBestMatch_19 : decode cX6_firstBestMatch 19 = .ok (.if_icmp .ge 71, 3) := by decide +kernel
theorem dX6_firstBestMatch_22 : decode cX6_firstBestMatch 22 = .ok (.aload_n 0, 1) := by decide +kernel
theorem dX6_firstBestMatch_23 : decode cX6_firstBestMatch 23 = .ok (.iload_n 1, 1) := by decide +kernel
theorem dX6_firstBestMatch_24 : decode cX6_firstBestMatch 24 = .ok (.iload 5, 2) := by decide +kernel
theorem dX6_firstBestMatch_26 : decode cX6_firstBestMatch 26 = .ok (.invokevirtual 61, 3) := by decide +kernel
theorem dX6_firstBestMatch_29 : decode cX6_firstBestMatch 29 = .ok (.istore 6, 2) := by decide +kernel
theorem dX6_firstBestMatch_31 : decode cX6_firstBestMatch 31 = .ok (.bipush 40, 2) := by decide +kernel
theorem dX6_firstBestMatch_33 : decode cX6_firstBestMatch 33 = .ok (.iload 5, 2) := by decide +kernel
theorem dX6_firstBestMatch_35 : decode cX6_firstBestMatch 35 = .ok (.iload_n 2, 1) := by decide +kernel
theorem dX6_firstBestMatch_36 : decode cX6_firstBestMatch 36 = .ok (.isub, 1) := by decide +kernel
theorem dX6_firstBestMatch_37 : decode cX6_firstBestMatch 37 = .ok (.imul, 1) := by decide +kernel
theorem dX6_firstBestMatch_38 : decode cX6_firstBestMatch 38 = .ok (.iload 6, 2) := by decide +kernel
theorem dX6_firstBestMatch_40 : decode cX6_firstBestMatch 40 = .ok (.iadd, 1) := by decide +kernel
theorem dX6_firstBestMatch_41 : decode cX6_firstBestMatch 41 = .ok (.aload_n 0, 1) := by decide +kernel
theorem dX6_firstBestMatch_42 : decode cX6_firstBestMatch 42 = .ok (.getfield 19, 3) := by decide +kernel
theorem dX6_firstBestMatch_45 : decode cX6_firstBestMatch 45 = .ok (.iload_n 1, 1) := by decide +kernel
theorem dX6_firstBestMatch_46 : decode cX6_firstBestMatch 46 = .ok (.iconst 1, 1) := by decide +kernel
theorem dX6_firstBestMatch_47 : decode cX6_firstBestMatch 47 = .ok (.iadd, 1) := by decide +kernel
theorem dX6_firstBestMatch_48 : decode cX6_firstBestMatch 48 = .ok (.bipush 25, 2) := by decide +kernel
theorem dX6_firstBestMatch_50 : decode cX6_firstBestMatch 50 = .ok (.imul, 1) := by decide +kernel
theorem dX6_firstBestMatch_51 : decode cX6_firstBestMatch 51 = .ok (.iload 5, 2) := by decide +kernel
theorem dX6_firstBestMatch_53 : decode cX6_firstBestMatch 53 = .ok (.iadd, 1) := by decide +kernel
theorem dX6_firstBestMatch_54 : decode cX6_firstBestMatch 54 = .ok (.iconst 1, 1) := by decide +kernel
theorem dX6_firstBestMatch_55 : decode cX6_firstBestMatch 55 = .ok (.iadd, 1) := by decide +kernel
theorem dX6_firstBestMatch_56 : decode cX6_firstBestMatch 56 = .ok (.iaload, 1) := by decide +kernel
theorem dX6_firstBestMatch_57 : decode cX6_firstBestMatch 57 = .ok (.iadd, 1) := by decide +kernel
theorem dX6_firstBestMatch_58 : decode cX6_firstBestMatch 58 = .ok (.istore 7, 2) := by decide +kernel
theorem dX6_firstBestMatch_60 : decode cX6_firstBestMatch 60 = .ok (.iload 6, 2) := by decide +kernel
theorem dX6_firstBestMatch_62 : decode cX6_firstBestMatch 62 = .ok (.aload_n 0, 1) := by decide +kernel
theorem dX6_firstBestMatch_63 : decode cX6_firstBestMatch 63 = .ok (.getfield 29, 3) := by decide +kernel
theorem dX6_firstBestMatch_66 : decode cX6_firstBestMatch 66 = .ok (.getfield 64, 3) := by decide +kernel
theorem dX6_firstBestMatch_69 : decode cX6_firstBestMatch 69 = .ok (.iconst 4, 1) := by decide +kernel
theorem dX6_firstBestMatch_70 : decode cX6_firstBestMatch 70 = .ok (.iaload, 1) := by decide +kernel
theorem dX6_firstBestMatch_71 : decode cX6_firstBestMatch 71 = .ok (.if_icmp .gt 13, 3) := by decide +kernel
theorem dX6_firstBestMatch_74 : decode cX6_firstBestMatch 74 = .ok (.iload 7, 2) := by decide +kernel
theorem dX6_firstBestMatch_76 : decode cX6_firstBestMatch 76 = .ok (.iload 4, 2) := by decide +kernel
theorem dX6_firstBestMatch_78 : decode cX6_firstBestMatch 78 = .ok (.if_icmp .ne 6, 3) := by decide +kernel
theorem dX6_firstBestMatch_81 : decode cX6_firstBestMatch 81 = .ok (.iload 5, 2) := by decide +kernel
theorem dX6_firstBestMatch_83 : decode cX6_firstBestMatch 83 = .ok (.ireturn, 1) := by decide +kernel
theorem dX6_firstBestMatch_84 : decode cX6_firstBestMatch 84 = .ok (.iinc 5 1, 3) := by decide +kernel
theorem dX6_firstBestMatch_87 : decode cX6_firstBestMatch 87 = .ok (.goto (-71), 3) := by decide +kernel
theorem dX6_firstBestMatch_90 : decode cX6_firstBestMatch 90 = .ok (.iconst (-1), 1) := by decide +kernel
theorem dX6_firstBestMatch_91 : decode cX6_firstBestMatch 91 = .ok (.ireturn, 1) := by decide +kernel
theorem dX7_init_0 : decode cX7_init 0 = .ok (.aload_n 0, 1) := by decide +kernel
theorem dX7_init_1 : decode cX7_init 1 = .ok (.invokespecial 1, 3) := by decide +kernel
theorem dX7_init_4 : decode cX7_init 4 = .ok (.aload_n 0, 1) := by decide +kernel
theorem dX7_init_5 : decode cX7_init 5 = .ok (.iconst 5, 1) := by decide +kernel
theorem dX7_init_6 : decode cX7_init 6 = .ok (.newarray .int, 2) := by decide +kernel
theorem dX7_init_8 : decode cX7_init 8 = .ok (.dup, 1) := by decide +kernel
theorem dX7_init_9 : decode cX7_init 9 = .ok (.iconst 0, 1) := by decide +kernel
theorem dX7_init_10 : decode cX7_init 10 = .ok (.bipush 20, 2) := by decide +kernel
theorem dX7_init_12 : decode cX7_init 12 = .ok (.iastore, 1) := by decide +kernel
theorem dX7_init_13 : decode cX7_init 13 = .ok (.dup, 1) := by decide +kernel
theorem dX7_init_14 : decode cX7_init 14 = .ok (.iconst 1, 1) := by decide +kernel
theorem dX7_init_15 : decode cX7_init 15 = .ok (.bipush 8, 2) := by decide +kernel
theorem dX7_init_17 : decode cX7_init 17 = .ok (.iastore, 1) := by decide +kernel
theorem dX7_init_18 : decode cX7_init 18 = .ok (.dup, 1) := by decide +kernel
theorem dX7_init_19 : decode cX7_init 19 = .ok (.iconst 2, 1) := by decide +kernel
theorem dX7_init_20 : decode cX7_init 20 = .ok (.iconst 1, 1) := by decide +kernel
theorem dX7_init_21 : decode cX7_init 21 = .ok (.iastore, 1) := by decide +kernel
theorem dX7_init_22 : decode cX7_init 22 = .ok (.dup, 1) := by decide +kernel
theorem dX7_init_23 : decode cX7_init 23 = .ok (.iconst 3, 1) := by decide +kernel
theorem dX7_init_24 : decode cX7_init 24 = .ok (.bipush 40, 2) := by decide +kernel
theorem dX7_init_26 : decode cX7_init 26 = .ok (.iastore, 1) := by decide +kernel
theorem dX7_init_27 : decode cX7_init 27 = .ok (.dup, 1) := by decide +kernel
theorem dX7_init_28 : decode cX7_init 28 = .ok (.iconst 4, 1) := by decide +kernel
theorem dX7_init_29 : decode cX7_init 29 = .ok (.bipush 15, 2) := by decide +kernel
theorem dX7_init_31 : decode cX7_init 31 = .ok (.iastore, 1) := by decide +kernel
theorem dX7_init_32 : decode cX7_init 32 = .ok (.putfield 7, 3) := by decide +kernel
theorem dX7_init_35 : decode cX7_init 35 = .ok (.return_, 1) := by decide +kernel
set_option maxRecDepth 20000 in
theorem ggX7_mayBecome_X10_isBelow : GoodIn wsX7_mayBecome wsX10_isBelow := goodIn_r _ [4] (by decide +kernel) (by decide +kernel)
set_option maxRecDepth 20000 in
theorem gX7_mayBecome_X10_isBelow_n13 : GoodIn wsX7_mayBecome (wsX10_isBelow) := ggX7_mayBecome_X10_isBelow
theorem dX7_mayBecome_0 : decode cX7_mayBecome 0 = .ok (.iload_n 1, 1) := by decide +kernel
theorem dX7_mayBecome_1 : decode cX7_mayBecome 1 = .ok (.iconst 5, 1) := by decide +kernel
theorem dX7_mayBecome_2 : decode cX7_mayBecome 2 = .ok (.invokestatic 13, 3) := by decide +kernel
theorem dX7_mayBecome_5 : decode cX7_mayBecome 5 = .ok (.ifCond .eq 20, 3) := by decide +kernel
theorem dX7_mayBecome_8 : decode cX7_mayBecome 8 = .ok (.iload_n 2, 1) := by decide +kernel
theorem dX7_mayBecome_9 : decode cX7_mayBecome 9 = .ok (.ifCond .lt 16, 3) := by decide +kernel
theorem dX7_mayBecome_12 : decode cX7_mayBecome 12 = .ok (.iload_n 2, 1) := by decide +kernel
theorem dX7_mayBecome_13 : decode cX7_mayBecome 13 = .ok (.getstatic 19, 3) := by decide +kernel
theorem dX7_mayBecome_16 : decode cX7_mayBecome 16 = .ok (.iload_n 1, 1) := by decide +kernel
theorem dX7_mayBecome_17 : decode cX7_mayBecome 17 = .ok (.iaload, 1) := by decide +kernel
theorem dX7_mayBecome_18 : decode cX7_mayBecome 18 = .ok (.if_icmp .gt 7, 3) := by decide +kernel
theorem dX7_mayBecome_21 : decode cX7_mayBecome 21 = .ok (.iconst 1, 1) := by decide +kernel
theorem dX7_mayBecome_22 : decode cX7_mayBecome 22 = .ok (.goto 4, 3) := by decide +kernel
theorem dX7_mayBecome_25 : decode cX7_mayBecome 25 = .ok (.iconst 0, 1) := by decide +kernel
theorem dX7_mayBecome_26 : decode cX7_mayBecome 26 = .ok (.ireturn, 1) := by decide +kernel
set_option maxRecDepth 20000 in
theorem ggX7_change_X7_mayBecome : GoodIn wsX7_change wsX7_mayBecome := goodIn_r _ [6, 7, 8, 9, 10] (by decide +kernel) (by decide +kernel)
set_option maxRecDepth 20000 in
theorem gX7_change_X7_mayBecome : GoodIn wsX7_change (wsV RX7 22 RX7 yX7_mayBecome wsX7_mayBecome) := goodIn_app (goodIn_of _ (by decide +kernel)) ggX7_change_X7_mayBecome
theorem dX7_change_0 : decode cX7_change 0 = .ok (.aload_n 0, 1) := by decide +kernel
theorem dX7_change_1 : decode cX7_change 1 = .ok (.iload_n 1, 1) := by decide +kernel
theorem dX7_change_2 : decode cX7_change 2 = .ok (.iload_n 2, 1) := by decide +kernel
theorem dX7_change_3 : decode cX7_change 3 = .ok (.invokevirtual 22, 3) := by decide +kernel
theorem dX7_change_6 : decode cX7_change 6 = .ok (.ifCond .eq 10, 3) := by decide +kernel
theorem dX7_change_9 : decode cX7_change 9 = .ok (.aload_n 0, 1) := by decide +kernel
theorem dX7_change_10 : decode cX7_change 10 = .ok (.getfield 7, 3) := by decide +kernel
theorem dX7_change_13 : decode cX7_change 13 = .ok (.iload_n 1, 1) := by decide +kernel
theorem dX7_change_14 : decode cX7_change 14 = .ok (.iload_n 2, 1) := by decide +kernel
theorem dX7_change_15 : decode cX7_change 15 = .ok (.iastore, 1) := by decide +kernel
theorem dX7_change_16 : decode cX7_change 16 = .ok (.return_, 1) := by decide +kernel
theorem dX8_init_0 : decode cX8_init 0 = .ok (.aload_n 0, 1) := by decide +kernel
theorem dX8_init_1 : decode cX8_init 1 = .ok (.invokespecial 3, 3) := by decide +kernel
theorem dX8_init_4 : decode cX8_init 4 = .ok (.aload_n 0, 1) := by decide +kernel
theorem dX8_init_5 : decode cX8_init 5 = .ok (.iconst 4, 1) := by decide +kernel
theorem dX8_init_6 : decode cX8_init 6 = .ok (.newarray .int, 2) := by decide +kernel
theorem dX8_init_8 : decode cX8_init 8 = .ok (.putfield 9, 3) := by decide +kernel
theorem dX8_init_11 : decode cX8_init 11 = .ok (.aload_n 0, 1) := by decide +kernel
theorem dX8_init_12 : decode cX8_init 12 = .ok (.iconst 4, 1) := by decide +kernel
theorem dX8_init_13 : decode cX8_init 13 = .ok (.newarray .int, 2) := by decide +kernel
theorem dX8_init_15 : decode cX8_init 15 = .ok (.putfield 15, 3) := by decide +kernel
theorem dX8_init_18 : decode cX8_init 18 = .ok (.aload_n 0, 1) := by decide +kernel
theorem dX8_init_19 : decode cX8_init 19 = .ok (.bipush 96, 2) := by decide +kernel
theorem dX8_init_21 : decode cX8_init 21 = .ok (.newarray .int, 2) := by decide +kernel
theorem dX8_init_23 : decode cX8_init 23 = .ok (.putfield 18, 3) := by decide +kernel
theorem dX8_init_26 : decode cX8_init 26 = .ok (.return_, 1) := by decide +kernel
theorem dX8_areBits_0 : decode cX8_areBits 0 = .ok (.iload_n 0, 1) := by decide +kernel
theorem dX8_areBits_1 : decode cX8_areBits 1 = .ok (.ifCond .eq 21, 3) := by decide +kernel
theorem dX8_areBits_4 : decode cX8_areBits 4 = .ok (.iload_n 0, 1) := by decide +kernel
theorem dX8_areBits_5 : decode cX8_areBits 5 = .ok (.bipush 8, 2) := by decide +kernel
theorem dX8_areBits_7 : decode cX8_areBits 7 = .ok (.if_icmp .eq 15, 3) := by decide +kernel
theorem dX8_areBits_10 : decode cX8_areBits 10 = .ok (.iload_n 0, 1) := by decide +kernel
theorem dX8_areBits_11 : decode cX8_areBits 11 = .ok (.bipush 16, 2) := by decide +kernel
theorem dX8_areBits_13 : decode cX8_areBits 13 = .ok (.if_icmp .eq 9, 3) := by decide +kernel
theorem dX8_areBits_16 : decode cX8_areBits 16 = .ok (.iload_n 0, 1) := by decide +kernel
theorem dX8_areBits_17 : decode cX8_areBits 17 = .ok (.bipush 32, 2) := by decide +kernel
theorem dX8_areBits_19 : decode cX8_areBits 19 = .ok (.if_icmp .ne 7, 3) := by decide +kernel
theorem dX8_areBits_22 : decode cX8_areBits 22 = .ok (.iconst 1, 1) := by decide +kernel
theorem dX8_areBits_23 : decode cX8_areBits 23 = .ok (.goto 4, 3) := by decide +kernel
theorem dX8_areBits_26 : decode cX8_areBits 26 = .ok (.iconst 0, 1) := by decide +kernel
theorem dX8_areBits_27 : decode cX8_areBits 27 = .ok (.ireturn, 1) := by decide +kernel
theorem dX8_isMissing_0 : decode cX8_isMissing 0 = .ok (.aload_n 0, 1) := by decide +kernel
theorem dX8_isMissing_1 : decode cX8_isMissing 1 = .ok (.getfield 9, 3) := by decide +kernel
theorem dX8_isMissing_4 : decode cX8_isMissing 4 = .ok (.iload_n 1, 1) := by decide +kernel
theorem dX8_isMissing_5 : decode cX8_isMissing 5 = .ok (.iaload, 1) := by decide +kernel
theorem dX8_isMissing_6 : decode cX8_isMissing 6 = .ok (.ifCond .ne 7, 3) := by decide +kernel
theorem dX8_isMissing_9 : decode cX8_isMissing 9 = .ok (.iconst 1, 1) := by decide +kernel
theorem dX8_isMissing_10 : decode cX8_isMissing 10 = .ok (.goto 4, 3) := by decide +kernel
theorem dX8_isMissing_13 : decode cX8_isMissing 13 = .ok (.iconst 0, 1) := by decide +kernel
theorem dX8_isMissing_14 : decode cX8_isMissing 14 = .ok (.ireturn, 1) := by decide +kernel
theorem dX8_become_0 : decode cX8_become 0 = .ok (.aload_n 0, 1) := by decide +kernel
theorem dX8_become_1 : decode cX8_become 1 = .ok (.getfield 9, 3) := by decide +kernel
theorem dX8_become_4 : decode cX8_become 4 = .ok (.iload_n 1, 1) := by decide +kernel
theorem dX8_become_5 : decode cX8_become 5 = .ok (.iload_n 2, 1) := by decide +kernel
theorem dX8_become_6 : decode cX8_become 6 = .ok (.iastore, 1) := by decide +kernel
theorem dX8_become_7 : decode cX8_become 7 = .ok (.aload_n 0, 1) := by decide +kernel
theorem dX8_become_8 : decode cX8_become 8 = .ok (.getfield 15, 3) := by decide +kernel
theorem dX8_become_11 : decode cX8_become 11 = .ok (.iload_n 1, 1) := by decide +kernel
theorem dX8_become_12 : decode cX8_become 12 = .ok (.iload_n 2, 1) := by decide +kernel
theorem dX8_become_13 : decode cX8_become 13 = .ok (.ifCond .ne 7, 3) := by decide +kernel
theorem dX8_become_16 : decode cX8_become 16 = .ok (.iconst 0, 1) := by decide +kernel
theorem dX8_become_17 : decode cX8_become 17 = .ok (.goto 4, 3) := by decide +kernel
theorem dX8_become_20 : decode cX8_become 20 = .ok (.iload_n 3, 1) := by decide +kernel
theorem dX8_become_21 : decode cX8_become 21 = .ok (.iastore, 1) := by decide +kernel
theorem dX8_become_22 : decode cX8_become 22 = .ok (.iconst 0, 1) := by decide +kernel
theorem dX8_become_23 : decode cX8_become 23 = .ok (.istore 4, 2) := by decide +kernel
theorem dX8_become_25 : decode cX8_become 25 = .ok (.iload 4, 2) := by decide +kernel
theorem dX8_become_27 : decode cX8_become 27 = .ok (.bipush 24, 2) := by decide +kernel
theorem dX8_become_29 : decode cX8_become 29 = .ok (.if_icmp .ge 22, 3) := by decide +kernel
theorem dX8_become_32 : decode cX8_become 32 = .ok (.aload_n 0, 1) := by decide +kernel
theorem dX8_become_33 : decode cX8_become 33 = .ok (.getfield 18, 3) := by decide +kernel
theorem dX8_become_36 : decode cX8_become 36 = .ok (.iload_n 1, 1) := by decide +kernel
theorem dX8_become_37 : decode cX8_become 37 = .ok (.bipush 24, 2) := by decide +kernel
theorem dX8_become_39 : decode cX8_become 39 = .ok (.imul, 1) := by decide +kernel
theorem dX8_become_40 : decode cX8_become 40 = .ok (.iload 4, 2) := by decide +kernel
theorem dX8_become_42 : decode cX8_become 42 = .ok (.iadd, 1) := by decide +kernel
theorem dX8_become_43 : decode cX8_become 43 = .ok (.iconst 0, 1) := by decide +kernel
theorem dX8_become_44 : decode cX8_become 44 = .ok (.iastore, 1) := by decide +kernel
theorem dX8_become_45 : decode cX8_become 45 = .ok (.iinc 4 1, 3) := by decide +kernel
theorem dX8_become_48 : decode cX8_become 48 = .ok (.goto (-23), 3) := by decide +kernel
theorem dX8_become_51 : decode cX8_become 51 = .ok (.return_, 1) := by decide +kernel
theorem dX8_numberAt_0 : decode cX8_numberAt 0 = .ok (.aload_n 0, 1) := by decide +kernel
theorem dX8_numberAt_1 : decode cX8_numberAt 1 = .ok (.getfield 18, 3) := by decide +kernel
theorem dX8_numberAt_4 : decode cX8_numberAt 4 = .ok (.iload_n 1, 1) := by decide +kernel
theorem dX8_numberAt_5 : decode cX8_numberAt 5 = .ok (.bipush 24, 2) := by decide +kernel
theorem dX8_numberAt_7 : decode cX8_numberAt 7 = .ok (.imul, 1) := by decide +kernel
theorem dX8_numberAt_8 : decode cX8_numberAt 8 = .ok (.iload_n 2, 1) := by decide +kernel
theorem dX8_numberAt_9 : decode cX8_numberAt 9 = .ok (.iadd, 1) := by decide +kernel
theorem dX8_numberAt_10 : decode cX8_numberAt 10 = .ok (.iaload, 1) := by decide +kernel
theorem dX8_numberAt_11 : decode cX8_numberAt 11 = .ok (.ireturn, 1) := by decide +kernel
theorem dX8_write_0 : decode cX8_write 0 = .ok (.bipush 32, 2) := by decide +kernel
theorem dX8_write_2 : decode cX8_write 2 = .ok (.aload_n 0, 1) := by decide +kernel
theorem dX8_write_3 : decode cX8_write 3 = .ok (.getfield 9, 3) := by decide +kernel
theorem dX8_write_6 : decode cX8_write 6 = .ok (.iload_n 1, 1) := by decide +kernel
theorem dX8_write_7 : decode cX8_write 7 = .ok (.iaload, 1) := by decide +kernel
theorem dX8_write_8 : decode cX8_write 8 = .ok (.isub, 1) := by decide +kernel
theorem dX8_write_9 : decode cX8_write 9 = .ok (.istore 4, 2) := by decide +kernel
theorem dX8_write_11 : decode cX8_write 11 = .ok (.aload_n 0, 1) := by decide +kernel
theorem dX8_write_12 : decode cX8_write 12 = .ok (.getfield 18, 3) := by decide +kernel
theorem dX8_write_15 : decode cX8_write 15 = .ok (.iload_n 1, 1) := by decide +kernel
theorem dX8_write_16 : decode cX8_write 16 = .ok (.bipush 24, 2) := by decide +kernel
theorem dX8_write_18 : decode cX8_write 18 = .ok (.imul, 1) := by decide +kernel
theorem dX8_write_19 : decode cX8_write 19 = .ok (.iload_n 2, 1) := by decide +kernel
theorem dX8_write_20 : decode cX8_write 20 = .ok (.iadd, 1) := by decide +kernel
theorem dX8_write_21 : decode cX8_write 21 = .ok (.iload_n 3, 1) := by decide +kernel
theorem dX8_write_22 : decode cX8_write 22 = .ok (.iload 4, 2) := by decide +kernel
theorem dX8_write_24 : decode cX8_write 24 = .ok (.ishl, 1) := by decide +kernel
theorem dX8_write_25 : decode cX8_write 25 = .ok (.iload 4, 2) := by decide +kernel
theorem dX8_write_27 : decode cX8_write 27 = .ok (.ishr, 1) := by decide +kernel
theorem dX8_write_28 : decode cX8_write 28 = .ok (.iastore, 1) := by decide +kernel
theorem dX8_write_29 : decode cX8_write 29 = .ok (.return_, 1) := by decide +kernel
theorem dX8_hasSpan_0 : decode cX8_hasSpan 0 = .ok (.iload_n 2, 1) := by decide +kernel
theorem dX8_hasSpan_1 : decode cX8_hasSpan 1 = .ok (.ifCond .lt 33, 3) := by decide +kernel
theorem dX8_hasSpan_4 : decode cX8_hasSpan 4 = .ok (.iload_n 3, 1) := by decide +kernel
theorem dX8_hasSpan_5 : decode cX8_hasSpan 5 = .ok (.ifCond .lt 29, 3) := by decide +kernel
theorem dX8_hasSpan_8 : decode cX8_hasSpan 8 = .ok (.iload_n 2, 1) := by decide +kernel
theorem dX8_hasSpan_9 : decode cX8_hasSpan 9 = .ok (.aload_n 0, 1) := by decide +kernel
theorem dX8_hasSpan_10 : decode cX8_hasSpan 10 = .ok (.getfield 15, 3) := by decide +kernel
theorem dX8_hasSpan_13 : decode cX8_hasSpan 13 = .ok (.iload_n 1, 1) := by decide +kernel
theorem dX8_hasSpan_14 : decode cX8_hasSpan 14 = .ok (.iaload, 1) := by decide +kernel
theorem dX8_hasSpan_15 : decode cX8_hasSpan 15 = .ok (.if_icmp .gt 19, 3) := by decide +kernel
theorem dX8_hasSpan_18 : decode cX8_hasSpan 18 = .ok (.iload_n 3, 1) := by decide +kernel
theorem dX8_hasSpan_19 : decode cX8_hasSpan 19 = .ok (.aload_n 0, 1) := by decide +kernel
theorem dX8_hasSpan_20 : decode cX8_hasSpan 20 = .ok (.getfield 15, 3) := by decide +kernel
theorem dX8_hasSpan_23 : decode cX8_hasSpan 23 = .ok (.iload_n 1, 1) := by decide +kernel
theorem dX8_hasSpan_24 : decode cX8_hasSpan 24 = .ok (.iaload, 1) := by decide +kernel
theorem dX8_hasSpan_25 : decode cX8_hasSpan 25 = .ok (.iload_n 2, 1) := by decide +kernel
theorem dX8_hasSpan_26 : decode cX8_hasSpan 26 = .ok (.isub, 1) := by decide +kernel
theorem dX8_hasSpan_27 : decode cX8_hasSpan 27 = .ok (.if_icmp .gt 7, 3) := by decide +kernel
theorem dX8_hasSpan_30 : decode cX8_hasSpan 30 = .ok (.iconst 1, 1) := by decide +kernel
theorem dX8_hasSpan_31 : decode cX8_hasSpan 31 = .ok (.goto 4, 3) := by decide +kernel
theorem dX8_hasSpan_34 : decode cX8_hasSpan 34 = .ok (.iconst 0, 1) := by decide +kernel
theorem dX8_hasSpan_35 : decode cX8_hasSpan 35 = .ok (.ireturn, 1) := by decide +kernel
theorem dX8_move_0 : decode cX8_move 0 = .ok (.aload_n 0, 1) := by decide +kernel
theorem dX8_move_1 : decode cX8_move 1 = .ok (.getfield 18, 3) := by decide +kernel
theorem dX8_move_4 : decode cX8_move 4 = .ok (.iload_n 1, 1) := by decide +kernel
theorem dX8_move_5 : decode cX8_move 5 = .ok (.bipush 24, 2) := by decide +kernel
theorem dX8_move_7 : decode cX8_move 7 = .ok (.imul, 1) := by decide +kernel
theorem dX8_move_8 : decode cX8_move 8 = .ok (.iload_n 2, 1) := by decide +kernel
theorem dX8_move_9 : decode cX8_move 9 = .ok (.iadd, 1) := by decide +kernel
theorem dX8_move_10 : decode cX8_move 10 = .ok (.aload_n 0, 1) := by decide +kernel
theorem dX8_move_11 : decode cX8_move 11 = .ok (.getfield 18, 3) := by decide +kernel
theorem dX8_move_14 : decode cX8_move 14 = .ok (.iload_n 3, 1) := by decide +kernel
theorem dX8_move_15 : decode cX8_move 15 = .ok (.bipush 24, 2) := by decide +kernel
theorem dX8_move_17 : decode cX8_move 17 = .ok (.imul, 1) := by decide +kernel
theorem dX8_move_18 : decode cX8_move 18 = .ok (.iload 4, 2) := by decide +kernel
theorem dX8_move_20 : decode cX8_move 20 = .ok (.iadd, 1) := by decide +kernel
theorem dX8_move_21 : decode cX8_move 21 = .ok (.iload 5, 2) := by decide +kernel
theorem dX8_move_23 : decode cX8_move 23 = .ok (.invokestatic 21, 3) := by decide +kernel
theorem dX8_move_26 : decode cX8_move 26 = .ok (.return_, 1) := by decide +kernel
theorem dX9_init_0 : decode cX9_init 0 = .ok (.aload_n 0, 1) := by decide +kernel
theorem dX9_init_1 : decode cX9_init 1 = .ok (.invokespecial 3, 3) := by decide +kernel
theorem dX9_init_4 : decode cX9_init 4 = .ok (.aload_n 0, 1) := by decide +kernel
theorem dX9_init_5 : decode cX9_init 5 = .ok (.iconst 4, 1) := by decide +kernel
theorem dX9_init_6 : decode cX9_init 6 = .ok (.newarray .int, 2) := by decide +kernel
theorem dX9_init_8 : decode cX9_init 8 = .ok (.putfield 9, 3) := by decide +kernel
theorem dX9_init_11 : decode cX9_init 11 = .ok (.aload_n 0, 1) := by decide +kernel
theorem dX9_init_12 : decode cX9_init 12 = .ok (.bipush 96, 2) := by decide +kernel
theorem dX9_init_14 : decode cX9_init 14 = .ok (.newarray .int, 2) := by decide +kernel
theorem dX9_init_16 : decode cX9_init 16 = .ok (.putfield 15, 3) := by decide +kernel
theorem dX9_init_19 : decode cX9_init 19 = .ok (.return_, 1) := by decide +kernel
theorem dX9_tickAt_0 : decode cX9_tickAt 0 = .ok (.aload_n 0, 1) := by decide +kernel
theorem dX9_tickAt_1 : decode cX9_tickAt 1 = .ok (.getfield 15, 3) := by decide +kernel
theorem dX9_tickAt_4 : decode cX9_tickAt 4 = .ok (.iload_n 1, 1) := by decide +kernel
theorem dX9_tickAt_5 : decode cX9_tickAt 5 = .ok (.bipush 24, 2) := by decide +kernel
theorem dX9_tickAt_7 : decode cX9_tickAt 7 = .ok (.imul, 1) := by decide +kernel
theorem dX9_tickAt_8 : decode cX9_tickAt 8 = .ok (.iload_n 2, 1) := by decide +kernel
theorem dX9_tickAt_9 : decode cX9_tickAt 9 = .ok (.iadd, 1) := by decide +kernel
theorem dX9_tickAt_10 : decode cX9_tickAt 10 = .ok (.iaload, 1) := by decide +kernel
theorem dX9_tickAt_11 : decode cX9_tickAt 11 = .ok (.ireturn, 1) := by decide +kernel
set_option maxRecDepth 20000 in
theorem ggX9_latestTick_X9_tickAt : GoodIn wsX9_latestTick wsX9_tickAt := goodIn_r _ [6, 7, 8, 9] (by decide +kernel) (by decide +kernel)
set_option maxRecDepth 20000 in
theorem gX9_latestTick_X9_tickAt : GoodIn wsX9_latestTick (wsV RX9 18 RX9 yX9_tickAt wsX9_tickAt) := goodIn_app (goodIn_of _ (by decide +kernel)) ggX9_latestTick_X9_tickAt
theorem dX9_latestTick_0 : decode cX9_latestTick 0 = .ok (.aload_n 0, 1) := by decide +kernel
theorem dX9_latestTick_1 : decode cX9_latestTick 1 = .ok (.getfield 9, 3) := by decide +kernel
theorem dX9_latestTick_4 : decode cX9_latestTick 4 = .ok (.iload_n 1, 1) := by decide +kernel
theorem dX9_latestTick_5 : decode cX9_latestTick 5 = .ok (.iaload, 1) := by decide +kernel
theorem dX9_latestTick_6 : decode cX9_latestTick 6 = .ok (.ifCond .ne 7, 3) := by decide +kernel
theorem dX9_latestTick_9 : decode cX9_latestTick 9 = .ok (.iconst (-1), 1) := by decide +kernel
theorem dX9_latestTick_10 : decode cX9_latestTick 10 = .ok (.goto 16, 3) := by decide +kernel
theorem dX9_latestTick_13 : decode cX9_latestTick 13 = .ok (.aload_n 0, 1) := by decide +kernel
theorem dX9_latestTick_14 : decode cX9_latestTick 14 = .ok (.iload_n 1, 1) := by decide +kernel
theorem dX9_latestTick_15 : decode cX9_latestTick 15 = .ok (.aload_n 0, 1) := by decide +kernel
theorem dX9_latestTick_16 : decode cX9_latestTick 16 = .ok (.getfield 9, 3) := by decide +kernel
theorem dX9_latestTick_19 : decode cX9_latestTick 19 = .ok (.iload_n 1, 1) := by decide +kernel
theorem dX9_latestTick_20 : decode cX9_latestTick 20 = .ok (.iaload, 1) := by decide +kernel
theorem dX9_latestTick_21 : decode cX9_latestTick 21 = .ok (.iconst 1, 1) := by decide +kernel
theorem dX9_latestTick_22 : decode cX9_latestTick 22 = .ok (.isub, 1) := by decide +kernel
theorem dX9_latestTick_23 : decode cX9_latestTick 23 = .ok (.invokevirtual 18, 3) := by decide +kernel
theorem dX9_latestTick_26 : decode cX9_latestTick 26 = .ok (.ireturn, 1) := by decide +kernel
theorem dX9_append_0 : decode cX9_append 0 = .ok (.aload_n 0, 1) := by decide +kernel
theorem dX9_append_1 : decode cX9_append 1 = .ok (.getfield 9, 3) := by decide +kernel
theorem dX9_append_4 : decode cX9_append 4 = .ok (.iload_n 1, 1) := by decide +kernel
theorem dX9_append_5 : decode cX9_append 5 = .ok (.iaload, 1) := by decide +kernel
theorem dX9_append_6 : decode cX9_append 6 = .ok (.bipush 24, 2) := by decide +kernel
theorem dX9_append_8 : decode cX9_append 8 = .ok (.if_icmp .ge 30, 3) := by decide +kernel
theorem dX9_append_11 : decode cX9_append 11 = .ok (.aload_n 0, 1) := by decide +kernel
theorem dX9_append_12 : decode cX9_append 12 = .ok (.getfield 15, 3) := by decide +kernel
theorem dX9_append_15 : decode cX9_append 15 = .ok (.iload_n 1, 1) := by decide +kernel
theorem dX9_append_16 : decode cX9_append 16 = .ok (.bipush 24, 2) := by decide +kernel
theorem dX9_append_18 : decode cX9_append 18 = .ok (.imul, 1) := by decide +kernel
theorem dX9_append_19 : decode cX9_append 19 = .ok (.aload_n 0, 1) := by decide +kernel
theorem dX9_append_20 : decode cX9_append 20 = .ok (.getfield 9, 3) := by decide +kernel
theorem dX9_append_23 : decode cX9_append 23 = .ok (.iload_n 1, 1) := by decide +kernel
theorem dX9_append_24 : decode cX9_append 24 = .ok (.iaload, 1) := by decide +kernel
theorem dX9_append_25 : decode cX9_append 25 = .ok (.iadd, 1) := by decide +kernel
theorem dX9_append_26 : decode cX9_append 26 = .ok (.iload_n 2, 1) := by decide +kernel
theorem dX9_append_27 : decode cX9_append 27 = .ok (.iastore, 1) := by decide +kernel
theorem dX9_append_28 : decode cX9_append 28 = .ok (.aload_n 0, 1) := by decide +kernel
theorem dX9_append_29 : decode cX9_append 29 = .ok (.getfield 9, 3) := by decide +kernel
theorem dX9_append_32 : decode cX9_append 32 = .ok (.iload_n 1, 1) := by decide +kernel
theorem dX9_append_33 : decode cX9_append 33 = .ok (.dup2, 1) := by decide +kernel
theorem dX9_append_34 : decode cX9_append 34 = .ok (.iaload, 1) := by decide +kernel
theorem dX9_append_35 : decode cX9_append 35 = .ok (.iconst 1, 1) := by decide +kernel
theorem dX9_append_36 : decode cX9_append 36 = .ok (.iadd, 1) := by decide +kernel
theorem dX9_append_37 : decode cX9_append 37 = .ok (.iastore, 1) := by decide +kernel
theorem dX9_append_38 : decode cX9_append 38 = .ok (.return_, 1) := by decide +kernel
theorem dX9_removeLatest_0 : decode cX9_removeLatest 0 = .ok (.aload_n 0, 1) := by decide +kernel
theorem dX9_removeLatest_1 : decode cX9_removeLatest 1 = .ok (.getfield 9, 3) := by decide +kernel
theorem dX9_removeLatest_4 : decode cX9_removeLatest 4 = .ok (.iload_n 1, 1) := by decide +kernel
theorem dX9_removeLatest_5 : decode cX9_removeLatest 5 = .ok (.iaload, 1) := by decide +kernel
theorem dX9_removeLatest_6 : decode cX9_removeLatest 6 = .ok (.ifCond .le 13, 3) := by decide +kernel
theorem dX9_removeLatest_9 : decode cX9_removeLatest 9 = .ok (.aload_n 0, 1) := by decide +kernel
theorem dX9_removeLatest_10 : decode cX9_removeLatest 10 = .ok (.getfield 9, 3) := by decide +kernel
theorem dX9_removeLatest_13 : decode cX9_removeLatest 13 = .ok (.iload_n 1, 1) := by decide +kernel
theorem dX9_removeLatest_14 : decode cX9_removeLatest 14 = .ok (.dup2, 1) := by decide +kernel
theorem dX9_removeLatest_15 : decode cX9_removeLatest 15 = .ok (.iaload, 1) := by decide +kernel
theorem dX9_removeLatest_16 : decode cX9_removeLatest 16 = .ok (.iconst 1, 1) := by decide +kernel
theorem dX9_removeLatest_17 : decode cX9_removeLatest 17 = .ok (.isub, 1) := by decide +kernel
theorem dX9_removeLatest_18 : decode cX9_removeLatest 18 = .ok (.iastore, 1) := by decide +kernel
theorem dX9_removeLatest_19 : decode cX9_removeLatest 19 = .ok (.return_, 1) := by decide +kernel
theorem dX9_clear_0 : decode cX9_clear 0 = .ok (.aload_n 0, 1) := by decide +kernel
theorem dX9_clear_1 : decode cX9_clear 1 = .ok (.getfield 9, 3) := by decide +kernel
theorem dX9_clear_4 : decode cX9_clear 4 = .ok (.iload_n 1, 1) := by decide +kernel
theorem dX9_clear_5 : decode cX9_clear 5 = .ok (.iconst 0, 1) := by decide +kernel
theorem dX9_clear_6 : decode cX9_clear 6 = .ok (.iastore, 1) := by decide +kernel
theorem dX9_clear_7 : decode cX9_clear 7 = .ok (.return_, 1) := by decide +kernel
theorem dX9_countAll_0 : decode cX9_countAll 0 = .ok (.iconst 0, 1) := by decide +kernel
theorem dX9_countAll_1 : decode cX9_countAll 1 = .ok (.istore_n 1, 1) := by decide +kernel
theorem dX9_countAll_2 : decode cX9_countAll 2 = .ok (.iconst 0, 1) := by decide +kernel
theorem dX9_countAll_3 : decode cX9_countAll 3 = .ok (.istore_n 2, 1) := by decide +kernel
theorem dX9_countAll_4 : decode cX9_countAll 4 = .ok (.iload_n 2, 1) := by decide +kernel
theorem dX9_countAll_5 : decode cX9_countAll 5 = .ok (.iconst 4, 1) := by decide +kernel
theorem dX9_countAll_6 : decode cX9_countAll 6 = .ok (.if_icmp .ge 18, 3) := by decide +kernel
theorem dX9_countAll_9 : decode cX9_countAll 9 = .ok (.iload_n 1, 1) := by decide +kernel
theorem dX9_countAll_10 : decode cX9_countAll 10 = .ok (.aload_n 0, 1) := by decide +kernel
theorem dX9_countAll_11 : decode cX9_countAll 11 = .ok (.getfield 9, 3) := by decide +kernel
theorem dX9_countAll_14 : decode cX9_countAll 14 = .ok (.iload_n 2, 1) := by decide +kernel
theorem dX9_countAll_15 : decode cX9_countAll 15 = .ok (.iaload, 1) := by decide +kernel
theorem dX9_countAll_16 : decode cX9_countAll 16 = .ok (.iadd, 1) := by decide +kernel
theorem dX9_countAll_17 : decode cX9_countAll 17 = .ok (.istore_n 1, 1) := by decide +kernel
theorem dX9_countAll_18 : decode cX9_countAll 18 = .ok (.iinc 2 1, 3) := by decide +kernel
theorem dX9_countAll_21 : decode cX9_countAll 21 = .ok (.goto (-17), 3) := by decide +kernel
theorem dX9_countAll_24 : decode cX9_countAll 24 = .ok (.iload_n 1, 1) := by decide +kernel
theorem dX9_countAll_25 : decode cX9_countAll 25 = .ok (.ireturn, 1) := by decide +kernel
set_option maxRecDepth 20000 in
theorem ggX10_init_X7_init : GoodIn wsX10_init wsX7_init := goodIn_r _ [38, 39, 2, 3, 40, 41, 130] (by decide +kernel) (by decide +kernel)
set_option maxRecDepth 20000 in
theorem gX10_init_X7_init_n9 : GoodIn wsX10_init (wsX7_init) := ggX10_init_X7_init
set_option maxRecDepth 20000 in
theorem ggX10_init_X4_init : GoodIn wsX10_init wsX4_init := goodIn_r _ [43, 44, 2, 3, 40, 45, 46, 47, 48, 49, 50, 51, 140, 141, 142, 143, 144, 145, 146] (by decide +kernel) (by decide +kernel)
set_option maxRecDepth 20000 in
theorem gX10_init_X4_init_n18 : GoodIn wsX10_init (wsX4_init) := ggX10_init_X4_init
set_option maxRecDepth 20000 in
theorem ggX10_init_X3_init : GoodIn wsX10_init wsX3_init := goodIn_r _ [54, 55, 2, 3, 56, 57, 58, 59, 60, 61, 62, 63, 64, 65, 66, 67, 68, 69, 70, 71, 72, 73, 74, 75, 40, 76, 77, 78, 79, 80, 81, 82, 83, 84, 85, 86, 87, 88, 147, 148, 149, 150, 151, 152, 153, 154, 155, 156, 157, 182, 183, 184, 185, 186, 187, 188, 189, 190] (by decide +kernel) (by decide +kernel)
set_option maxRecDepth 20000 in
theorem gX10_init_X3_init : GoodIn wsX10_init (wsX3_init) := ggX10_init_X3_init
set_option maxRecDepth 20000 in
theorem ggX10_init_X1_init : GoodIn wsX10_init wsX1_init := goodIn_r _ [91, 92, 2, 3, 93, 40, 94, 95, 96, 158, 159, 160, 161] (by decide +kernel) (by decide +kernel)
set_option maxRecDepth 20000 in
theorem gX10_init_X1_init : GoodIn wsX10_init (wsX1_init) := ggX10_init_X1_init
set_option maxRecDepth 20000 in
theorem ggX10_init_X9_init : GoodIn wsX10_init wsX9_init := goodIn_r _ [98, 99, 2, 3, 40, 100, 101, 162, 163] (by decide +kernel) (by decide +kernel)
set_option maxRecDepth 20000 in
theorem gX10_init_X9_init_n41 : GoodIn wsX10_init (wsX9_init) := ggX10_init_X9_init
set_option maxRecDepth 20000 in
theorem ggX10_init_X6_init : GoodIn wsX10_init wsX6_init := goodIn_r _ [104, 105, 2, 3, 40, 106, 107, 108, 109, 110, 111, 112, 164, 165, 166, 167, 168, 169, 170] (by decide +kernel) (by decide +kernel)
set_option maxRecDepth 20000 in
theorem gX10_init_X6_init : GoodIn wsX10_init (wsX6_init) := ggX10_init_X6_init
set_option maxRecDepth 20000 in
theorem ggX10_init_X8_init : GoodIn wsX10_init wsX8_init := goodIn_r _ [114, 115, 2, 3, 40, 116, 117, 118, 171, 172, 173] (by decide +kernel) (by decide +kernel)
set_option maxRecDepth 20000 in
theorem gX10_init_X8_init_n57 : GoodIn wsX10_init (wsX8_init) := ggX10_init_X8_init
set_option maxRecDepth 20000 in
theorem ggX10_init_X5_init : GoodIn wsX10_init wsX5_init := goodIn_r _ [120, 121, 2, 3, 122, 40, 123, 124, 125, 126, 127, 128, 129, 174, 175, 176, 177, 178, 179, 180, 181] (by decide +kernel) (by decide +kernel)
set_option maxRecDepth 20000 in
theorem gX10_init_X5_init_n64 : GoodIn wsX10_init (wsX5_init) := ggX10_init_X5_init
theorem dX10_init_0 : decode cX10_init 0 = .ok (.aload_n 0, 1) := by decide +kernel
theorem dX10_init_1 : decode cX10_init 1 = .ok (.invokespecial 1, 3) := by decide +kernel
theorem dX10_init_4 : decode cX10_init 4 = .ok (.aload_n 0, 1) := by decide +kernel
theorem dX10_init_5 : decode cX10_init 5 = .ok (.new 7, 3) := by decide +kernel
theorem dX10_init_8 : decode cX10_init 8 = .ok (.dup, 1) := by decide +kernel
theorem dX10_init_9 : decode cX10_init 9 = .ok (.invokespecial 9, 3) := by decide +kernel
theorem dX10_init_12 : decode cX10_init 12 = .ok (.putfield 10, 3) := by decide +kernel
theorem dX10_init_15 : decode cX10_init 15 = .ok (.aload_n 0, 1) := by decide +kernel
theorem dX10_init_16 : decode cX10_init 16 = .ok (.new 16, 3) := by decide +kernel
theorem dX10_init_19 : decode cX10_init 19 = .ok (.dup, 1) := by decide +kernel
theorem dX10_init_20 : decode cX10_init 20 = .ok (.invokespecial 18, 3) := by decide +kernel
theorem dX10_init_23 : decode cX10_init 23 = .ok (.putfield 19, 3) := by decide +kernel
theorem dX10_init_26 : decode cX10_init 26 = .ok (.aload_n 0, 1) := by decide +kernel
theorem dX10_init_27 : decode cX10_init 27 = .ok (.new 23, 3) := by decide +kernel
theorem dX10_init_30 : decode cX10_init 30 = .ok (.dup, 1) := by decide +kernel
theorem dX10_init_31 : decode cX10_init 31 = .ok (.aload_n 0, 1) := by decide +kernel
theorem dX10_init_32 : decode cX10_init 32 = .ok (.getfield 19, 3) := by decide +kernel
theorem dX10_init_35 : decode cX10_init 35 = .ok (.aload_n 0, 1) := by decide +kernel
theorem dX10_init_36 : decode cX10_init 36 = .ok (.getfield 10, 3) := by decide +kernel
theorem dX10_init_39 : decode cX10_init 39 = .ok (.invokespecial 25, 3) := by decide +kernel
theorem dX10_init_42 : decode cX10_init 42 = .ok (.putfield 28, 3) := by decide +kernel
theorem dX10_init_45 : decode cX10_init 45 = .ok (.aload_n 0, 1) := by decide +kernel
theorem dX10_init_46 : decode cX10_init 46 = .ok (.new 32, 3) := by decide +kernel
theorem dX10_init_49 : decode cX10_init 49 = .ok (.dup, 1) := by decide +kernel
theorem dX10_init_50 : decode cX10_init 50 = .ok (.aload_n 0, 1) := by decide +kernel
theorem dX10_init_51 : decode cX10_init 51 = .ok (.getfield 19, 3) := by decide +kernel
theorem dX10_init_54 : decode cX10_init 54 = .ok (.aload_n 0, 1) := by decide +kernel
theorem dX10_init_55 : decode cX10_init 55 = .ok (.getfield 10, 3) := by decide +kernel
theorem dX10_init_58 : decode cX10_init 58 = .ok (.invokespecial 34, 3) := by decide +kernel
theorem dX10_init_61 : decode cX10_init 61 = .ok (.putfield 35, 3) := by decide +kernel
theorem dX10_init_64 : decode cX10_init 64 = .ok (.aload_n 0, 1) := by decide +kernel
theorem dX10_init_65 : decode cX10_init 65 = .ok (.new 39, 3) := by decide +kernel
theorem dX10_init_68 : decode cX10_init 68 = .ok (.dup, 1) := by decide +kernel
theorem dX10_init_69 : decode cX10_init 69 = .ok (.invokespecial 41, 3) := by decide +kernel
theorem dX10_init_72 : decode cX10_init 72 = .ok (.putfield 42, 3) := by decide +kernel
theorem dX10_init_75 : decode cX10_init 75 = .ok (.aload_n 0, 1) := by decide +kernel
theorem dX10_init_76 : decode cX10_init 76 = .ok (.new 46, 3) := by decide +kernel
theorem dX10_init_79 : decode cX10_init 79 = .ok (.dup, 1) := by decide +kernel
theorem dX10_init_80 : decode cX10_init 80 = .ok (.aload_n 0, 1) := by decide +kernel
theorem dX10_init_81 : decode cX10_init 81 = .ok (.getfield 19, 3) := by decide +kernel
theorem dX10_init_84 : decode cX10_init 84 = .ok (.aload_n 0, 1) := by decide +kernel
theorem dX10_init_85 : decode cX10_init 85 = .ok (.getfield 10, 3) := by decide +kernel
theorem dX10_init_88 : decode cX10_init 88 = .ok (.aload_n 0, 1) := by decide +kernel
theorem dX10_init_89 : decode cX10_init 89 = .ok (.getfield 42, 3) := by decide +kernel
theorem dX10_init_92 : decode cX10_init 92 = .ok (.invokespecial 48, 3) := by decide +kernel
theorem dX10_init_95 : decode cX10_init 95 = .ok (.putfield 51, 3) := by decide +kernel
theorem dX10_init_98 : decode cX10_init 98 = .ok (.aload_n 0, 1) := by decide +kernel
theorem dX10_init_99 : decode cX10_init 99 = .ok (.new 55, 3) := by decide +kernel
theorem dX10_init_102 : decode cX10_init 102 = .ok (.dup, 1) := by decide +kernel
theorem dX10_init_103 : decode cX10_init 103 = .ok (.invokespecial 57, 3) := by decide +kernel
theorem dX10_init_106 : decode cX10_init 106 = .ok (.putfield 58, 3) := by decide +kernel
theorem dX10_init_109 : decode cX10_init 109 = .ok (.aload_n 0, 1) := by decide +kernel
theorem dX10_init_110 : decode cX10_init 110 = .ok (.new 62, 3) := by decide +kernel
theorem dX10_init_113 : decode cX10_init 113 = .ok (.dup, 1) := by decide +kernel
theorem dX10_init_114 : decode cX10_init 114 = .ok (.invokespecial 64, 3) := by decide +kernel
theorem dX10_init_117 : decode cX10_init 117 = .ok (.putfield 65, 3) := by decide +kernel
theorem dX10_init_120 : decode cX10_init 120 = .ok (.aload_n 0, 1) := by decide +kernel
theorem dX10_init_121 : decode cX10_init 121 = .ok (.iconst 0, 1) := by decide +kernel
theorem dX10_init_122 : decode cX10_init 122 = .ok (.putfield 69, 3) := by decide +kernel
theorem dX10_init_125 : decode cX10_init 125 = .ok (.return_, 1) := by decide +kernel
set_option maxRecDepth 20000 in
theorem ggX10_note_X10_isBelow : GoodIn wsX10_note wsX10_isBelow := goodIn_r _ [9] (by decide +kernel) (by decide +kernel)
set_option maxRecDepth 20000 in
theorem gX10_note_X10_isBelow : GoodIn wsX10_note (va_wsS RX10 73 yX10_isBelow wsX10_isBelow) := goodIn_app (goodIn_of _ (by decide +kernel)) ggX10_note_X10_isBelow
set_option maxRecDepth 20000 in
theorem ggX10_note_X10_isTick : GoodIn wsX10_note wsX10_isTick := goodIn_r _ [12] (by decide +kernel) (by decide +kernel)
set_option maxRecDepth 20000 in
theorem gX10_note_X10_isTick : GoodIn wsX10_note (va_wsS RX10 77 yX10_isTick wsX10_isTick) := goodIn_app (goodIn_of _ (by decide +kernel)) ggX10_note_X10_isTick
set_option maxRecDepth 20000 in
theorem ggX10_note_X10_finding : GoodIn wsX10_note wsX10_finding := goodIn_r _ [16, 17, 67, 68, 69, 70, 71, 72, 73, 74, 75] (by decide +kernel) (by decide +kernel)
set_option maxRecDepth 20000 in
theorem gX10_note_X10_finding : GoodIn wsX10_note (wsV RX10 82 RX10 yX10_finding wsX10_finding) := goodIn_app (goodIn_of _ (by decide +kernel)) ggX10_note_X10_finding
set_option maxRecDepth 20000 in
theorem ggX10_note_X4_latestTick : GoodIn wsX10_note wsX4_latestTick := goodIn_r _ [22, 23, 24, 76, 77, 78, 79, 80, 81, 82] (by decide +kernel) (by decide +kernel)
set_option maxRecDepth 20000 in
theorem gX10_note_X4_latestTick : GoodIn wsX10_note (wsV RX10 86 RX4 yX4_latestTick wsX4_latestTick) := goodIn_app (goodIn_of _ (by decide +kernel)) ggX10_note_X4_latestTick
set_option maxRecDepth 20000 in
theorem ggX10_note_X10_keep : GoodIn wsX10_note wsX10_keep := goodIn_r _ [28, 29, 30, 31, 32, 33, 34, 35, 36, 37, 38, 39, 40, 41, 42, 43, 44, 45, 46, 47, 48, 49, 50, 67, 68, 69, 70, 71, 72, 73, 74, 75, 83, 84, 85, 86, 87, 88, 89, 90, 91, 92, 93, 94, 95, 96, 97, 98, 99, 100, 101] (by decide +kernel) (by decide +kernel)
set_option maxRecDepth 20000 in
theorem gX10_note_X10_keep : GoodIn wsX10_note (wsV RX10 95 RX10 yX10_keep wsX10_keep) := goodIn_app (goodIn_of _ (by decide +kernel)) ggX10_note_X10_keep
set_option maxRecDepth 20000 in
theorem ggX10_note_X4_append : GoodIn wsX10_note wsX4_append := goodIn_r _ [54, 23, 55, 24, 56, 57, 58, 59, 60, 61, 62, 21, 63, 64, 65, 66, 76, 77, 78, 79, 80, 81, 82] (by decide +kernel) (by decide +kernel)
set_option maxRecDepth 20000 in
theorem gX10_note_X4_append : GoodIn wsX10_note (wsV RX10 99 RX4 yX4_append wsX4_append) := goodIn_app (goodIn_of _ (by decide +kernel)) ggX10_note_X4_append
theorem dX10_note_0 : decode cX10_note 0 = .ok (.iload_n 1, 1) := by decide +kernel
theorem dX10_note_1 : decode cX10_note 1 = .ok (.iconst 4, 1) := by decide +kernel
theorem dX10_note_2 : decode cX10_note 2 = .ok (.invokestatic 73, 3) := by decide +kernel
theorem dX10_note_5 : decode cX10_note 5 = .ok (.ifCond .eq 18, 3) := by decide +kernel
theorem dX10_note_8 : decode cX10_note 8 = .ok (.iload_n 2, 1) := by decide +kernel
theorem dX10_note_9 : decode cX10_note 9 = .ok (.invokestatic 77, 3) := by decide +kernel
theorem dX10_note_12 : decode cX10_note 12 = .ok (.ifCond .eq 11, 3) := by decide +kernel
theorem dX10_note_15 : decode cX10_note 15 = .ok (.iload_n 3, 1) := by decide +kernel
theorem dX10_note_16 : decode cX10_note 16 = .ok (.iconst 5, 1) := by decide +kernel
theorem dX10_note_17 : decode cX10_note 17 = .ok (.invokestatic 73, 3) := by decide +kernel
theorem dX10_note_20 : decode cX10_note 20 = .ok (.ifCond .ne 10, 3) := by decide +kernel
theorem dX10_note_23 : decode cX10_note 23 = .ok (.aload_n 0, 1) := by decide +kernel
theorem dX10_note_24 : decode cX10_note 24 = .ok (.ldc 81, 2) := by decide +kernel
theorem dX10_note_26 : decode cX10_note 26 = .ok (.invokevirtual 82, 3) := by decide +kernel
theorem dX10_note_29 : decode cX10_note 29 = .ok (.ireturn, 1) := by decide +kernel
theorem dX10_note_30 : decode cX10_note 30 = .ok (.iload_n 2, 1) := by decide +kernel
theorem dX10_note_31 : decode cX10_note 31 = .ok (.aload_n 0, 1) := by decide +kernel
theorem dX10_note_32 : decode cX10_note 32 = .ok (.getfield 19, 3) := by decide +kernel
theorem dX10_note_35 : decode cX10_note 35 = .ok (.invokevirtual 86, 3) := by decide +kernel
theorem dX10_note_38 : decode cX10_note 38 = .ok (.if_icmp .gt 10, 3) := by decide +kernel
theorem dX10_note_41 : decode cX10_note 41 = .ok (.aload_n 0, 1) := by decide +kernel
theorem dX10_note_42 : decode cX10_note 42 = .ok (.ldc 90, 2) := by decide +kernel
theorem dX10_note_44 : decode cX10_note 44 = .ok (.invokevirtual 82, 3) := by decide +kernel
theorem dX10_note_47 : decode cX10_note 47 = .ok (.ireturn, 1) := by decide +kernel
theorem dX10_note_48 : decode cX10_note 48 = .ok (.aload_n 0, 1) := by decide +kernel
theorem dX10_note_49 : decode cX10_note 49 = .ok (.getfield 19, 3) := by decide +kernel
theorem dX10_note_52 : decode cX10_note 52 = .ok (.getfield 91, 3) := by decide +kernel
theorem dX10_note_55 : decode cX10_note 55 = .ok (.bipush 20, 2) := by decide +kernel
theorem dX10_note_57 : decode cX10_note 57 = .ok (.if_icmp .lt 10, 3) := by decide +kernel
theorem dX10_note_60 : decode cX10_note 60 = .ok (.aload_n 0, 1) := by decide +kernel
theorem dX10_note_61 : decode cX10_note 61 = .ok (.ldc 94, 2) := by decide +kernel
theorem dX10_note_63 : decode cX10_note 63 = .ok (.invokevirtual 82, 3) := by decide +kernel
theorem dX10_note_66 : decode cX10_note 66 = .ok (.ireturn, 1) := by decide +kernel
theorem dX10_note_67 : decode cX10_note 67 = .ok (.aload_n 0, 1) := by decide +kernel
theorem dX10_note_68 : decode cX10_note 68 = .ok (.iconst 0, 1) := by decide +kernel
theorem dX10_note_69 : decode cX10_note 69 = .ok (.iconst 0, 1) := by decide +kernel
theorem dX10_note_70 : decode cX10_note 70 = .ok (.iconst 0, 1) := by decide +kernel
theorem dX10_note_71 : decode cX10_note 71 = .ok (.invokevirtual 95, 3) := by decide +kernel
theorem dX10_note_74 : decode cX10_note 74 = .ok (.aload_n 0, 1) := by decide +kernel
theorem dX10_note_75 : decode cX10_note 75 = .ok (.getfield 19, 3) := by decide +kernel
theorem dX10_note_78 : decode cX10_note 78 = .ok (.iload_n 1, 1) := by decide +kernel
theorem dX10_note_79 : decode cX10_note 79 = .ok (.iload_n 2, 1) := by decide +kernel
theorem dX10_note_80 : decode cX10_note 80 = .ok (.iload_n 3, 1) := by decide +kernel
theorem dX10_note_81 : decode cX10_note 81 = .ok (.iconst (-1), 1) := by decide +kernel
theorem dX10_note_82 : decode cX10_note 82 = .ok (.invokevirtual 99, 3) := by decide +kernel
theorem dX10_note_85 : decode cX10_note 85 = .ok (.aload_n 0, 1) := by decide +kernel
theorem dX10_note_86 : decode cX10_note 86 = .ok (.getfield 19, 3) := by decide +kernel
theorem dX10_note_89 : decode cX10_note 89 = .ok (.getfield 91, 3) := by decide +kernel
theorem dX10_note_92 : decode cX10_note 92 = .ok (.iconst 1, 1) := by decide +kernel
theorem dX10_note_93 : decode cX10_note 93 = .ok (.isub, 1) := by decide +kernel
theorem dX10_note_94 : decode cX10_note 94 = .ok (.ireturn, 1) := by decide +kernel
set_option maxRecDepth 20000 in
theorem ggX10_drop_X10_finding : GoodIn wsX10_drop wsX10_finding := goodIn_r _ [13, 14, 52, 53, 54, 55, 56, 57, 58, 59, 60] (by decide +kernel) (by decide +kernel)
set_option maxRecDepth 20000 in
theorem gX10_drop_X10_finding : GoodIn wsX10_drop (wsV RX10 82 RX10 yX10_finding wsX10_finding) := goodIn_app (goodIn_of _ (by decide +kernel)) ggX10_drop_X10_finding
set_option maxRecDepth 20000 in
theorem ggX10_drop_X10_keep : GoodIn wsX10_drop wsX10_keep := goodIn_r _ [18, 6, 19, 20, 21, 22, 23, 24, 25, 26, 27, 28, 29, 30, 31, 32, 33, 34, 35, 36, 37, 38, 39, 52, 53, 54, 55, 56, 57, 58, 59, 60, 68, 69, 70, 71, 72, 73, 74, 75, 76, 77, 78, 79, 80, 81, 82, 83, 84, 85, 86] (by decide +kernel) (by decide +kernel)
set_option maxRecDepth 20000 in
theorem gX10_drop_X10_keep : GoodIn wsX10_drop (wsV RX10 95 RX10 yX10_keep wsX10_keep) := goodIn_app (goodIn_of _ (by decide +kernel)) ggX10_drop_X10_keep
set_option maxRecDepth 20000 in
theorem ggX10_drop_X5_keepPlace : GoodIn wsX10_drop wsX5_keepPlace := goodIn_r _ [43, 44, 25, 45, 68, 69, 70, 71, 72, 73, 74, 75] (by decide +kernel) (by decide +kernel)
set_option maxRecDepth 20000 in
theorem gX10_drop_X5_keepPlace : GoodIn wsX10_drop (wsV RX10 117 RX5 yX5_keepPlace wsX5_keepPlace) := goodIn_app (goodIn_of _ (by decide +kernel)) ggX10_drop_X5_keepPlace
set_option maxRecDepth 20000 in
theorem ggX10_drop_X4_removeLatest : GoodIn wsX10_drop wsX4_removeLatest := goodIn_r _ [50, 51, 61, 62, 63, 64, 65, 66, 67] (by decide +kernel) (by decide +kernel)
set_option maxRecDepth 20000 in
theorem gX10_drop_X4_removeLatest : GoodIn wsX10_drop (wsV RX10 121 RX4 yX4_removeLatest wsX4_removeLatest) := goodIn_app (goodIn_of _ (by decide +kernel)) ggX10_drop_X4_removeLatest
theorem dX10_drop_0 : decode cX10_drop 0 = .ok (.aload_n 0, 1) := by decide +kernel
theorem dX10_drop_1 : decode cX10_drop 1 = .ok (.getfield 19, 3) := by decide +kernel
theorem dX10_drop_4 : decode cX10_drop 4 = .ok (.getfield 91, 3) := by decide +kernel
theorem dX10_drop_7 : decode cX10_drop 7 = .ok (.ifCond .ne 10, 3) := by decide +kernel
theorem dX10_drop_10 : decode cX10_drop 10 = .ok (.aload_n 0, 1) := by decide +kernel
theorem dX10_drop_11 : decode cX10_drop 11 = .ok (.ldc 103, 2) := by decide +kernel
theorem dX10_drop_13 : decode cX10_drop 13 = .ok (.invokevirtual 82, 3) := by decide +kernel
theorem dX10_drop_16 : decode cX10_drop 16 = .ok (.ireturn, 1) := by decide +kernel
theorem dX10_drop_17 : decode cX10_drop 17 = .ok (.aload_n 0, 1) := by decide +kernel
theorem dX10_drop_18 : decode cX10_drop 18 = .ok (.getfield 19, 3) := by decide +kernel
theorem dX10_drop_21 : decode cX10_drop 21 = .ok (.getfield 91, 3) := by decide +kernel
theorem dX10_drop_24 : decode cX10_drop 24 = .ok (.iconst 1, 1) := by decide +kernel
theorem dX10_drop_25 : decode cX10_drop 25 = .ok (.isub, 1) := by decide +kernel
theorem dX10_drop_26 : decode cX10_drop 26 = .ok (.istore_n 1, 1) := by decide +kernel
theorem dX10_drop_27 : decode cX10_drop 27 = .ok (.aload_n 0, 1) := by decide +kernel
theorem dX10_drop_28 : decode cX10_drop 28 = .ok (.iconst 1, 1) := by decide +kernel
theorem dX10_drop_29 : decode cX10_drop 29 = .ok (.aload_n 0, 1) := by decide +kernel
theorem dX10_drop_30 : decode cX10_drop 30 = .ok (.getfield 19, 3) := by decide +kernel
theorem dX10_drop_33 : decode cX10_drop 33 = .ok (.getfield 104, 3) := by decide +kernel
theorem dX10_drop_36 : decode cX10_drop 36 = .ok (.iload_n 1, 1) := by decide +kernel
theorem dX10_drop_37 : decode cX10_drop 37 = .ok (.iaload, 1) := by decide +kernel
theorem dX10_drop_38 : decode cX10_drop 38 = .ok (.aload_n 0, 1) := by decide +kernel
theorem dX10_drop_39 : decode cX10_drop 39 = .ok (.getfield 19, 3) := by decide +kernel
theorem dX10_drop_42 : decode cX10_drop 42 = .ok (.getfield 108, 3) := by decide +kernel
theorem dX10_drop_45 : decode cX10_drop 45 = .ok (.iload_n 1, 1) := by decide +kernel
theorem dX10_drop_46 : decode cX10_drop 46 = .ok (.iaload, 1) := by decide +kernel
theorem dX10_drop_47 : decode cX10_drop 47 = .ok (.invokevirtual 95, 3) := by decide +kernel
theorem dX10_drop_50 : decode cX10_drop 50 = .ok (.aload_n 0, 1) := by decide +kernel
theorem dX10_drop_51 : decode cX10_drop 51 = .ok (.getfield 65, 3) := by decide +kernel
theorem dX10_drop_54 : decode cX10_drop 54 = .ok (.aload_n 0, 1) := by decide +kernel
theorem dX10_drop_55 : decode cX10_drop 55 = .ok (.getfield 19, 3) := by decide +kernel
theorem dX10_drop_58 : decode cX10_drop 58 = .ok (.getfield 111, 3) := by decide +kernel
theorem dX10_drop_61 : decode cX10_drop 61 = .ok (.iload_n 1, 1) := by decide +kernel
theorem dX10_drop_62 : decode cX10_drop 62 = .ok (.iaload, 1) := by decide +kernel
theorem dX10_drop_63 : decode cX10_drop 63 = .ok (.aload_n 0, 1) := by decide +kernel
theorem dX10_drop_64 : decode cX10_drop 64 = .ok (.getfield 19, 3) := by decide +kernel
theorem dX10_drop_67 : decode cX10_drop 67 = .ok (.getfield 114, 3) := by decide +kernel
theorem dX10_drop_70 : decode cX10_drop 70 = .ok (.iload_n 1, 1) := by decide +kernel
theorem dX10_drop_71 : decode cX10_drop 71 = .ok (.iaload, 1) := by decide +kernel
theorem dX10_drop_72 : decode cX10_drop 72 = .ok (.invokevirtual 117, 3) := by decide +kernel
theorem dX10_drop_75 : decode cX10_drop 75 = .ok (.aload_n 0, 1) := by decide +kernel
theorem dX10_drop_76 : decode cX10_drop 76 = .ok (.getfield 19, 3) := by decide +kernel
theorem dX10_drop_79 : decode cX10_drop 79 = .ok (.invokevirtual 121, 3) := by decide +kernel
theorem dX10_drop_82 : decode cX10_drop 82 = .ok (.aload_n 0, 1) := by decide +kernel
theorem dX10_drop_83 : decode cX10_drop 83 = .ok (.getfield 19, 3) := by decide +kernel
theorem dX10_drop_86 : decode cX10_drop 86 = .ok (.getfield 91, 3) := by decide +kernel
theorem dX10_drop_89 : decode cX10_drop 89 = .ok (.ireturn, 1) := by decide +kernel
set_option maxRecDepth 20000 in
theorem ggX10_as_X4_hasNote : GoodIn wsX10_as wsX4_hasNote := goodIn_r _ [8, 9, 10, 11, 12, 33, 34, 35, 36, 37, 38, 39] (by decide +kernel) (by decide +kernel)
set_option maxRecDepth 20000 in
theorem gX10_as_X4_hasNote : GoodIn wsX10_as (wsV RX10 124 RX4 yX4_hasNote wsX4_hasNote) := goodIn_app (goodIn_of _ (by decide +kernel)) ggX10_as_X4_hasNote
set_option maxRecDepth 20000 in
theorem ggX10_as_X10_isBelow : GoodIn wsX10_as wsX10_isBelow := goodIn_r _ [12] (by decide +kernel) (by decide +kernel)
set_option maxRecDepth 20000 in
theorem gX10_as_X10_isBelow : GoodIn wsX10_as (va_wsS RX10 73 yX10_isBelow wsX10_isBelow) := goodIn_app (goodIn_of _ (by decide +kernel)) ggX10_as_X10_isBelow
set_option maxRecDepth 20000 in
theorem ggX10_as_X10_finding : GoodIn wsX10_as wsX10_finding := goodIn_r _ [17, 18, 24, 25, 26, 27, 28, 29, 30, 31, 32] (by decide +kernel) (by decide +kernel)
set_option maxRecDepth 20000 in
theorem gX10_as_X10_finding : GoodIn wsX10_as (wsV RX10 82 RX10 yX10_finding wsX10_finding) := goodIn_app (goodIn_of _ (by decide +kernel)) ggX10_as_X10_finding
set_option maxRecDepth 20000 in
theorem ggX10_as_X4_isOfKind : GoodIn wsX10_as wsX4_isOfKind := goodIn_r _ [22, 23, 33, 34, 35, 36, 37, 38, 39] (by decide +kernel) (by decide +kernel)
set_option maxRecDepth 20000 in
theorem gX10_as_X4_isOfKind : GoodIn wsX10_as (wsV RX10 127 RX4 yX4_isOfKind wsX4_isOfKind) := goodIn_app (goodIn_of _ (by decide +kernel)) ggX10_as_X4_isOfKind
theorem dX10_as_0 : decode cX10_as 0 = .ok (.aload_n 0, 1) := by decide +kernel
theorem dX10_as_1 : decode cX10_as 1 = .ok (.getfield 19, 3) := by decide +kernel
theorem dX10_as_4 : decode cX10_as 4 = .ok (.iload_n 1, 1) := by decide +kernel
theorem dX10_as_5 : decode cX10_as 5 = .ok (.invokevirtual 124, 3) := by decide +kernel
theorem dX10_as_8 : decode cX10_as 8 = .ok (.ifCond .eq 11, 3) := by decide +kernel
theorem dX10_as_11 : decode cX10_as 11 = .ok (.iload_n 2, 1) := by decide +kernel
theorem dX10_as_12 : decode cX10_as 12 = .ok (.iconst 4, 1) := by decide +kernel
theorem dX10_as_13 : decode cX10_as 13 = .ok (.invokestatic 73, 3) := by decide +kernel
theorem dX10_as_16 : decode cX10_as 16 = .ok (.ifCond .ne 10, 3) := by decide +kernel
theorem dX10_as_19 : decode cX10_as 19 = .ok (.aload_n 0, 1) := by decide +kernel
theorem dX10_as_20 : decode cX10_as 20 = .ok (.ldc 81, 2) := by decide +kernel
theorem dX10_as_22 : decode cX10_as 22 = .ok (.invokevirtual 82, 3) := by decide +kernel
theorem dX10_as_25 : decode cX10_as 25 = .ok (.ireturn, 1) := by decide +kernel
theorem dX10_as_26 : decode cX10_as 26 = .ok (.aload_n 0, 1) := by decide +kernel
theorem dX10_as_27 : decode cX10_as 27 = .ok (.getfield 19, 3) := by decide +kernel
theorem dX10_as_30 : decode cX10_as 30 = .ok (.iload_n 1, 1) := by decide +kernel
theorem dX10_as_31 : decode cX10_as 31 = .ok (.iload_n 2, 1) := by decide +kernel
theorem dX10_as_32 : decode cX10_as 32 = .ok (.invokevirtual 127, 3) := by decide +kernel
theorem dX10_as_35 : decode cX10_as 35 = .ok (.ifCond .eq 7, 3) := by decide +kernel
theorem dX10_as_38 : decode cX10_as 38 = .ok (.iload_n 1, 1) := by decide +kernel
theorem dX10_as_39 : decode cX10_as 39 = .ok (.goto 9, 3) := by decide +kernel
theorem dX10_as_42 : decode cX10_as 42 = .ok (.aload_n 0, 1) := by decide +kernel
theorem dX10_as_43 : decode cX10_as 43 = .ok (.ldc 130, 2) := by decide +kernel
theorem dX10_as_45 : decode cX10_as 45 = .ok (.invokevirtual 82, 3) := by decide +kernel
theorem dX10_as_48 : decode cX10_as 48 = .ok (.ireturn, 1) := by decide +kernel
set_option maxRecDepth 20000 in
theorem ggX10_of_X4_hasNote : GoodIn wsX10_of wsX4_hasNote := goodIn_r _ [10, 11, 12, 13, 14, 35, 36, 37, 38, 39, 40, 41] (by decide +kernel) (by decide +kernel)
set_option maxRecDepth 20000 in
theorem gX10_of_X4_hasNote : GoodIn wsX10_of (wsV RX10 124 RX4 yX4_hasNote wsX4_hasNote) := goodIn_app (goodIn_of _ (by decide +kernel)) ggX10_of_X4_hasNote
set_option maxRecDepth 20000 in
theorem ggX10_of_X10_finding : GoodIn wsX10_of wsX10_finding := goodIn_r _ [18, 19, 26, 27, 28, 29, 30, 31, 32, 33, 34] (by decide +kernel) (by decide +kernel)
set_option maxRecDepth 20000 in
theorem gX10_of_X10_finding : GoodIn wsX10_of (wsV RX10 82 RX10 yX10_finding wsX10_finding) := goodIn_app (goodIn_of _ (by decide +kernel)) ggX10_of_X10_finding
set_option maxRecDepth 20000 in
theorem ggX10_of_X4_graces : GoodIn wsX10_of wsX4_graces := goodIn_r _ [23, 24, 25, 35, 36, 37, 38, 39, 40, 41] (by decide +kernel) (by decide +kernel)
set_option maxRecDepth 20000 in
theorem gX10_of_X4_graces : GoodIn wsX10_of (wsV RX10 131 RX4 yX4_graces wsX4_graces) := goodIn_app (goodIn_of _ (by decide +kernel)) ggX10_of_X4_graces
theorem dX10_of_0 : decode cX10_of 0 = .ok (.aload_n 0, 1) := by decide +kernel
theorem dX10_of_1 : decode cX10_of 1 = .ok (.getfield 19, 3) := by decide +kernel
theorem dX10_of_4 : decode cX10_of 4 = .ok (.iload_n 1, 1) := by decide +kernel
theorem dX10_of_5 : decode cX10_of 5 = .ok (.invokevirtual 124, 3) := by decide +kernel
theorem dX10_of_8 : decode cX10_of 8 = .ok (.ifCond .ne 10, 3) := by decide +kernel
theorem dX10_of_11 : decode cX10_of 11 = .ok (.aload_n 0, 1) := by decide +kernel
theorem dX10_of_12 : decode cX10_of 12 = .ok (.ldc 81, 2) := by decide +kernel
theorem dX10_of_14 : decode cX10_of 14 = .ok (.invokevirtual 82, 3) := by decide +kernel
theorem dX10_of_17 : decode cX10_of 17 = .ok (.ireturn, 1) := by decide +kernel
theorem dX10_of_18 : decode cX10_of 18 = .ok (.iload_n 2, 1) := by decide +kernel
theorem dX10_of_19 : decode cX10_of 19 = .ok (.tableswitch 70 0 3 #[29, 39, 49, 59], 29) := by decide +kernel
theorem dX10_of_48 : decode cX10_of 48 = .ok (.aload_n 0, 1) := by decide +kernel
theorem dX10_of_49 : decode cX10_of 49 = .ok (.getfield 19, 3) := by decide +kernel
theorem dX10_of_52 : decode cX10_of 52 = .ok (.getfield 104, 3) := by decide +kernel
theorem dX10_of_55 : decode cX10_of 55 = .ok (.iload_n 1, 1) := by decide +kernel
theorem dX10_of_56 : decode cX10_of 56 = .ok (.iaload, 1) := by decide +kernel
theorem dX10_of_57 : decode cX10_of 57 = .ok (.ireturn, 1) := by decide +kernel
theorem dX10_of_58 : decode cX10_of 58 = .ok (.aload_n 0, 1) := by decide +kernel
theorem dX10_of_59 : decode cX10_of 59 = .ok (.getfield 19, 3) := by decide +kernel
theorem dX10_of_62 : decode cX10_of 62 = .ok (.getfield 111, 3) := by decide +kernel
theorem dX10_of_65 : decode cX10_of 65 = .ok (.iload_n 1, 1) := by decide +kernel
theorem dX10_of_66 : decode cX10_of 66 = .ok (.iaload, 1) := by decide +kernel
theorem dX10_of_67 : decode cX10_of 67 = .ok (.ireturn, 1) := by decide +kernel
theorem dX10_of_68 : decode cX10_of 68 = .ok (.aload_n 0, 1) := by decide +kernel
theorem dX10_of_69 : decode cX10_of 69 = .ok (.getfield 19, 3) := by decide +kernel
theorem dX10_of_72 : decode cX10_of 72 = .ok (.getfield 114, 3) := by decide +kernel
theorem dX10_of_75 : decode cX10_of 75 = .ok (.iload_n 1, 1) := by decide +kernel
theorem dX10_of_76 : decode cX10_of 76 = .ok (.iaload, 1) := by decide +kernel
theorem dX10_of_77 : decode cX10_of 77 = .ok (.ireturn, 1) := by decide +kernel
theorem dX10_of_78 : decode cX10_of 78 = .ok (.iconst 1, 1) := by decide +kernel
theorem dX10_of_79 : decode cX10_of 79 = .ok (.aload_n 0, 1) := by decide +kernel
theorem dX10_of_80 : decode cX10_of 80 = .ok (.getfield 19, 3) := by decide +kernel
theorem dX10_of_83 : decode cX10_of 83 = .ok (.iload_n 1, 1) := by decide +kernel
theorem dX10_of_84 : decode cX10_of 84 = .ok (.invokevirtual 131, 3) := by decide +kernel
theorem dX10_of_87 : decode cX10_of 87 = .ok (.iadd, 1) := by decide +kernel
theorem dX10_of_88 : decode cX10_of 88 = .ok (.ireturn, 1) := by decide +kernel
theorem dX10_of_89 : decode cX10_of 89 = .ok (.aload_n 0, 1) := by decide +kernel
theorem dX10_of_90 : decode cX10_of 90 = .ok (.ldc 81, 2) := by decide +kernel
theorem dX10_of_92 : decode cX10_of 92 = .ok (.invokevirtual 82, 3) := by decide +kernel
theorem dX10_of_95 : decode cX10_of 95 = .ok (.ireturn, 1) := by decide +kernel
set_option maxRecDepth 20000 in
theorem ggX10_mark_X4_hasNote : GoodIn wsX10_mark wsX4_hasNote := goodIn_r _ [8, 9, 10, 11, 12, 59, 60, 61, 62, 63, 64, 65] (by decide +kernel) (by decide +kernel)
set_option maxRecDepth 20000 in
theorem gX10_mark_X4_hasNote : GoodIn wsX10_mark (wsV RX10 124 RX4 yX4_hasNote wsX4_hasNote) := goodIn_app (goodIn_of _ (by decide +kernel)) ggX10_mark_X4_hasNote
set_option maxRecDepth 20000 in
theorem ggX10_mark_X10_finding : GoodIn wsX10_mark wsX10_finding := goodIn_r _ [16, 17, 50, 51, 52, 53, 54, 55, 56, 57, 58] (by decide +kernel) (by decide +kernel)
set_option maxRecDepth 20000 in
theorem gX10_mark_X10_finding : GoodIn wsX10_mark (wsV RX10 82 RX10 yX10_finding wsX10_finding) := goodIn_app (goodIn_of _ (by decide +kernel)) ggX10_mark_X10_finding
set_option maxRecDepth 20000 in
theorem ggX10_mark_X10_keep : GoodIn wsX10_mark wsX10_keep := goodIn_r _ [21, 22, 23, 24, 25, 26, 27, 28, 29, 30, 31, 32, 33, 34, 35, 36, 37, 38, 39, 40, 41, 42, 43, 50, 51, 52, 53, 54, 55, 56, 57, 58, 66, 67, 68, 69, 70, 71, 72, 73, 74, 75, 76, 77, 78, 79, 80, 81, 82, 83, 84] (by decide +kernel) (by decide +kernel)
set_option maxRecDepth 20000 in
theorem gX10_mark_X10_keep : GoodIn wsX10_mark (wsV RX10 95 RX10 yX10_keep wsX10_keep) := goodIn_app (goodIn_of _ (by decide +kernel)) ggX10_mark_X10_keep
set_option maxRecDepth 20000 in
theorem ggX10_mark_X4_setMark : GoodIn wsX10_mark wsX4_setMark := goodIn_r _ [47, 48, 49, 5, 6, 7, 8, 9, 10, 11, 12, 59, 60, 61, 62, 63, 64, 65] (by decide +kernel) (by decide +kernel)
set_option maxRecDepth 20000 in
theorem gX10_mark_X4_setMark : GoodIn wsX10_mark (wsV RX10 134 RX4 yX4_setMark wsX4_setMark) := goodIn_app (goodIn_of _ (by decide +kernel)) ggX10_mark_X4_setMark
theorem dX10_mark_0 : decode cX10_mark 0 = .ok (.aload_n 0, 1) := by decide +kernel
theorem dX10_mark_1 : decode cX10_mark 1 = .ok (.getfield 19, 3) := by decide +kernel
theorem dX10_mark_4 : decode cX10_mark 4 = .ok (.iload_n 1, 1) := by decide +kernel
theorem dX10_mark_5 : decode cX10_mark 5 = .ok (.invokevirtual 124, 3) := by decide +kernel
theorem dX10_mark_8 : decode cX10_mark 8 = .ok (.ifCond .eq 13, 3) := by decide +kernel
theorem dX10_mark_11 : decode cX10_mark 11 = .ok (.iload_n 2, 1) := by decide +kernel
theorem dX10_mark_12 : decode cX10_mark 12 = .ok (.iconst (-1), 1) := by decide +kernel
theorem dX10_mark_13 : decode cX10_mark 13 = .ok (.if_icmp .lt 8, 3) := by decide +kernel
theorem dX10_mark_16 : decode cX10_mark 16 = .ok (.iload_n 2, 1) := by decide +kernel
theorem dX10_mark_17 : decode cX10_mark 17 = .ok (.iconst 1, 1) := by decide +kernel
theorem dX10_mark_18 : decode cX10_mark 18 = .ok (.if_icmp .le 10, 3) := by decide +kernel
theorem dX10_mark_21 : decode cX10_mark 21 = .ok (.aload_n 0, 1) := by decide +kernel
theorem dX10_mark_22 : decode cX10_mark 22 = .ok (.ldc 81, 2) := by decide +kernel
theorem dX10_mark_24 : decode cX10_mark 24 = .ok (.invokevirtual 82, 3) := by decide +kernel
theorem dX10_mark_27 : decode cX10_mark 27 = .ok (.ireturn, 1) := by decide +kernel
theorem dX10_mark_28 : decode cX10_mark 28 = .ok (.aload_n 0, 1) := by decide +kernel
theorem dX10_mark_29 : decode cX10_mark 29 = .ok (.getfield 19, 3) := by decide +kernel
theorem dX10_mark_32 : decode cX10_mark 32 = .ok (.getfield 108, 3) := by decide +kernel
theorem dX10_mark_35 : decode cX10_mark 35 = .ok (.iload_n 1, 1) := by decide +kernel
theorem dX10_mark_36 : decode cX10_mark 36 = .ok (.iaload, 1) := by decide +kernel
theorem dX10_mark_37 : decode cX10_mark 37 = .ok (.istore_n 3, 1) := by decide +kernel
theorem dX10_mark_38 : decode cX10_mark 38 = .ok (.aload_n 0, 1) := by decide +kernel
theorem dX10_mark_39 : decode cX10_mark 39 = .ok (.iconst 2, 1) := by decide +kernel
theorem dX10_mark_40 : decode cX10_mark 40 = .ok (.iload_n 1, 1) := by decide +kernel
theorem dX10_mark_41 : decode cX10_mark 41 = .ok (.iload_n 3, 1) := by decide +kernel
theorem dX10_mark_42 : decode cX10_mark 42 = .ok (.invokevirtual 95, 3) := by decide +kernel
theorem dX10_mark_45 : decode cX10_mark 45 = .ok (.aload_n 0, 1) := by decide +kernel
theorem dX10_mark_46 : decode cX10_mark 46 = .ok (.getfield 19, 3) := by decide +kernel
theorem dX10_mark_49 : decode cX10_mark 49 = .ok (.iload_n 1, 1) := by decide +kernel
theorem dX10_mark_50 : decode cX10_mark 50 = .ok (.iload_n 2, 1) := by decide +kernel
theorem dX10_mark_51 : decode cX10_mark 51 = .ok (.invokevirtual 134, 3) := by decide +kernel
theorem dX10_mark_54 : decode cX10_mark 54 = .ok (.iload_n 3, 1) := by decide +kernel
theorem dX10_mark_55 : decode cX10_mark 55 = .ok (.ireturn, 1) := by decide +kernel
set_option maxRecDepth 20000 in
theorem ggX10_rule_X7_mayBecome : GoodIn wsX10_rule wsX7_mayBecome := goodIn_r _ [8, 9, 10, 11, 12] (by decide +kernel) (by decide +kernel)
set_option maxRecDepth 20000 in
theorem gX10_rule_X7_mayBecome : GoodIn wsX10_rule (wsV RX10 137 RX7 yX7_mayBecome wsX7_mayBecome) := goodIn_app (goodIn_of _ (by decide +kernel)) ggX10_rule_X7_mayBecome
set_option maxRecDepth 20000 in
theorem ggX10_rule_X10_finding : GoodIn wsX10_rule wsX10_finding := goodIn_r _ [16, 17, 50, 51, 52, 53, 54, 55, 56, 57, 58] (by decide +kernel) (by decide +kernel)
set_option maxRecDepth 20000 in
theorem gX10_rule_X10_finding : GoodIn wsX10_rule (wsV RX10 82 RX10 yX10_finding wsX10_finding) := goodIn_app (goodIn_of _ (by decide +kernel)) ggX10_rule_X10_finding
set_option maxRecDepth 20000 in
theorem ggX10_rule_X10_keep : GoodIn wsX10_rule wsX10_keep := goodIn_r _ [21, 22, 23, 24, 25, 26, 27, 28, 29, 30, 31, 32, 33, 34, 35, 36, 37, 38, 39, 40, 41, 42, 43, 50, 51, 52, 53, 54, 55, 56, 57, 58, 60, 61, 62, 63, 64, 65, 66, 67, 68, 69, 70, 71, 72, 73, 74, 75, 76, 77, 78] (by decide +kernel) (by decide +kernel)
set_option maxRecDepth 20000 in
theorem gX10_rule_X10_keep : GoodIn wsX10_rule (wsV RX10 95 RX10 yX10_keep wsX10_keep) := goodIn_app (goodIn_of _ (by decide +kernel)) ggX10_rule_X10_keep
set_option maxRecDepth 20000 in
theorem ggX10_rule_X7_change : GoodIn wsX10_rule wsX7_change := goodIn_r _ [47, 48, 49, 5, 6, 7, 8, 9, 10, 11, 12, 59] (by decide +kernel) (by decide +kernel)
set_option maxRecDepth 20000 in
theorem gX10_rule_X7_change : GoodIn wsX10_rule (wsV RX10 143 RX7 yX7_change wsX7_change) := goodIn_app (goodIn_of _ (by decide +kernel)) ggX10_rule_X7_change
theorem dX10_rule_0 : decode cX10_rule 0 = .ok (.aload_n 0, 1) := by decide +kernel
theorem dX10_rule_1 : decode cX10_rule 1 = .ok (.getfield 10, 3) := by decide +kernel
theorem dX10_rule_4 : decode cX10_rule 4 = .ok (.iload_n 1, 1) := by decide +kernel
theorem dX10_rule_5 : decode cX10_rule 5 = .ok (.iload_n 2, 1) := by decide +kernel
theorem dX10_rule_6 : decode cX10_rule 6 = .ok (.invokevirtual 137, 3) := by decide +kernel
theorem dX10_rule_9 : decode cX10_rule 9 = .ok (.ifCond .ne 10, 3) := by decide +kernel
theorem dX10_rule_12 : decode cX10_rule 12 = .ok (.aload_n 0, 1) := by decide +kernel
theorem dX10_rule_13 : decode cX10_rule 13 = .ok (.ldc 81, 2) := by decide +kernel
theorem dX10_rule_15 : decode cX10_rule 15 = .ok (.invokevirtual 82, 3) := by decide +kernel
theorem dX10_rule_18 : decode cX10_rule 18 = .ok (.ireturn, 1) := by decide +kernel
theorem dX10_rule_19 : decode cX10_rule 19 = .ok (.aload_n 0, 1) := by decide +kernel
theorem dX10_rule_20 : decode cX10_rule 20 = .ok (.getfield 10, 3) := by decide +kernel
theorem dX10_rule_23 : decode cX10_rule 23 = .ok (.getfield 140, 3) := by decide +kernel
theorem dX10_rule_26 : decode cX10_rule 26 = .ok (.iload_n 1, 1) := by decide +kernel
theorem dX10_rule_27 : decode cX10_rule 27 = .ok (.iaload, 1) := by decide +kernel
theorem dX10_rule_28 : decode cX10_rule 28 = .ok (.istore_n 3, 1) := by decide +kernel
theorem dX10_rule_29 : decode cX10_rule 29 = .ok (.aload_n 0, 1) := by decide +kernel
theorem dX10_rule_30 : decode cX10_rule 30 = .ok (.iconst 3, 1) := by decide +kernel
theorem dX10_rule_31 : decode cX10_rule 31 = .ok (.iload_n 1, 1) := by decide +kernel
theorem dX10_rule_32 : decode cX10_rule 32 = .ok (.iload_n 3, 1) := by decide +kernel
theorem dX10_rule_33 : decode cX10_rule 33 = .ok (.invokevirtual 95, 3) := by decide +kernel
theorem dX10_rule_36 : decode cX10_rule 36 = .ok (.aload_n 0, 1) := by decide +kernel
theorem dX10_rule_37 : decode cX10_rule 37 = .ok (.getfield 10, 3) := by decide +kernel
theorem dX10_rule_40 : decode cX10_rule 40 = .ok (.iload_n 1, 1) := by decide +kernel
theorem dX10_rule_41 : decode cX10_rule 41 = .ok (.iload_n 2, 1) := by decide +kernel
theorem dX10_rule_42 : decode cX10_rule 42 = .ok (.invokevirtual 143, 3) := by decide +kernel
theorem dX10_rule_45 : decode cX10_rule 45 = .ok (.iload_n 3, 1) := by decide +kernel
theorem dX10_rule_46 : decode cX10_rule 46 = .ok (.ireturn, 1) := by decide +kernel
set_option maxRecDepth 20000 in
theorem ggX10_awkward_X3_exist : GoodIn wsX10_awkward wsX3_exist := goodIn_r _ [8, 9, 10, 11, 12, 13, 7, 14, 15, 16, 17, 18, 19, 20, 21, 22, 23, 24, 25, 26, 27, 28, 29, 30, 31, 32, 33, 34, 35, 36, 37, 38, 39, 40, 41, 42, 43, 44, 45, 46, 47, 48, 49, 50, 51, 52, 53, 54, 55, 56, 57, 58, 59, 60, 61, 62, 63, 64, 65, 66, 67, 68, 69, 70, 71, 72, 73, 74, 75, 76, 77, 78, 79, 80, 81, 82, 83, 84, 85, 86, 87, 88, 89, 90, 91, 92, 93, 94, 95, 96, 97, 98, 99, 100, 101, 102, 103, 104, 105, 106, 107, 108, 109, 110, 111, 112, 113, 114, 115, 116, 117, 118, 119, 120, 121, 122, 123, 124, 125, 126, 127, 128, 129, 130, 131, 132, 133, 134, 135, 136, 137, 138, 139, 140, 141, 156, 157, 158, 159, 160, 161, 162, 163, 164, 165, 166, 167, 168, 169, 170, 171, 172, 173, 174, 175, 176, 177, 178, 179, 180, 181, 182, 183] (by decide +kernel) (by decide +kernel)
set_option maxRecDepth 20000 in
theorem gX10_awkward_X3_exist : GoodIn wsX10_awkward (wsV RX10 146 RX3 yX3_exist wsX3_exist) := goodIn_app (goodIn_of _ (by decide +kernel)) ggX10_awkward_X3_exist
set_option maxRecDepth 20000 in
theorem ggX10_awkward_X10_finding : GoodIn wsX10_awkward wsX10_finding := goodIn_r _ [145, 146, 147, 148, 149, 150, 151, 152, 153, 154, 155] (by decide +kernel) (by decide +kernel)
set_option maxRecDepth 20000 in
theorem gX10_awkward_X10_finding : GoodIn wsX10_awkward (wsV RX10 82 RX10 yX10_finding wsX10_finding) := goodIn_app (goodIn_of _ (by decide +kernel)) ggX10_awkward_X10_finding
theorem dX10_awkward_0 : decode cX10_awkward 0 = .ok (.aload_n 0, 1) := by decide +kernel
theorem dX10_awkward_1 : decode cX10_awkward 1 = .ok (.getfield 28, 3) := by decide +kernel
theorem dX10_awkward_4 : decode cX10_awkward 4 = .ok (.invokevirtual 146, 3) := by decide +kernel
theorem dX10_awkward_7 : decode cX10_awkward 7 = .ok (.ifCond .eq 13, 3) := by decide +kernel
theorem dX10_awkward_10 : decode cX10_awkward 10 = .ok (.aload_n 0, 1) := by decide +kernel
theorem dX10_awkward_11 : decode cX10_awkward 11 = .ok (.getfield 28, 3) := by decide +kernel
theorem dX10_awkward_14 : decode cX10_awkward 14 = .ok (.getfield 150, 3) := by decide +kernel
theorem dX10_awkward_17 : decode cX10_awkward 17 = .ok (.goto 9, 3) := by decide +kernel
theorem dX10_awkward_20 : decode cX10_awkward 20 = .ok (.aload_n 0, 1) := by decide +kernel
theorem dX10_awkward_21 : decode cX10_awkward 21 = .ok (.ldc 103, 2) := by decide +kernel
theorem dX10_awkward_23 : decode cX10_awkward 23 = .ok (.invokevirtual 82, 3) := by decide +kernel
theorem dX10_awkward_26 : decode cX10_awkward 26 = .ok (.ireturn, 1) := by decide +kernel
set_option maxRecDepth 20000 in
theorem ggX10_hand_X4_hasNote : GoodIn wsX10_hand wsX4_hasNote := goodIn_r _ [10, 11, 12, 13, 14, 177, 178, 179, 180, 181, 182, 183] (by decide +kernel) (by decide +kernel)
set_option maxRecDepth 20000 in
theorem gX10_hand_X4_hasNote : GoodIn wsX10_hand (wsV RX10 124 RX4 yX4_hasNote wsX4_hasNote) := goodIn_app (goodIn_of _ (by decide +kernel)) ggX10_hand_X4_hasNote
set_option maxRecDepth 20000 in
theorem ggX10_hand_X10_finding : GoodIn wsX10_hand wsX10_finding := goodIn_r _ [18, 19, 157, 158, 159, 160, 161, 162, 163, 164, 165] (by decide +kernel) (by decide +kernel)
set_option maxRecDepth 20000 in
theorem gX10_hand_X10_finding : GoodIn wsX10_hand (wsV RX10 82 RX10 yX10_finding wsX10_finding) := goodIn_app (goodIn_of _ (by decide +kernel)) ggX10_hand_X10_finding
set_option maxRecDepth 20000 in
theorem ggX10_hand_X3_exist : GoodIn wsX10_hand wsX3_exist := goodIn_r _ [24, 25, 26, 27, 28, 29, 23, 30, 31, 32, 33, 34, 35, 36, 37, 38, 39, 40, 41, 42, 43, 44, 45, 46, 47, 48, 49, 50, 51, 52, 53, 54, 55, 12, 13, 14, 56, 57, 58, 59, 60, 61, 62, 63, 64, 65, 66, 67, 9, 68, 69, 70, 71, 72, 73, 74, 75, 76, 77, 78, 79, 80, 81, 82, 83, 84, 85, 86, 87, 88, 89, 90, 91, 92, 93, 94, 95, 96, 97, 98, 99, 100, 101, 102, 103, 104, 105, 106, 107, 108, 109, 110, 111, 112, 113, 114, 115, 116, 117, 118, 119, 120, 121, 122, 123, 124, 125, 126, 127, 128, 129, 130, 131, 132, 133, 134, 135, 136, 137, 138, 139, 140, 141, 142, 143, 144, 145, 146, 147, 148, 149, 150, 151, 152, 153, 166, 167, 168, 169, 170, 171, 172, 173, 174, 175, 176, 177, 178, 179, 180, 181, 182, 183, 184, 185, 186, 187, 188, 189, 190, 191, 192, 193] (by decide +kernel) (by decide +kernel)
set_option maxRecDepth 20000 in
theorem gX10_hand_X3_exist : GoodIn wsX10_hand (wsV RX10 146 RX3 yX3_exist wsX3_exist) := goodIn_app (goodIn_of _ (by decide +kernel)) ggX10_hand_X3_exist
set_option maxRecDepth 20000 in
theorem ggX10_hand_X10_handIn : GoodIn wsX10_hand wsX10_handIn := goodIn_r _ [156] (by decide +kernel) (by decide +kernel)
set_option maxRecDepth 20000 in
theorem gX10_hand_X10_handIn : GoodIn wsX10_hand (va_wsS RX10 156 yX10_handIn wsX10_handIn) := goodIn_app (goodIn_of _ (by decide +kernel)) ggX10_hand_X10_handIn
theorem dX10_hand_0 : decode cX10_hand 0 = .ok (.aload_n 0, 1) := by decide +kernel
theorem dX10_hand_1 : decode cX10_hand 1 = .ok (.getfield 19, 3) := by decide +kernel
theorem dX10_hand_4 : decode cX10_hand 4 = .ok (.iload_n 1, 1) := by decide +kernel
theorem dX10_hand_5 : decode cX10_hand 5 = .ok (.invokevirtual 124, 3) := by decide +kernel
theorem dX10_hand_8 : decode cX10_hand 8 = .ok (.ifCond .ne 10, 3) := by decide +kernel
theorem dX10_hand_11 : decode cX10_hand 11 = .ok (.aload_n 0, 1) := by decide +kernel
theorem dX10_hand_12 : decode cX10_hand 12 = .ok (.ldc 81, 2) := by decide +kernel
theorem dX10_hand_14 : decode cX10_hand 14 = .ok (.invokevirtual 82, 3) := by decide +kernel
theorem dX10_hand_17 : decode cX10_hand 17 = .ok (.ireturn, 1) := by decide +kernel
theorem dX10_hand_18 : decode cX10_hand 18 = .ok (.aload_n 0, 1) := by decide +kernel
theorem dX10_hand_19 : decode cX10_hand 19 = .ok (.getfield 28, 3) := by decide +kernel
theorem dX10_hand_22 : decode cX10_hand 22 = .ok (.invokevirtual 146, 3) := by decide +kernel
theorem dX10_hand_25 : decode cX10_hand 25 = .ok (.ifCond .eq 17, 3) := by decide +kernel
theorem dX10_hand_28 : decode cX10_hand 28 = .ok (.aload_n 0, 1) := by decide +kernel
theorem dX10_hand_29 : decode cX10_hand 29 = .ok (.getfield 28, 3) := by decide +kernel
theorem dX10_hand_32 : decode cX10_hand 32 = .ok (.getfield 153, 3) := by decide +kernel
theorem dX10_hand_35 : decode cX10_hand 35 = .ok (.iload_n 1, 1) := by decide +kernel
theorem dX10_hand_36 : decode cX10_hand 36 = .ok (.invokestatic 156, 3) := by decide +kernel
theorem dX10_hand_39 : decode cX10_hand 39 = .ok (.goto 9, 3) := by decide +kernel
theorem dX10_hand_42 : decode cX10_hand 42 = .ok (.aload_n 0, 1) := by decide +kernel
theorem dX10_hand_43 : decode cX10_hand 43 = .ok (.ldc 103, 2) := by decide +kernel
theorem dX10_hand_45 : decode cX10_hand 45 = .ok (.invokevirtual 82, 3) := by decide +kernel
theorem dX10_hand_48 : decode cX10_hand 48 = .ok (.ireturn, 1) := by decide +kernel
set_option maxRecDepth 20000 in
theorem ggX10_crossed_X4_hasNote : GoodIn wsX10_crossed wsX4_hasNote := goodIn_r _ [11, 12, 13, 14, 15, 183, 184, 185, 186, 187, 188, 189] (by decide +kernel) (by decide +kernel)
set_option maxRecDepth 20000 in
theorem gX10_crossed_X4_hasNote : GoodIn wsX10_crossed (wsV RX10 124 RX4 yX4_hasNote wsX4_hasNote) := goodIn_app (goodIn_of _ (by decide +kernel)) ggX10_crossed_X4_hasNote
set_option maxRecDepth 20000 in
theorem ggX10_crossed_X10_finding : GoodIn wsX10_crossed wsX10_finding := goodIn_r _ [19, 20, 163, 164, 165, 166, 167, 168, 169, 170, 171] (by decide +kernel) (by decide +kernel)
set_option maxRecDepth 20000 in
theorem gX10_crossed_X10_finding : GoodIn wsX10_crossed (wsV RX10 82 RX10 yX10_finding wsX10_finding) := goodIn_app (goodIn_of _ (by decide +kernel)) ggX10_crossed_X10_finding
set_option maxRecDepth 20000 in
theorem ggX10_crossed_X3_exist : GoodIn wsX10_crossed wsX3_exist := goodIn_r _ [25, 26, 27, 28, 29, 30, 24, 31, 32, 33, 34, 35, 36, 37, 38, 39, 40, 41, 42, 43, 44, 45, 46, 47, 48, 49, 50, 51, 52, 53, 54, 55, 56, 13, 14, 15, 57, 58, 59, 60, 61, 62, 63, 64, 65, 66, 67, 68, 10, 69, 70, 71, 72, 73, 74, 75, 76, 77, 78, 79, 80, 81, 82, 83, 84, 85, 86, 87, 88, 89, 90, 91, 92, 93, 94, 95, 96, 97, 98, 99, 100, 101, 102, 103, 104, 105, 106, 107, 108, 109, 110, 111, 112, 113, 114, 115, 116, 117, 118, 119, 120, 121, 122, 123, 124, 125, 126, 127, 128, 129, 130, 131, 132, 133, 134, 135, 136, 137, 138, 139, 140, 141, 142, 143, 144, 145, 146, 147, 148, 149, 150, 151, 152, 153, 154, 172, 173, 174, 175, 176, 177, 178, 179, 180, 181, 182, 183, 184, 185, 186, 187, 188, 189, 190, 191, 192, 193, 194, 195, 196, 197, 198, 199] (by decide +kernel) (by decide +kernel)
set_option maxRecDepth 20000 in
theorem gX10_crossed_X3_exist : GoodIn wsX10_crossed (wsV RX10 146 RX3 yX3_exist wsX3_exist) := goodIn_app (goodIn_of _ (by decide +kernel)) ggX10_crossed_X3_exist
set_option maxRecDepth 20000 in
theorem ggX10_crossed_X3_walk : GoodIn wsX10_crossed wsX3_walk := goodIn_r _ [158, 61, 159, 33, 34, 62, 63, 73, 74, 75, 76, 77, 78, 79, 160, 14, 161, 80, 81, 82, 83, 84, 85, 86, 87, 68, 10, 69, 88, 89, 90, 91, 92, 93, 94, 95, 96, 97, 98, 99, 100, 101, 102, 103, 104, 55, 105, 106, 107, 108, 109, 110, 111, 112, 113, 114, 115, 116, 117, 118, 119, 120, 121, 122, 123, 124, 128, 129, 130, 131, 132, 133, 134, 135, 136, 137, 138, 139, 140, 141, 172, 173, 174, 175, 176, 177, 178, 179, 180, 181, 182, 183, 184, 185, 186, 187, 188, 189, 195, 196, 197, 198, 199] (by decide +kernel) (by decide +kernel)
set_option maxRecDepth 20000 in
theorem gX10_crossed_X3_walk : GoodIn wsX10_crossed (wsV RX10 160 RX3 yX3_walk wsX3_walk) := goodIn_app (goodIn_of _ (by decide +kernel)) ggX10_crossed_X3_walk
set_option maxRecDepth 20000 in
theorem ggX10_crossed_X0_areCrossed : GoodIn wsX10_crossed wsX0_areCrossed := goodIn_r _ [131, 78, 79, 84, 132, 133, 134, 10, 135, 196, 197, 198, 199, 183, 184, 185, 186, 187, 188, 189] (by decide +kernel) (by decide +kernel)
set_option maxRecDepth 20000 in
theorem gX10_crossed_X0_areCrossed : GoodIn wsX10_crossed (wsV RX10 167 RX0 yX0_areCrossed wsX0_areCrossed) := goodIn_app (goodIn_of _ (by decide +kernel)) ggX10_crossed_X0_areCrossed
theorem dX10_crossed_0 : decode cX10_crossed 0 = .ok (.aload_n 0, 1) := by decide +kernel
theorem dX10_crossed_1 : decode cX10_crossed 1 = .ok (.getfield 19, 3) := by decide +kernel
theorem dX10_crossed_4 : decode cX10_crossed 4 = .ok (.iload_n 1, 1) := by decide +kernel
theorem dX10_crossed_5 : decode cX10_crossed 5 = .ok (.invokevirtual 124, 3) := by decide +kernel
theorem dX10_crossed_8 : decode cX10_crossed 8 = .ok (.ifCond .ne 10, 3) := by decide +kernel
theorem dX10_crossed_11 : decode cX10_crossed 11 = .ok (.aload_n 0, 1) := by decide +kernel
theorem dX10_crossed_12 : decode cX10_crossed 12 = .ok (.ldc 81, 2) := by decide +kernel
theorem dX10_crossed_14 : decode cX10_crossed 14 = .ok (.invokevirtual 82, 3) := by decide +kernel
theorem dX10_crossed_17 : decode cX10_crossed 17 = .ok (.ireturn, 1) := by decide +kernel
theorem dX10_crossed_18 : decode cX10_crossed 18 = .ok (.aload_n 0, 1) := by decide +kernel
theorem dX10_crossed_19 : decode cX10_crossed 19 = .ok (.getfield 28, 3) := by decide +kernel
theorem dX10_crossed_22 : decode cX10_crossed 22 = .ok (.invokevirtual 146, 3) := by decide +kernel
theorem dX10_crossed_25 : decode cX10_crossed 25 = .ok (.ifCond .ne 10, 3) := by decide +kernel
theorem dX10_crossed_28 : decode cX10_crossed 28 = .ok (.aload_n 0, 1) := by decide +kernel
theorem dX10_crossed_29 : decode cX10_crossed 29 = .ok (.ldc 103, 2) := by decide +kernel
theorem dX10_crossed_31 : decode cX10_crossed 31 = .ok (.invokevirtual 82, 3) := by decide +kernel
theorem dX10_crossed_34 : decode cX10_crossed 34 = .ok (.ireturn, 1) := by decide +kernel
theorem dX10_crossed_35 : decode cX10_crossed 35 = .ok (.aload_n 0, 1) := by decide +kernel
theorem dX10_crossed_36 : decode cX10_crossed 36 = .ok (.getfield 28, 3) := by decide +kernel
theorem dX10_crossed_39 : decode cX10_crossed 39 = .ok (.aload_n 0, 1) := by decide +kernel
theorem dX10_crossed_40 : decode cX10_crossed 40 = .ok (.getfield 28, 3) := by decide +kernel
theorem dX10_crossed_43 : decode cX10_crossed 43 = .ok (.getfield 153, 3) := by decide +kernel
theorem dX10_crossed_46 : decode cX10_crossed 46 = .ok (.iload_n 1, 1) := by decide +kernel
theorem dX10_crossed_47 : decode cX10_crossed 47 = .ok (.invokevirtual 160, 3) := by decide +kernel
theorem dX10_crossed_50 : decode cX10_crossed 50 = .ok (.pop, 1) := by decide +kernel
theorem dX10_crossed_51 : decode cX10_crossed 51 = .ok (.aload_n 0, 1) := by decide +kernel
theorem dX10_crossed_52 : decode cX10_crossed 52 = .ok (.getfield 28, 3) := by decide +kernel
theorem dX10_crossed_55 : decode cX10_crossed 55 = .ok (.getfield 163, 3) := by decide +kernel
theorem dX10_crossed_58 : decode cX10_crossed 58 = .ok (.invokevirtual 167, 3) := by decide +kernel
theorem dX10_crossed_61 : decode cX10_crossed 61 = .ok (.ifCond .eq 7, 3) := by decide +kernel
theorem dX10_crossed_64 : decode cX10_crossed 64 = .ok (.iconst 1, 1) := by decide +kernel
theorem dX10_crossed_65 : decode cX10_crossed 65 = .ok (.goto 4, 3) := by decide +kernel
theorem dX10_crossed_68 : decode cX10_crossed 68 = .ok (.iconst 0, 1) := by decide +kernel
theorem dX10_crossed_69 : decode cX10_crossed 69 = .ok (.ireturn, 1) := by decide +kernel
set_option maxRecDepth 20000 in
theorem ggX10_ways_X3_exist : GoodIn wsX10_ways wsX3_exist := goodIn_r _ [8, 9, 10, 11, 12, 13, 7, 14, 15, 16, 17, 18, 19, 20, 21, 22, 23, 24, 25, 26, 27, 28, 29, 30, 31, 32, 33, 34, 35, 36, 37, 38, 39, 40, 41, 42, 43, 44, 45, 46, 47, 48, 49, 50, 51, 52, 53, 54, 55, 56, 57, 58, 59, 60, 61, 62, 63, 64, 65, 66, 67, 68, 69, 70, 71, 72, 73, 74, 75, 76, 77, 78, 79, 80, 81, 82, 83, 84, 85, 86, 87, 88, 89, 90, 91, 92, 93, 94, 95, 96, 97, 98, 99, 100, 101, 102, 103, 104, 105, 106, 107, 108, 109, 110, 111, 112, 113, 114, 115, 116, 117, 118, 119, 120, 121, 122, 123, 124, 125, 126, 127, 128, 129, 130, 131, 132, 133, 134, 135, 136, 137, 138, 139, 140, 141, 156, 157, 158, 159, 160, 161, 162, 163, 164, 165, 166, 167, 168, 169, 170, 171, 172, 173, 174, 175, 176, 177, 178, 179, 180, 181, 182, 183] (by decide +kernel) (by decide +kernel)
set_option maxRecDepth 20000 in
theorem gX10_ways_X3_exist : GoodIn wsX10_ways (wsV RX10 146 RX3 yX3_exist wsX3_exist) := goodIn_app (goodIn_of _ (by decide +kernel)) ggX10_ways_X3_exist
set_option maxRecDepth 20000 in
theorem ggX10_ways_X10_finding : GoodIn wsX10_ways wsX10_finding := goodIn_r _ [145, 146, 147, 148, 149, 150, 151, 152, 153, 154, 155] (by decide +kernel) (by decide +kernel)
set_option maxRecDepth 20000 in
theorem gX10_ways_X10_finding : GoodIn wsX10_ways (wsV RX10 82 RX10 yX10_finding wsX10_finding) := goodIn_app (goodIn_of _ (by decide +kernel)) ggX10_ways_X10_finding
theorem dX10_ways_0 : decode cX10_ways 0 = .ok (.aload_n 0, 1) := by decide +kernel
theorem dX10_ways_1 : decode cX10_ways 1 = .ok (.getfield 28, 3) := by decide +kernel
theorem dX10_ways_4 : decode cX10_ways 4 = .ok (.invokevirtual 146, 3) := by decide +kernel
theorem dX10_ways_7 : decode cX10_ways 7 = .ok (.ifCond .eq 13, 3) := by decide +kernel
theorem dX10_ways_10 : decode cX10_ways 10 = .ok (.aload_n 0, 1) := by decide +kernel
theorem dX10_ways_11 : decode cX10_ways 11 = .ok (.getfield 28, 3) := by decide +kernel
theorem dX10_ways_14 : decode cX10_ways 14 = .ok (.getfield 172, 3) := by decide +kernel
theorem dX10_ways_17 : decode cX10_ways 17 = .ok (.goto 9, 3) := by decide +kernel
theorem dX10_ways_20 : decode cX10_ways 20 = .ok (.aload_n 0, 1) := by decide +kernel
theorem dX10_ways_21 : decode cX10_ways 21 = .ok (.ldc 103, 2) := by decide +kernel
theorem dX10_ways_23 : decode cX10_ways 23 = .ok (.invokevirtual 82, 3) := by decide +kernel
theorem dX10_ways_26 : decode cX10_ways 26 = .ok (.ireturn, 1) := by decide +kernel
set_option maxRecDepth 20000 in
theorem ggX10_stuck_X3_exist : GoodIn wsX10_stuck wsX3_exist := goodIn_r _ [7, 8, 9, 10, 11, 12, 6, 13, 14, 15, 16, 17, 18, 19, 20, 21, 22, 23, 24, 25, 26, 27, 28, 29, 30, 31, 32, 33, 34, 35, 36, 37, 38, 39, 40, 41, 42, 43, 44, 45, 46, 47, 48, 49, 50, 51, 52, 53, 54, 55, 56, 57, 58, 59, 60, 61, 62, 63, 64, 65, 66, 67, 68, 69, 70, 71, 72, 73, 74, 75, 76, 77, 78, 79, 80, 81, 82, 83, 84, 85, 86, 87, 88, 89, 90, 91, 92, 93, 94, 95, 96, 97, 98, 99, 100, 101, 102, 103, 104, 105, 106, 107, 108, 109, 110, 111, 112, 113, 114, 115, 116, 117, 118, 119, 120, 121, 122, 123, 124, 125, 126, 127, 128, 129, 130, 131, 132, 133, 134, 135, 136, 137, 138, 139, 140, 150, 151, 152, 153, 154, 155, 156, 157, 158, 159, 160, 161, 162, 163, 164, 165, 166, 167, 168, 169, 170, 171, 172, 173, 174, 175, 176, 177] (by decide +kernel) (by decide +kernel)
set_option maxRecDepth 20000 in
theorem gX10_stuck_X3_exist : GoodIn wsX10_stuck (wsV RX10 146 RX3 yX3_exist wsX3_exist) := goodIn_app (goodIn_of _ (by decide +kernel)) ggX10_stuck_X3_exist
theorem dX10_stuck_0 : decode cX10_stuck 0 = .ok (.aload_n 0, 1) := by decide +kernel
theorem dX10_stuck_1 : decode cX10_stuck 1 = .ok (.getfield 28, 3) := by decide +kernel
theorem dX10_stuck_4 : decode cX10_stuck 4 = .ok (.invokevirtual 146, 3) := by decide +kernel
theorem dX10_stuck_7 : decode cX10_stuck 7 = .ok (.ifCond .eq 7, 3) := by decide +kernel
theorem dX10_stuck_10 : decode cX10_stuck 10 = .ok (.iconst (-1), 1) := by decide +kernel
theorem dX10_stuck_11 : decode cX10_stuck 11 = .ok (.goto 10, 3) := by decide +kernel
theorem dX10_stuck_14 : decode cX10_stuck 14 = .ok (.aload_n 0, 1) := by decide +kernel
theorem dX10_stuck_15 : decode cX10_stuck 15 = .ok (.getfield 28, 3) := by decide +kernel
theorem dX10_stuck_18 : decode cX10_stuck 18 = .ok (.getfield 175, 3) := by decide +kernel
theorem dX10_stuck_21 : decode cX10_stuck 21 = .ok (.ireturn, 1) := by decide +kernel
set_option maxRecDepth 20000 in
theorem ggX10_latest_X10_isBelow : GoodIn wsX10_latest wsX10_isBelow := goodIn_r _ [11] (by decide +kernel) (by decide +kernel)
set_option maxRecDepth 20000 in
theorem gX10_latest_X10_isBelow : GoodIn wsX10_latest (va_wsS RX10 73 yX10_isBelow wsX10_isBelow) := goodIn_app (goodIn_of _ (by decide +kernel)) ggX10_latest_X10_isBelow
set_option maxRecDepth 20000 in
theorem ggX10_latest_X4_hasNote : GoodIn wsX10_latest wsX4_hasNote := goodIn_r _ [16, 17, 9, 10, 11, 185, 186, 187, 188, 189, 190, 191] (by decide +kernel) (by decide +kernel)
set_option maxRecDepth 20000 in
theorem gX10_latest_X4_hasNote : GoodIn wsX10_latest (wsV RX10 124 RX4 yX4_hasNote wsX4_hasNote) := goodIn_app (goodIn_of _ (by decide +kernel)) ggX10_latest_X4_hasNote
set_option maxRecDepth 20000 in
theorem ggX10_latest_X10_finding : GoodIn wsX10_latest wsX10_finding := goodIn_r _ [21, 22, 165, 166, 167, 168, 169, 170, 171, 172, 173] (by decide +kernel) (by decide +kernel)
set_option maxRecDepth 20000 in
theorem gX10_latest_X10_finding : GoodIn wsX10_latest (wsV RX10 82 RX10 yX10_finding wsX10_finding) := goodIn_app (goodIn_of _ (by decide +kernel)) ggX10_latest_X10_finding
set_option maxRecDepth 20000 in
theorem ggX10_latest_X3_exist : GoodIn wsX10_latest wsX3_exist := goodIn_r _ [27, 28, 29, 30, 31, 32, 26, 33, 34, 35, 36, 37, 38, 39, 40, 41, 42, 43, 44, 45, 46, 47, 48, 49, 50, 51, 52, 53, 54, 55, 56, 57, 58, 9, 10, 11, 59, 60, 61, 62, 63, 64, 65, 66, 67, 68, 69, 70, 15, 71, 72, 73, 74, 75, 76, 77, 78, 79, 80, 81, 82, 83, 84, 85, 86, 87, 88, 89, 90, 91, 92, 93, 94, 95, 96, 97, 98, 99, 100, 101, 102, 103, 104, 105, 106, 107, 108, 109, 110, 111, 112, 113, 114, 115, 116, 117, 118, 119, 120, 121, 122, 123, 124, 125, 126, 127, 128, 129, 130, 131, 132, 133, 134, 135, 136, 137, 138, 139, 140, 141, 142, 143, 144, 145, 146, 147, 148, 149, 150, 151, 152, 153, 154, 155, 156, 174, 175, 176, 177, 178, 179, 180, 181, 182, 183, 184, 185, 186, 187, 188, 189, 190, 191, 192, 193, 194, 195, 196, 197, 198, 199, 200, 201] (by decide +kernel) (by decide +kernel)
set_option maxRecDepth 20000 in
theorem gX10_latest_X3_exist : GoodIn wsX10_latest (wsV RX10 146 RX3 yX3_exist wsX3_exist) := goodIn_app (goodIn_of _ (by decide +kernel)) ggX10_latest_X3_exist
set_option maxRecDepth 20000 in
theorem ggX10_latest_X3_walk : GoodIn wsX10_latest wsX3_walk := goodIn_r _ [160, 63, 161, 35, 36, 64, 65, 75, 76, 77, 78, 79, 80, 81, 162, 10, 163, 82, 83, 84, 85, 86, 87, 88, 89, 70, 15, 71, 90, 91, 92, 93, 94, 95, 96, 97, 98, 99, 100, 101, 102, 103, 104, 105, 106, 57, 107, 108, 109, 110, 111, 112, 113, 114, 115, 116, 117, 118, 119, 120, 121, 122, 123, 124, 125, 126, 130, 131, 132, 133, 134, 135, 136, 137, 138, 139, 140, 141, 142, 143, 174, 175, 176, 177, 178, 179, 180, 181, 182, 183, 184, 185, 186, 187, 188, 189, 190, 191, 197, 198, 199, 200, 201] (by decide +kernel) (by decide +kernel)
set_option maxRecDepth 20000 in
theorem gX10_latest_X3_walk : GoodIn wsX10_latest (wsV RX10 160 RX3 yX3_walk wsX3_walk) := goodIn_app (goodIn_of _ (by decide +kernel)) ggX10_latest_X3_walk
set_option maxRecDepth 20000 in
theorem ggX10_latest_X0_strokeOf : GoodIn wsX10_latest wsX0_strokeOf := goodIn_r _ [93, 80, 81, 198, 199, 200, 201] (by decide +kernel) (by decide +kernel)
set_option maxRecDepth 20000 in
theorem gX10_latest_X0_strokeOf : GoodIn wsX10_latest (wsV RX10 178 RX0 yX0_strokeOf wsX0_strokeOf) := goodIn_app (goodIn_of _ (by decide +kernel)) ggX10_latest_X0_strokeOf
theorem dX10_latest_0 : decode cX10_latest 0 = .ok (.iload_n 1, 1) := by decide +kernel
theorem dX10_latest_1 : decode cX10_latest 1 = .ok (.iconst 2, 1) := by decide +kernel
theorem dX10_latest_2 : decode cX10_latest 2 = .ok (.invokestatic 73, 3) := by decide +kernel
theorem dX10_latest_5 : decode cX10_latest 5 = .ok (.ifCond .eq 14, 3) := by decide +kernel
theorem dX10_latest_8 : decode cX10_latest 8 = .ok (.aload_n 0, 1) := by decide +kernel
theorem dX10_latest_9 : decode cX10_latest 9 = .ok (.getfield 19, 3) := by decide +kernel
theorem dX10_latest_12 : decode cX10_latest 12 = .ok (.iload_n 2, 1) := by decide +kernel
theorem dX10_latest_13 : decode cX10_latest 13 = .ok (.invokevirtual 124, 3) := by decide +kernel
theorem dX10_latest_16 : decode cX10_latest 16 = .ok (.ifCond .ne 10, 3) := by decide +kernel
theorem dX10_latest_19 : decode cX10_latest 19 = .ok (.aload_n 0, 1) := by decide +kernel
theorem dX10_latest_20 : decode cX10_latest 20 = .ok (.ldc 81, 2) := by decide +kernel
theorem dX10_latest_22 : decode cX10_latest 22 = .ok (.invokevirtual 82, 3) := by decide +kernel
theorem dX10_latest_25 : decode cX10_latest 25 = .ok (.ireturn, 1) := by decide +kernel
theorem dX10_latest_26 : decode cX10_latest 26 = .ok (.aload_n 0, 1) := by decide +kernel
theorem dX10_latest_27 : decode cX10_latest 27 = .ok (.getfield 28, 3) := by decide +kernel
theorem dX10_latest_30 : decode cX10_latest 30 = .ok (.invokevirtual 146, 3) := by decide +kernel
theorem dX10_latest_33 : decode cX10_latest 33 = .ok (.ifCond .ne 10, 3) := by decide +kernel
theorem dX10_latest_36 : decode cX10_latest 36 = .ok (.aload_n 0, 1) := by decide +kernel
theorem dX10_latest_37 : decode cX10_latest 37 = .ok (.ldc 103, 2) := by decide +kernel
theorem dX10_latest_39 : decode cX10_latest 39 = .ok (.invokevirtual 82, 3) := by decide +kernel
theorem dX10_latest_42 : decode cX10_latest 42 = .ok (.ireturn, 1) := by decide +kernel
theorem dX10_latest_43 : decode cX10_latest 43 = .ok (.aload_n 0, 1) := by decide +kernel
theorem dX10_latest_44 : decode cX10_latest 44 = .ok (.getfield 28, 3) := by decide +kernel
theorem dX10_latest_47 : decode cX10_latest 47 = .ok (.aload_n 0, 1) := by decide +kernel
theorem dX10_latest_48 : decode cX10_latest 48 = .ok (.getfield 28, 3) := by decide +kernel
theorem dX10_latest_51 : decode cX10_latest 51 = .ok (.getfield 153, 3) := by decide +kernel
theorem dX10_latest_54 : decode cX10_latest 54 = .ok (.iload_n 2, 1) := by decide +kernel
theorem dX10_latest_55 : decode cX10_latest 55 = .ok (.invokevirtual 160, 3) := by decide +kernel
theorem dX10_latest_58 : decode cX10_latest 58 = .ok (.pop, 1) := by decide +kernel
theorem dX10_latest_59 : decode cX10_latest 59 = .ok (.aload_n 0, 1) := by decide +kernel
theorem dX10_latest_60 : decode cX10_latest 60 = .ok (.getfield 28, 3) := by decide +kernel
theorem dX10_latest_63 : decode cX10_latest 63 = .ok (.getfield 163, 3) := by decide +kernel
theorem dX10_latest_66 : decode cX10_latest 66 = .ok (.iload_n 1, 1) := by decide +kernel
theorem dX10_latest_67 : decode cX10_latest 67 = .ok (.invokevirtual 178, 3) := by decide +kernel
theorem dX10_latest_70 : decode cX10_latest 70 = .ok (.istore_n 3, 1) := by decide +kernel
theorem dX10_latest_71 : decode cX10_latest 71 = .ok (.iload_n 3, 1) := by decide +kernel
theorem dX10_latest_72 : decode cX10_latest 72 = .ok (.ifCond .ne 12, 3) := by decide +kernel
theorem dX10_latest_75 : decode cX10_latest 75 = .ok (.aload_n 0, 1) := by decide +kernel
theorem dX10_latest_76 : decode cX10_latest 76 = .ok (.ldc 103, 2) := by decide +kernel
theorem dX10_latest_78 : decode cX10_latest 78 = .ok (.invokevirtual 82, 3) := by decide +kernel
theorem dX10_latest_81 : decode cX10_latest 81 = .ok (.goto 12, 3) := by decide +kernel
theorem dX10_latest_84 : decode cX10_latest 84 = .ok (.aload_n 0, 1) := by decide +kernel
theorem dX10_latest_85 : decode cX10_latest 85 = .ok (.getfield 19, 3) := by decide +kernel
theorem dX10_latest_88 : decode cX10_latest 88 = .ok (.getfield 181, 3) := by decide +kernel
theorem dX10_latest_91 : decode cX10_latest 91 = .ok (.iload_n 3, 1) := by decide +kernel
theorem dX10_latest_92 : decode cX10_latest 92 = .ok (.iaload, 1) := by decide +kernel
theorem dX10_latest_93 : decode cX10_latest 93 = .ok (.ireturn, 1) := by decide +kernel
set_option maxRecDepth 20000 in
theorem ggX10_judge_X10_finding : GoodIn wsX10_judge wsX10_finding := goodIn_r _ [11, 12, 96, 97, 98, 99, 100, 101, 102, 103, 104] (by decide +kernel) (by decide +kernel)
set_option maxRecDepth 20000 in
theorem gX10_judge_X10_finding : GoodIn wsX10_judge (wsV RX10 82 RX10 yX10_finding wsX10_finding) := goodIn_app (goodIn_of _ (by decide +kernel)) ggX10_judge_X10_finding
set_option maxRecDepth 20000 in
theorem ggX10_judge_X3_walk : GoodIn wsX10_judge wsX3_walk := goodIn_r _ [17, 18, 19, 20, 21, 22, 23, 24, 25, 26, 27, 28, 29, 30, 31, 10, 32, 33, 34, 35, 36, 37, 38, 39, 40, 41, 42, 43, 44, 45, 46, 47, 48, 49, 50, 51, 52, 53, 54, 55, 56, 57, 58, 59, 60, 61, 62, 63, 64, 65, 66, 67, 68, 69, 70, 71, 72, 73, 74, 75, 76, 77, 78, 79, 80, 81, 82, 83, 84, 85, 86, 87, 88, 89, 90, 91, 92, 93, 94, 95, 112, 113, 114, 115, 116, 117, 118, 119, 120, 121, 122, 105, 106, 107, 108, 109, 110, 111, 123, 124, 125, 126, 127] (by decide +kernel) (by decide +kernel)
set_option maxRecDepth 20000 in
theorem gX10_judge_X3_walk : GoodIn wsX10_judge (wsV RX10 160 RX3 yX3_walk wsX3_walk) := goodIn_app (goodIn_of _ (by decide +kernel)) ggX10_judge_X3_walk
theorem dX10_judge_0 : decode cX10_judge 0 = .ok (.iload_n 1, 1) := by decide +kernel
theorem dX10_judge_1 : decode cX10_judge 1 = .ok (.aload_n 0, 1) := by decide +kernel
theorem dX10_judge_2 : decode cX10_judge 2 = .ok (.getfield 19, 3) := by decide +kernel
theorem dX10_judge_5 : decode cX10_judge 5 = .ok (.getfield 91, 3) := by decide +kernel
theorem dX10_judge_8 : decode cX10_judge 8 = .ok (.iushr, 1) := by decide +kernel
theorem dX10_judge_9 : decode cX10_judge 9 = .ok (.ifCond .eq 10, 3) := by decide +kernel
theorem dX10_judge_12 : decode cX10_judge 12 = .ok (.aload_n 0, 1) := by decide +kernel
theorem dX10_judge_13 : decode cX10_judge 13 = .ok (.ldc 81, 2) := by decide +kernel
theorem dX10_judge_15 : decode cX10_judge 15 = .ok (.invokevirtual 82, 3) := by decide +kernel
theorem dX10_judge_18 : decode cX10_judge 18 = .ok (.ireturn, 1) := by decide +kernel
theorem dX10_judge_19 : decode cX10_judge 19 = .ok (.aload_n 0, 1) := by decide +kernel
theorem dX10_judge_20 : decode cX10_judge 20 = .ok (.getfield 28, 3) := by decide +kernel
theorem dX10_judge_23 : decode cX10_judge 23 = .ok (.iload_n 1, 1) := by decide +kernel
theorem dX10_judge_24 : decode cX10_judge 24 = .ok (.aload_n 0, 1) := by decide +kernel
theorem dX10_judge_25 : decode cX10_judge 25 = .ok (.getfield 19, 3) := by decide +kernel
theorem dX10_judge_28 : decode cX10_judge 28 = .ok (.getfield 91, 3) := by decide +kernel
theorem dX10_judge_31 : decode cX10_judge 31 = .ok (.iconst 1, 1) := by decide +kernel
theorem dX10_judge_32 : decode cX10_judge 32 = .ok (.isub, 1) := by decide +kernel
theorem dX10_judge_33 : decode cX10_judge 33 = .ok (.invokevirtual 160, 3) := by decide +kernel
theorem dX10_judge_36 : decode cX10_judge 36 = .ok (.ifCond .ne 10, 3) := by decide +kernel
theorem dX10_judge_39 : decode cX10_judge 39 = .ok (.aload_n 0, 1) := by decide +kernel
theorem dX10_judge_40 : decode cX10_judge 40 = .ok (.ldc 130, 2) := by decide +kernel
theorem dX10_judge_42 : decode cX10_judge 42 = .ok (.invokevirtual 82, 3) := by decide +kernel
theorem dX10_judge_45 : decode cX10_judge 45 = .ok (.ireturn, 1) := by decide +kernel
theorem dX10_judge_46 : decode cX10_judge 46 = .ok (.aload_n 0, 1) := by decide +kernel
theorem dX10_judge_47 : decode cX10_judge 47 = .ok (.getfield 28, 3) := by decide +kernel
theorem dX10_judge_50 : decode cX10_judge 50 = .ok (.getfield 184, 3) := by decide +kernel
theorem dX10_judge_53 : decode cX10_judge 53 = .ok (.ireturn, 1) := by decide +kernel
set_option maxRecDepth 20000 in
theorem ggX10_bass_X10_isBelow : GoodIn wsX10_bass wsX10_isBelow := goodIn_r _ [7] (by decide +kernel) (by decide +kernel)
set_option maxRecDepth 20000 in
theorem gX10_bass_X10_isBelow : GoodIn wsX10_bass (va_wsS RX10 73 yX10_isBelow wsX10_isBelow) := goodIn_app (goodIn_of _ (by decide +kernel)) ggX10_bass_X10_isBelow
set_option maxRecDepth 20000 in
theorem ggX10_bass_X10_finding : GoodIn wsX10_bass wsX10_finding := goodIn_r _ [11, 12, 49, 50, 51, 52, 53, 54, 55, 56, 57] (by decide +kernel) (by decide +kernel)
set_option maxRecDepth 20000 in
theorem gX10_bass_X10_finding : GoodIn wsX10_bass (wsV RX10 82 RX10 yX10_finding wsX10_finding) := goodIn_app (goodIn_of _ (by decide +kernel)) ggX10_bass_X10_finding
set_option maxRecDepth 20000 in
theorem ggX10_bass_X1_isThere : GoodIn wsX10_bass wsX1_isThere := goodIn_r _ [17, 18, 58, 59, 60, 61] (by decide +kernel) (by decide +kernel)
set_option maxRecDepth 20000 in
theorem gX10_bass_X1_isThere : GoodIn wsX10_bass (wsV RX10 187 RX1 yX1_isThere wsX1_isThere) := goodIn_app (goodIn_of _ (by decide +kernel)) ggX10_bass_X1_isThere
set_option maxRecDepth 20000 in
theorem ggX10_bass_X10_keep : GoodIn wsX10_bass wsX10_keep := goodIn_r _ [22, 23, 24, 25, 26, 27, 28, 29, 30, 31, 32, 33, 34, 35, 36, 37, 38, 39, 40, 41, 42, 43, 44, 49, 50, 51, 52, 53, 54, 55, 56, 57, 62, 63, 64, 65, 66, 67, 68, 69, 70, 71, 72, 73, 74, 75, 76, 77, 78, 79, 80] (by decide +kernel) (by decide +kernel)
set_option maxRecDepth 20000 in
theorem gX10_bass_X10_keep : GoodIn wsX10_bass (wsV RX10 95 RX10 yX10_keep wsX10_keep) := goodIn_app (goodIn_of _ (by decide +kernel)) ggX10_bass_X10_keep
set_option maxRecDepth 20000 in
theorem ggX10_bass_X1_change : GoodIn wsX10_bass wsX1_change := goodIn_r _ [48, 18, 58, 59, 60, 61] (by decide +kernel) (by decide +kernel)
set_option maxRecDepth 20000 in
theorem gX10_bass_X1_change : GoodIn wsX10_bass (wsV RX10 193 RX1 yX1_change wsX1_change) := goodIn_app (goodIn_of _ (by decide +kernel)) ggX10_bass_X1_change
theorem dX10_bass_0 : decode cX10_bass 0 = .ok (.iload_n 1, 1) := by decide +kernel
theorem dX10_bass_1 : decode cX10_bass 1 = .ok (.iconst 5, 1) := by decide +kernel
theorem dX10_bass_2 : decode cX10_bass 2 = .ok (.invokestatic 73, 3) := by decide +kernel
theorem dX10_bass_5 : decode cX10_bass 5 = .ok (.ifCond .ne 10, 3) := by decide +kernel
theorem dX10_bass_8 : decode cX10_bass 8 = .ok (.aload_n 0, 1) := by decide +kernel
theorem dX10_bass_9 : decode cX10_bass 9 = .ok (.ldc 81, 2) := by decide +kernel
theorem dX10_bass_11 : decode cX10_bass 11 = .ok (.invokevirtual 82, 3) := by decide +kernel
theorem dX10_bass_14 : decode cX10_bass 14 = .ok (.ireturn, 1) := by decide +kernel
theorem dX10_bass_15 : decode cX10_bass 15 = .ok (.aload_n 0, 1) := by decide +kernel
theorem dX10_bass_16 : decode cX10_bass 16 = .ok (.getfield 35, 3) := by decide +kernel
theorem dX10_bass_19 : decode cX10_bass 19 = .ok (.iload_n 1, 1) := by decide +kernel
theorem dX10_bass_20 : decode cX10_bass 20 = .ok (.invokevirtual 187, 3) := by decide +kernel
theorem dX10_bass_23 : decode cX10_bass 23 = .ok (.iload_n 2, 1) := by decide +kernel
theorem dX10_bass_24 : decode cX10_bass 24 = .ok (.if_icmp .eq 7, 3) := by decide +kernel
theorem dX10_bass_27 : decode cX10_bass 27 = .ok (.iconst 1, 1) := by decide +kernel
theorem dX10_bass_28 : decode cX10_bass 28 = .ok (.goto 4, 3) := by decide +kernel
theorem dX10_bass_31 : decode cX10_bass 31 = .ok (.iconst 0, 1) := by decide +kernel
theorem dX10_bass_32 : decode cX10_bass 32 = .ok (.istore_n 3, 1) := by decide +kernel
theorem dX10_bass_33 : decode cX10_bass 33 = .ok (.aload_n 0, 1) := by decide +kernel
theorem dX10_bass_34 : decode cX10_bass 34 = .ok (.iconst 4, 1) := by decide +kernel
theorem dX10_bass_35 : decode cX10_bass 35 = .ok (.aload_n 0, 1) := by decide +kernel
theorem dX10_bass_36 : decode cX10_bass 36 = .ok (.getfield 35, 3) := by decide +kernel
theorem dX10_bass_39 : decode cX10_bass 39 = .ok (.getfield 190, 3) := by decide +kernel
theorem dX10_bass_42 : decode cX10_bass 42 = .ok (.iconst 0, 1) := by decide +kernel
theorem dX10_bass_43 : decode cX10_bass 43 = .ok (.invokevirtual 95, 3) := by decide +kernel
theorem dX10_bass_46 : decode cX10_bass 46 = .ok (.aload_n 0, 1) := by decide +kernel
theorem dX10_bass_47 : decode cX10_bass 47 = .ok (.getfield 35, 3) := by decide +kernel
theorem dX10_bass_50 : decode cX10_bass 50 = .ok (.iload_n 1, 1) := by decide +kernel
theorem dX10_bass_51 : decode cX10_bass 51 = .ok (.iload_n 2, 1) := by decide +kernel
theorem dX10_bass_52 : decode cX10_bass 52 = .ok (.invokevirtual 193, 3) := by decide +kernel
theorem dX10_bass_55 : decode cX10_bass 55 = .ok (.iload_n 3, 1) := by decide +kernel
theorem dX10_bass_56 : decode cX10_bass 56 = .ok (.ifCond .eq 7, 3) := by decide +kernel
theorem dX10_bass_59 : decode cX10_bass 59 = .ok (.iconst 1, 1) := by decide +kernel
theorem dX10_bass_60 : decode cX10_bass 60 = .ok (.goto 4, 3) := by decide +kernel
theorem dX10_bass_63 : decode cX10_bass 63 = .ok (.iconst 0, 1) := by decide +kernel
theorem dX10_bass_64 : decode cX10_bass 64 = .ok (.ireturn, 1) := by decide +kernel
set_option maxRecDepth 20000 in
theorem ggX10_split_X10_isRun : GoodIn wsX10_split wsX10_isRun := goodIn_r _ [9, 10, 11, 12, 13, 14, 15, 16, 17, 8, 18, 39, 40, 41, 42, 43, 44, 45, 46, 47, 52, 53, 54, 55, 56, 57, 58] (by decide +kernel) (by decide +kernel)
set_option maxRecDepth 20000 in
theorem gX10_split_X10_isRun : GoodIn wsX10_split (wsV RX10 196 RX10 yX10_isRun wsX10_isRun) := goodIn_app (goodIn_of _ (by decide +kernel)) ggX10_split_X10_isRun
set_option maxRecDepth 20000 in
theorem ggX10_split_X10_isBelow : GoodIn wsX10_split wsX10_isBelow := goodIn_r _ [18] (by decide +kernel) (by decide +kernel)
set_option maxRecDepth 20000 in
theorem gX10_split_X10_isBelow : GoodIn wsX10_split (va_wsS RX10 73 yX10_isBelow wsX10_isBelow) := goodIn_app (goodIn_of _ (by decide +kernel)) ggX10_split_X10_isBelow
set_option maxRecDepth 20000 in
theorem ggX10_split_X10_finding : GoodIn wsX10_split wsX10_finding := goodIn_r _ [23, 24, 39, 40, 41, 42, 43, 44, 45, 46, 47] (by decide +kernel) (by decide +kernel)
set_option maxRecDepth 20000 in
theorem gX10_split_X10_finding : GoodIn wsX10_split (wsV RX10 82 RX10 yX10_finding wsX10_finding) := goodIn_app (goodIn_of _ (by decide +kernel)) ggX10_split_X10_finding
set_option maxRecDepth 20000 in
theorem ggX10_split_X1_owner : GoodIn wsX10_split wsX1_owner := goodIn_r _ [29, 30, 31, 28, 32, 33, 34, 35, 36, 37, 38, 48, 49, 50, 51] (by decide +kernel) (by decide +kernel)
set_option maxRecDepth 20000 in
theorem gX10_split_X1_owner : GoodIn wsX10_split (wsV RX10 199 RX1 yX1_owner wsX1_owner) := goodIn_app (goodIn_of _ (by decide +kernel)) ggX10_split_X1_owner
theorem dX10_split_0 : decode cX10_split 0 = .ok (.aload_n 0, 1) := by decide +kernel
theorem dX10_split_1 : decode cX10_split 1 = .ok (.iload_n 1, 1) := by decide +kernel
theorem dX10_split_2 : decode cX10_split 2 = .ok (.iload_n 2, 1) := by decide +kernel
theorem dX10_split_3 : decode cX10_split 3 = .ok (.invokevirtual 196, 3) := by decide +kernel
theorem dX10_split_6 : decode cX10_split 6 = .ok (.ifCond .eq 23, 3) := by decide +kernel
theorem dX10_split_9 : decode cX10_split 9 = .ok (.iload_n 3, 1) := by decide +kernel
theorem dX10_split_10 : decode cX10_split 10 = .ok (.iconst 3, 1) := by decide +kernel
theorem dX10_split_11 : decode cX10_split 11 = .ok (.invokestatic 73, 3) := by decide +kernel
theorem dX10_split_14 : decode cX10_split 14 = .ok (.ifCond .eq 15, 3) := by decide +kernel
theorem dX10_split_17 : decode cX10_split 17 = .ok (.iload 4, 2) := by decide +kernel
theorem dX10_split_19 : decode cX10_split 19 = .ok (.iload_n 1, 1) := by decide +kernel
theorem dX10_split_20 : decode cX10_split 20 = .ok (.if_icmp .lt 9, 3) := by decide +kernel
theorem dX10_split_23 : decode cX10_split 23 = .ok (.iload 4, 2) := by decide +kernel
theorem dX10_split_25 : decode cX10_split 25 = .ok (.iload_n 2, 1) := by decide +kernel
theorem dX10_split_26 : decode cX10_split 26 = .ok (.if_icmp .le 10, 3) := by decide +kernel
theorem dX10_split_29 : decode cX10_split 29 = .ok (.aload_n 0, 1) := by decide +kernel
theorem dX10_split_30 : decode cX10_split 30 = .ok (.ldc 81, 2) := by decide +kernel
theorem dX10_split_32 : decode cX10_split 32 = .ok (.invokevirtual 82, 3) := by decide +kernel
theorem dX10_split_35 : decode cX10_split 35 = .ok (.ireturn, 1) := by decide +kernel
theorem dX10_split_36 : decode cX10_split 36 = .ok (.aload_n 0, 1) := by decide +kernel
theorem dX10_split_37 : decode cX10_split 37 = .ok (.getfield 35, 3) := by decide +kernel
theorem dX10_split_40 : decode cX10_split 40 = .ok (.getfield 190, 3) := by decide +kernel
theorem dX10_split_43 : decode cX10_split 43 = .ok (.ifCond .ne 10, 3) := by decide +kernel
theorem dX10_split_46 : decode cX10_split 46 = .ok (.aload_n 0, 1) := by decide +kernel
theorem dX10_split_47 : decode cX10_split 47 = .ok (.ldc 103, 2) := by decide +kernel
theorem dX10_split_49 : decode cX10_split 49 = .ok (.invokevirtual 82, 3) := by decide +kernel
theorem dX10_split_52 : decode cX10_split 52 = .ok (.ireturn, 1) := by decide +kernel
theorem dX10_split_53 : decode cX10_split 53 = .ok (.aload_n 0, 1) := by decide +kernel
theorem dX10_split_54 : decode cX10_split 54 = .ok (.getfield 35, 3) := by decide +kernel
theorem dX10_split_57 : decode cX10_split 57 = .ok (.iload_n 3, 1) := by decide +kernel
theorem dX10_split_58 : decode cX10_split 58 = .ok (.iload 4, 2) := by decide +kernel
theorem dX10_split_60 : decode cX10_split 60 = .ok (.iload_n 1, 1) := by decide +kernel
theorem dX10_split_61 : decode cX10_split 61 = .ok (.isub, 1) := by decide +kernel
theorem dX10_split_62 : decode cX10_split 62 = .ok (.invokevirtual 199, 3) := by decide +kernel
theorem dX10_split_65 : decode cX10_split 65 = .ok (.ireturn, 1) := by decide +kernel
set_option maxRecDepth 20000 in
theorem ggX10_has_X10_isBelow : GoodIn wsX10_has wsX10_isBelow := goodIn_r _ [8] (by decide +kernel) (by decide +kernel)
set_option maxRecDepth 20000 in
theorem gX10_has_X10_isBelow : GoodIn wsX10_has (va_wsS RX10 73 yX10_isBelow wsX10_isBelow) := goodIn_app (goodIn_of _ (by decide +kernel)) ggX10_has_X10_isBelow
set_option maxRecDepth 20000 in
theorem ggX10_has_X10_isRun : GoodIn wsX10_has wsX10_isRun := goodIn_r _ [12, 13, 14, 15, 16, 17, 18, 19, 6, 7, 8, 43, 44, 45, 46, 47, 48, 49, 50, 51, 56, 57, 58, 59, 60, 61, 62] (by decide +kernel) (by decide +kernel)
set_option maxRecDepth 20000 in
theorem gX10_has_X10_isRun : GoodIn wsX10_has (wsV RX10 196 RX10 yX10_isRun wsX10_isRun) := goodIn_app (goodIn_of _ (by decide +kernel)) ggX10_has_X10_isRun
set_option maxRecDepth 20000 in
theorem ggX10_has_X10_finding : GoodIn wsX10_has wsX10_finding := goodIn_r _ [23, 24, 43, 44, 45, 46, 47, 48, 49, 50, 51] (by decide +kernel) (by decide +kernel)
set_option maxRecDepth 20000 in
theorem gX10_has_X10_finding : GoodIn wsX10_has (wsV RX10 82 RX10 yX10_finding wsX10_finding) := goodIn_app (goodIn_of _ (by decide +kernel)) ggX10_has_X10_finding
set_option maxRecDepth 20000 in
theorem ggX10_has_X1_notesOf : GoodIn wsX10_has wsX1_notesOf := goodIn_r _ [29, 30, 31, 32, 28, 33, 34, 35, 36, 37, 38, 39, 40, 41, 42, 52, 53, 54, 55] (by decide +kernel) (by decide +kernel)
set_option maxRecDepth 20000 in
theorem gX10_has_X1_notesOf : GoodIn wsX10_has (wsV RX10 202 RX1 yX1_notesOf wsX1_notesOf) := goodIn_app (goodIn_of _ (by decide +kernel)) ggX10_has_X1_notesOf
theorem dX10_has_0 : decode cX10_has 0 = .ok (.iload 4, 2) := by decide +kernel
theorem dX10_has_2 : decode cX10_has 2 = .ok (.iconst 5, 1) := by decide +kernel
theorem dX10_has_3 : decode cX10_has 3 = .ok (.invokestatic 73, 3) := by decide +kernel
theorem dX10_has_6 : decode cX10_has 6 = .ok (.ifCond .eq 20, 3) := by decide +kernel
theorem dX10_has_9 : decode cX10_has 9 = .ok (.aload_n 0, 1) := by decide +kernel
theorem dX10_has_10 : decode cX10_has 10 = .ok (.iload_n 1, 1) := by decide +kernel
theorem dX10_has_11 : decode cX10_has 11 = .ok (.iload_n 2, 1) := by decide +kernel
theorem dX10_has_12 : decode cX10_has 12 = .ok (.invokevirtual 196, 3) := by decide +kernel
theorem dX10_has_15 : decode cX10_has 15 = .ok (.ifCond .eq 11, 3) := by decide +kernel
theorem dX10_has_18 : decode cX10_has 18 = .ok (.iload_n 3, 1) := by decide +kernel
theorem dX10_has_19 : decode cX10_has 19 = .ok (.iconst 3, 1) := by decide +kernel
theorem dX10_has_20 : decode cX10_has 20 = .ok (.invokestatic 73, 3) := by decide +kernel
theorem dX10_has_23 : decode cX10_has 23 = .ok (.ifCond .ne 10, 3) := by decide +kernel
theorem dX10_has_26 : decode cX10_has 26 = .ok (.aload_n 0, 1) := by decide +kernel
theorem dX10_has_27 : decode cX10_has 27 = .ok (.ldc 81, 2) := by decide +kernel
theorem dX10_has_29 : decode cX10_has 29 = .ok (.invokevirtual 82, 3) := by decide +kernel
theorem dX10_has_32 : decode cX10_has 32 = .ok (.ireturn, 1) := by decide +kernel
theorem dX10_has_33 : decode cX10_has 33 = .ok (.aload_n 0, 1) := by decide +kernel
theorem dX10_has_34 : decode cX10_has 34 = .ok (.getfield 35, 3) := by decide +kernel
theorem dX10_has_37 : decode cX10_has 37 = .ok (.getfield 190, 3) := by decide +kernel
theorem dX10_has_40 : decode cX10_has 40 = .ok (.ifCond .ne 10, 3) := by decide +kernel
theorem dX10_has_43 : decode cX10_has 43 = .ok (.aload_n 0, 1) := by decide +kernel
