theorem dX0_init_0 : decode cX0_init 0 = .ok (.aload_n 0, 1) := by decide +kernel
theorem dX0_init_1 : decode cX0_init 1 = .ok (.invokespecial 3, 3) := by decide +kernel
theorem dX0_init_4 : decode cX0_init 4 = .ok (.aload_n 0, 1) := by decide +kernel
theorem dX0_init_5 : decode cX0_init 5 = .ok (.sipush 800, 3) := by decide +kernel
theorem dX0_init_8 : decode cX0_init 8 = .ok (.newarray .int, 2) := by decide +kernel
theorem dX0_init_10 : decode cX0_init 10 = .ok (.putfield 9, 3) := by decide +kernel
theorem dX0_init_13 : decode cX0_init 13 = .ok (.aload_n 0, 1) := by decide +kernel
theorem dX0_init_14 : decode cX0_init 14 = .ok (.sipush 800, 3) := by decide +kernel
theorem dX0_init_17 : decode cX0_init 17 = .ok (.newarray .int, 2) := by decide +kernel
theorem dX0_init_19 : decode cX0_init 19 = .ok (.putfield 15, 3) := by decide +kernel
theorem dX0_init_22 : decode cX0_init 22 = .ok (.aload_n 0, 1) := by decide +kernel
theorem dX0_init_23 : decode cX0_init 23 = .ok (.sipush 800, 3) := by decide +kernel
theorem dX0_init_26 : decode cX0_init 26 = .ok (.newarray .int, 2) := by decide +kernel
theorem dX0_init_28 : decode cX0_init 28 = .ok (.putfield 18, 3) := by decide +kernel
theorem dX0_init_31 : decode cX0_init 31 = .ok (.aload_n 0, 1) := by decide +kernel
theorem dX0_init_32 : decode cX0_init 32 = .ok (.sipush 2048, 3) := by decide +kernel
theorem dX0_init_35 : decode cX0_init 35 = .ok (.newarray .int, 2) := by decide +kernel
theorem dX0_init_37 : decode cX0_init 37 = .ok (.putfield 21, 3) := by decide +kernel
theorem dX0_init_40 : decode cX0_init 40 = .ok (.aload_n 0, 1) := by decide +kernel
theorem dX0_init_41 : decode cX0_init 41 = .ok (.aload_n 1, 1) := by decide +kernel
theorem dX0_init_42 : decode cX0_init 42 = .ok (.putfield 24, 3) := by decide +kernel
theorem dX0_init_45 : decode cX0_init 45 = .ok (.return_, 1) := by decide +kernel
theorem dX0_count_0 : decode cX0_count 0 = .ok (.aload_n 0, 1) := by decide +kernel
theorem dX0_count_1 : decode cX0_count 1 = .ok (.getfield 28, 3) := by decide +kernel
theorem dX0_count_4 : decode cX0_count 4 = .ok (.ireturn, 1) := by decide +kernel
set_option maxRecDepth 20000 in
theorem ggX0_lookFrom_J7_fill_53178 : GoodIn wsX0_lookFrom wsJ7_fill_53178 := goodIn_r _ [7] (by decide +kernel) (by decide +kernel)
set_option maxRecDepth 20000 in
theorem gX0_lookFrom_J7_fill_53178 : GoodIn wsX0_lookFrom (va_wsS RX0 32 yJ7_fill_53178 wsJ7_fill_53178) := goodIn_app (goodIn_of _ (by decide +kernel)) ggX0_lookFrom_J7_fill_53178
set_option maxRecDepth 20000 in
theorem ggX0_lookFrom_X0_addIfNew : GoodIn wsX0_lookFrom wsX0_addIfNew := goodIn_r _ [12, 2, 1, 13, 14, 15, 3, 16, 17, 18, 11, 19, 20, 21, 22, 23, 87, 88, 89, 90, 91, 92, 93, 94, 95, 96] (by decide +kernel) (by decide +kernel)
set_option maxRecDepth 20000 in
theorem gX0_lookFrom_X0_addIfNew : GoodIn wsX0_lookFrom (wsV RX0 41 RX0 yX0_addIfNew wsX0_addIfNew) := goodIn_app (goodIn_of _ (by decide +kernel)) ggX0_lookFrom_X0_addIfNew
set_option maxRecDepth 20000 in
theorem ggX0_lookFrom_X0_addReachedFrom : GoodIn wsX0_lookFrom wsX0_addReachedFrom := goodIn_r _ [27, 13, 28, 29, 30, 31, 11, 32, 2, 33, 34, 35, 36, 37, 38, 39, 40, 41, 42, 43, 44, 45, 46, 47, 48, 21, 22, 23, 49, 50, 51, 52, 53, 54, 55, 56, 57, 58, 59, 60, 61, 62, 63, 64, 65, 66, 67, 68, 69, 70, 71, 72, 8, 9, 10, 12, 1, 14, 15, 3, 16, 17, 18, 19, 20, 87, 88, 89, 90, 91, 92, 93, 94, 95, 96, 97, 98, 99, 100, 101, 102] (by decide +kernel) (by decide +kernel)
set_option maxRecDepth 20000 in
theorem gX0_lookFrom_X0_addReachedFrom : GoodIn wsX0_lookFrom (wsV RX0 45 RX0 yX0_addReachedFrom wsX0_addReachedFrom) := goodIn_app (goodIn_of _ (by decide +kernel)) ggX0_lookFrom_X0_addReachedFrom
set_option maxRecDepth 20000 in
theorem ggX0_lookFrom_X0_traceWay : GoodIn wsX0_lookFrom wsX0_traceWay := goodIn_r _ [76, 3, 77, 78, 79, 15, 80, 81, 82, 83, 14, 29, 30, 31, 11, 32, 2, 84, 85, 86, 87, 88, 89, 90, 91, 92, 93, 94, 95, 96] (by decide +kernel) (by decide +kernel)
set_option maxRecDepth 20000 in
theorem gX0_lookFrom_X0_traceWay : GoodIn wsX0_lookFrom (wsV RX0 49 RX0 yX0_traceWay wsX0_traceWay) := goodIn_app (goodIn_of _ (by decide +kernel)) ggX0_lookFrom_X0_traceWay
theorem dX0_lookFrom_0 : decode cX0_lookFrom 0 = .ok (.aload_n 0, 1) := by decide +kernel
theorem dX0_lookFrom_1 : decode cX0_lookFrom 1 = .ok (.getfield 21, 3) := by decide +kernel
theorem dX0_lookFrom_4 : decode cX0_lookFrom 4 = .ok (.iconst 0, 1) := by decide +kernel
theorem dX0_lookFrom_5 : decode cX0_lookFrom 5 = .ok (.invokestatic 32, 3) := by decide +kernel
theorem dX0_lookFrom_8 : decode cX0_lookFrom 8 = .ok (.aload_n 0, 1) := by decide +kernel
theorem dX0_lookFrom_9 : decode cX0_lookFrom 9 = .ok (.iconst 0, 1) := by decide +kernel
theorem dX0_lookFrom_10 : decode cX0_lookFrom 10 = .ok (.putfield 28, 3) := by decide +kernel
theorem dX0_lookFrom_13 : decode cX0_lookFrom 13 = .ok (.aload_n 0, 1) := by decide +kernel
theorem dX0_lookFrom_14 : decode cX0_lookFrom 14 = .ok (.iconst (-1), 1) := by decide +kernel
theorem dX0_lookFrom_15 : decode cX0_lookFrom 15 = .ok (.putfield 38, 3) := by decide +kernel
theorem dX0_lookFrom_18 : decode cX0_lookFrom 18 = .ok (.aload_n 0, 1) := by decide +kernel
theorem dX0_lookFrom_19 : decode cX0_lookFrom 19 = .ok (.iload_n 1, 1) := by decide +kernel
theorem dX0_lookFrom_20 : decode cX0_lookFrom 20 = .ok (.iconst 0, 1) := by decide +kernel
theorem dX0_lookFrom_21 : decode cX0_lookFrom 21 = .ok (.iconst 0, 1) := by decide +kernel
theorem dX0_lookFrom_22 : decode cX0_lookFrom 22 = .ok (.invokevirtual 41, 3) := by decide +kernel
theorem dX0_lookFrom_25 : decode cX0_lookFrom 25 = .ok (.iconst 0, 1) := by decide +kernel
theorem dX0_lookFrom_26 : decode cX0_lookFrom 26 = .ok (.istore_n 2, 1) := by decide +kernel
theorem dX0_lookFrom_27 : decode cX0_lookFrom 27 = .ok (.iload_n 2, 1) := by decide +kernel
theorem dX0_lookFrom_28 : decode cX0_lookFrom 28 = .ok (.aload_n 0, 1) := by decide +kernel
theorem dX0_lookFrom_29 : decode cX0_lookFrom 29 = .ok (.getfield 28, 3) := by decide +kernel
theorem dX0_lookFrom_32 : decode cX0_lookFrom 32 = .ok (.if_icmp .ge 24, 3) := by decide +kernel
theorem dX0_lookFrom_35 : decode cX0_lookFrom 35 = .ok (.aload_n 0, 1) := by decide +kernel
theorem dX0_lookFrom_36 : decode cX0_lookFrom 36 = .ok (.getfield 28, 3) := by decide +kernel
theorem dX0_lookFrom_39 : decode cX0_lookFrom 39 = .ok (.sipush 800, 3) := by decide +kernel
theorem dX0_lookFrom_42 : decode cX0_lookFrom 42 = .ok (.if_icmp .ge 14, 3) := by decide +kernel
theorem dX0_lookFrom_45 : decode cX0_lookFrom 45 = .ok (.aload_n 0, 1) := by decide +kernel
theorem dX0_lookFrom_46 : decode cX0_lookFrom 46 = .ok (.iload_n 2, 1) := by decide +kernel
theorem dX0_lookFrom_47 : decode cX0_lookFrom 47 = .ok (.invokevirtual 45, 3) := by decide +kernel
theorem dX0_lookFrom_50 : decode cX0_lookFrom 50 = .ok (.iinc 2 1, 3) := by decide +kernel
theorem dX0_lookFrom_53 : decode cX0_lookFrom 53 = .ok (.goto (-26), 3) := by decide +kernel
theorem dX0_lookFrom_56 : decode cX0_lookFrom 56 = .ok (.aload_n 0, 1) := by decide +kernel
theorem dX0_lookFrom_57 : decode cX0_lookFrom 57 = .ok (.invokevirtual 49, 3) := by decide +kernel
theorem dX0_lookFrom_60 : decode cX0_lookFrom 60 = .ok (.return_, 1) := by decide +kernel
theorem dX0_movesToSolved_0 : decode cX0_movesToSolved 0 = .ok (.aload_n 0, 1) := by decide +kernel
theorem dX0_movesToSolved_1 : decode cX0_movesToSolved 1 = .ok (.getfield 52, 3) := by decide +kernel
theorem dX0_movesToSolved_4 : decode cX0_movesToSolved 4 = .ok (.ireturn, 1) := by decide +kernel
theorem dX0_firstMoveToSolved_0 : decode cX0_firstMoveToSolved 0 = .ok (.aload_n 0, 1) := by decide +kernel
theorem dX0_firstMoveToSolved_1 : decode cX0_firstMoveToSolved 1 = .ok (.getfield 58, 3) := by decide +kernel
theorem dX0_firstMoveToSolved_4 : decode cX0_firstMoveToSolved 4 = .ok (.ireturn, 1) := by decide +kernel
set_option maxRecDepth 20000 in
theorem ggX0_traceWay_X0_isFound : GoodIn wsX0_traceWay wsX0_isFound := goodIn_r _ [15, 16, 20, 21, 22, 23, 24, 25, 26, 27, 28, 29] (by decide +kernel) (by decide +kernel)
set_option maxRecDepth 20000 in
theorem gX0_traceWay_X0_isFound : GoodIn wsX0_traceWay (wsV RX0 61 RX0 yX0_isFound wsX0_isFound) := goodIn_app (goodIn_of _ (by decide +kernel)) ggX0_traceWay_X0_isFound
set_option maxRecDepth 20000 in
theorem ggX0_traceWay_X0_cellsOfMove : GoodIn wsX0_traceWay wsX0_cellsOfMove := goodIn_r _ [19] (by decide +kernel) (by decide +kernel)
set_option maxRecDepth 20000 in
theorem gX0_traceWay_X0_cellsOfMove : GoodIn wsX0_traceWay (va_wsS RX0 69 yX0_cellsOfMove wsX0_cellsOfMove) := goodIn_app (goodIn_of _ (by decide +kernel)) ggX0_traceWay_X0_cellsOfMove
theorem dX0_traceWay_0 : decode cX0_traceWay 0 = .ok (.aload_n 0, 1) := by decide +kernel
theorem dX0_traceWay_1 : decode cX0_traceWay 1 = .ok (.aload_n 0, 1) := by decide +kernel
theorem dX0_traceWay_2 : decode cX0_traceWay 2 = .ok (.getfield 38, 3) := by decide +kernel
theorem dX0_traceWay_5 : decode cX0_traceWay 5 = .ok (.iconst (-1), 1) := by decide +kernel
theorem dX0_traceWay_6 : decode cX0_traceWay 6 = .ok (.if_icmp .ne 7, 3) := by decide +kernel
theorem dX0_traceWay_9 : decode cX0_traceWay 9 = .ok (.iconst (-1), 1) := by decide +kernel
theorem dX0_traceWay_10 : decode cX0_traceWay 10 = .ok (.goto 4, 3) := by decide +kernel
theorem dX0_traceWay_13 : decode cX0_traceWay 13 = .ok (.iconst 0, 1) := by decide +kernel
theorem dX0_traceWay_14 : decode cX0_traceWay 14 = .ok (.putfield 52, 3) := by decide +kernel
theorem dX0_traceWay_17 : decode cX0_traceWay 17 = .ok (.aload_n 0, 1) := by decide +kernel
theorem dX0_traceWay_18 : decode cX0_traceWay 18 = .ok (.iconst 0, 1) := by decide +kernel
theorem dX0_traceWay_19 : decode cX0_traceWay 19 = .ok (.putfield 55, 3) := by decide +kernel
theorem dX0_traceWay_22 : decode cX0_traceWay 22 = .ok (.aload_n 0, 1) := by decide +kernel
theorem dX0_traceWay_23 : decode cX0_traceWay 23 = .ok (.iconst (-1), 1) := by decide +kernel
theorem dX0_traceWay_24 : decode cX0_traceWay 24 = .ok (.putfield 58, 3) := by decide +kernel
theorem dX0_traceWay_27 : decode cX0_traceWay 27 = .ok (.aload_n 0, 1) := by decide +kernel
theorem dX0_traceWay_28 : decode cX0_traceWay 28 = .ok (.getfield 38, 3) := by decide +kernel
theorem dX0_traceWay_31 : decode cX0_traceWay 31 = .ok (.istore_n 1, 1) := by decide +kernel
theorem dX0_traceWay_32 : decode cX0_traceWay 32 = .ok (.iconst 1, 1) := by decide +kernel
theorem dX0_traceWay_33 : decode cX0_traceWay 33 = .ok (.istore_n 2, 1) := by decide +kernel
theorem dX0_traceWay_34 : decode cX0_traceWay 34 = .ok (.iload_n 2, 1) := by decide +kernel
theorem dX0_traceWay_35 : decode cX0_traceWay 35 = .ok (.sipush 800, 3) := by decide +kernel
theorem dX0_traceWay_38 : decode cX0_traceWay 38 = .ok (.if_icmp .ge 64, 3) := by decide +kernel
theorem dX0_traceWay_41 : decode cX0_traceWay 41 = .ok (.iload_n 1, 1) := by decide +kernel
theorem dX0_traceWay_42 : decode cX0_traceWay 42 = .ok (.ifCond .le 60, 3) := by decide +kernel
theorem dX0_traceWay_45 : decode cX0_traceWay 45 = .ok (.aload_n 0, 1) := by decide +kernel
theorem dX0_traceWay_46 : decode cX0_traceWay 46 = .ok (.iload_n 1, 1) := by decide +kernel
theorem dX0_traceWay_47 : decode cX0_traceWay 47 = .ok (.invokevirtual 61, 3) := by decide +kernel
theorem dX0_traceWay_50 : decode cX0_traceWay 50 = .ok (.ifCond .eq 52, 3) := by decide +kernel
theorem dX0_traceWay_53 : decode cX0_traceWay 53 = .ok (.aload_n 0, 1) := by decide +kernel
theorem dX0_traceWay_54 : decode cX0_traceWay 54 = .ok (.iload_n 2, 1) := by decide +kernel
theorem dX0_traceWay_55 : decode cX0_traceWay 55 = .ok (.putfield 52, 3) := by decide +kernel
theorem dX0_traceWay_58 : decode cX0_traceWay 58 = .ok (.aload_n 0, 1) := by decide +kernel
theorem dX0_traceWay_59 : decode cX0_traceWay 59 = .ok (.dup, 1) := by decide +kernel
theorem dX0_traceWay_60 : decode cX0_traceWay 60 = .ok (.getfield 55, 3) := by decide +kernel
theorem dX0_traceWay_63 : decode cX0_traceWay 63 = .ok (.aload_n 0, 1) := by decide +kernel
theorem dX0_traceWay_64 : decode cX0_traceWay 64 = .ok (.getfield 18, 3) := by decide +kernel
theorem dX0_traceWay_67 : decode cX0_traceWay 67 = .ok (.iload_n 1, 1) := by decide +kernel
theorem dX0_traceWay_68 : decode cX0_traceWay 68 = .ok (.iaload, 1) := by decide +kernel
theorem dX0_traceWay_69 : decode cX0_traceWay 69 = .ok (.invokestatic 69, 3) := by decide +kernel
theorem dX0_traceWay_72 : decode cX0_traceWay 72 = .ok (.invokestatic 73, 3) := by decide +kernel
theorem dX0_traceWay_75 : decode cX0_traceWay 75 = .ok (.iadd, 1) := by decide +kernel
theorem dX0_traceWay_76 : decode cX0_traceWay 76 = .ok (.putfield 55, 3) := by decide +kernel
theorem dX0_traceWay_79 : decode cX0_traceWay 79 = .ok (.aload_n 0, 1) := by decide +kernel
theorem dX0_traceWay_80 : decode cX0_traceWay 80 = .ok (.aload_n 0, 1) := by decide +kernel
theorem dX0_traceWay_81 : decode cX0_traceWay 81 = .ok (.getfield 18, 3) := by decide +kernel
theorem dX0_traceWay_84 : decode cX0_traceWay 84 = .ok (.iload_n 1, 1) := by decide +kernel
theorem dX0_traceWay_85 : decode cX0_traceWay 85 = .ok (.iaload, 1) := by decide +kernel
theorem dX0_traceWay_86 : decode cX0_traceWay 86 = .ok (.putfield 58, 3) := by decide +kernel
theorem dX0_traceWay_89 : decode cX0_traceWay 89 = .ok (.aload_n 0, 1) := by decide +kernel
theorem dX0_traceWay_90 : decode cX0_traceWay 90 = .ok (.getfield 15, 3) := by decide +kernel
theorem dX0_traceWay_93 : decode cX0_traceWay 93 = .ok (.iload_n 1, 1) := by decide +kernel
theorem dX0_traceWay_94 : decode cX0_traceWay 94 = .ok (.iaload, 1) := by decide +kernel
theorem dX0_traceWay_95 : decode cX0_traceWay 95 = .ok (.istore_n 1, 1) := by decide +kernel
theorem dX0_traceWay_96 : decode cX0_traceWay 96 = .ok (.iinc 2 1, 3) := by decide +kernel
theorem dX0_traceWay_99 : decode cX0_traceWay 99 = .ok (.goto (-65), 3) := by decide +kernel
theorem dX0_traceWay_102 : decode cX0_traceWay 102 = .ok (.return_, 1) := by decide +kernel
theorem dX0_isFound_0 : decode cX0_isFound 0 = .ok (.iload_n 1, 1) := by decide +kernel
theorem dX0_isFound_1 : decode cX0_isFound 1 = .ok (.ifCond .lt 22, 3) := by decide +kernel
theorem dX0_isFound_4 : decode cX0_isFound 4 = .ok (.iload_n 1, 1) := by decide +kernel
theorem dX0_isFound_5 : decode cX0_isFound 5 = .ok (.aload_n 0, 1) := by decide +kernel
theorem dX0_isFound_6 : decode cX0_isFound 6 = .ok (.getfield 28, 3) := by decide +kernel
theorem dX0_isFound_9 : decode cX0_isFound 9 = .ok (.if_icmp .ge 14, 3) := by decide +kernel
theorem dX0_isFound_12 : decode cX0_isFound 12 = .ok (.iload_n 1, 1) := by decide +kernel
theorem dX0_isFound_13 : decode cX0_isFound 13 = .ok (.sipush 800, 3) := by decide +kernel
theorem dX0_isFound_16 : decode cX0_isFound 16 = .ok (.if_icmp .ge 7, 3) := by decide +kernel
theorem dX0_isFound_19 : decode cX0_isFound 19 = .ok (.iconst 1, 1) := by decide +kernel
theorem dX0_isFound_20 : decode cX0_isFound 20 = .ok (.goto 4, 3) := by decide +kernel
theorem dX0_isFound_23 : decode cX0_isFound 23 = .ok (.iconst 0, 1) := by decide +kernel
theorem dX0_isFound_24 : decode cX0_isFound 24 = .ok (.ireturn, 1) := by decide +kernel
set_option maxRecDepth 20000 in
theorem ggX0_addReachedFrom_X0_isFound : GoodIn wsX0_addReachedFrom wsX0_isFound := goodIn_r _ [7, 8, 65, 66, 67, 68, 69, 70, 71, 72, 73, 74] (by decide +kernel) (by decide +kernel)
set_option maxRecDepth 20000 in
theorem gX0_addReachedFrom_X0_isFound : GoodIn wsX0_addReachedFrom (wsV RX0 61 RX0 yX0_isFound wsX0_isFound) := goodIn_app (goodIn_of _ (by decide +kernel)) ggX0_addReachedFrom_X0_isFound
set_option maxRecDepth 20000 in
theorem ggX0_addReachedFrom_X1_filledIn : GoodIn wsX0_addReachedFrom wsX1_filledIn := goodIn_r _ [13, 14, 15, 16, 17, 12, 18, 19, 20, 21, 22, 23, 24, 25, 26, 27, 75, 76, 77, 78, 79, 80] (by decide +kernel) (by decide +kernel)
set_option maxRecDepth 20000 in
theorem gX0_addReachedFrom_X1_filledIn : GoodIn wsX0_addReachedFrom (wsV RX0 78 RX1 yX1_filledIn wsX1_filledIn) := goodIn_app (goodIn_of _ (by decide +kernel)) ggX0_addReachedFrom_X1_filledIn
set_option maxRecDepth 20000 in
theorem ggX0_addReachedFrom_X1_count : GoodIn wsX0_addReachedFrom wsX1_count := goodIn_r _ [31, 14, 75, 76, 77, 78, 79, 80] (by decide +kernel) (by decide +kernel)
set_option maxRecDepth 20000 in
theorem gX0_addReachedFrom_X1_count : GoodIn wsX0_addReachedFrom (wsV RX0 84 RX1 yX1_count wsX1_count) := goodIn_app (goodIn_of _ (by decide +kernel)) ggX0_addReachedFrom_X1_count
set_option maxRecDepth 20000 in
theorem ggX0_addReachedFrom_X1_wayIn : GoodIn wsX0_addReachedFrom wsX1_wayIn := goodIn_r _ [35, 36, 19, 37, 21, 22, 23, 12, 24, 14, 25, 26, 27, 15, 16, 17, 18, 20, 38, 39, 40, 41, 42, 75, 76, 77, 78, 79, 80] (by decide +kernel) (by decide +kernel)
set_option maxRecDepth 20000 in
theorem gX0_addReachedFrom_X1_wayIn : GoodIn wsX0_addReachedFrom (wsV RX0 88 RX1 yX1_wayIn wsX1_wayIn) := goodIn_app (goodIn_of _ (by decide +kernel)) ggX0_addReachedFrom_X1_wayIn
set_option maxRecDepth 20000 in
theorem ggX0_addReachedFrom_X0_addDriven : GoodIn wsX0_addReachedFrom wsX0_addDriven := goodIn_r _ [46, 1, 3, 4, 5, 6, 7, 8, 47, 26, 48, 49, 50, 51, 52, 53, 54, 55, 56, 57, 58, 59, 60, 61, 62, 63, 64, 25, 27, 65, 66, 67, 68, 69, 70, 71, 72, 73, 74] (by decide +kernel) (by decide +kernel)
set_option maxRecDepth 20000 in
theorem gX0_addReachedFrom_X0_addDriven : GoodIn wsX0_addReachedFrom (wsV RX0 92 RX0 yX0_addDriven wsX0_addDriven) := goodIn_app (goodIn_of _ (by decide +kernel)) ggX0_addReachedFrom_X0_addDriven
theorem dX0_addReachedFrom_0 : decode cX0_addReachedFrom 0 = .ok (.aload_n 0, 1) := by decide +kernel
theorem dX0_addReachedFrom_1 : decode cX0_addReachedFrom 1 = .ok (.iload_n 1, 1) := by decide +kernel
theorem dX0_addReachedFrom_2 : decode cX0_addReachedFrom 2 = .ok (.invokevirtual 61, 3) := by decide +kernel
theorem dX0_addReachedFrom_5 : decode cX0_addReachedFrom 5 = .ok (.ifCond .ne 4, 3) := by decide +kernel
theorem dX0_addReachedFrom_8 : decode cX0_addReachedFrom 8 = .ok (.return_, 1) := by decide +kernel
theorem dX0_addReachedFrom_9 : decode cX0_addReachedFrom 9 = .ok (.aload_n 0, 1) := by decide +kernel
theorem dX0_addReachedFrom_10 : decode cX0_addReachedFrom 10 = .ok (.getfield 9, 3) := by decide +kernel
theorem dX0_addReachedFrom_13 : decode cX0_addReachedFrom 13 = .ok (.iload_n 1, 1) := by decide +kernel
theorem dX0_addReachedFrom_14 : decode cX0_addReachedFrom 14 = .ok (.iaload, 1) := by decide +kernel
theorem dX0_addReachedFrom_15 : decode cX0_addReachedFrom 15 = .ok (.istore_n 2, 1) := by decide +kernel
theorem dX0_addReachedFrom_16 : decode cX0_addReachedFrom 16 = .ok (.aload_n 0, 1) := by decide +kernel
theorem dX0_addReachedFrom_17 : decode cX0_addReachedFrom 17 = .ok (.getfield 24, 3) := by decide +kernel
theorem dX0_addReachedFrom_20 : decode cX0_addReachedFrom 20 = .ok (.iload_n 2, 1) := by decide +kernel
theorem dX0_addReachedFrom_21 : decode cX0_addReachedFrom 21 = .ok (.invokevirtual 78, 3) := by decide +kernel
theorem dX0_addReachedFrom_24 : decode cX0_addReachedFrom 24 = .ok (.lstore_n 3, 1) := by decide +kernel
theorem dX0_addReachedFrom_25 : decode cX0_addReachedFrom 25 = .ok (.iconst 0, 1) := by decide +kernel
theorem dX0_addReachedFrom_26 : decode cX0_addReachedFrom 26 = .ok (.istore 5, 2) := by decide +kernel
theorem dX0_addReachedFrom_28 : decode cX0_addReachedFrom 28 = .ok (.iload 5, 2) := by decide +kernel
theorem dX0_addReachedFrom_30 : decode cX0_addReachedFrom 30 = .ok (.aload_n 0, 1) := by decide +kernel
theorem dX0_addReachedFrom_31 : decode cX0_addReachedFrom 31 = .ok (.getfield 24, 3) := by decide +kernel
theorem dX0_addReachedFrom_34 : decode cX0_addReachedFrom 34 = .ok (.invokevirtual 84, 3) := by decide +kernel
theorem dX0_addReachedFrom_37 : decode cX0_addReachedFrom 37 = .ok (.if_icmp .ge 49, 3) := by decide +kernel
theorem dX0_addReachedFrom_40 : decode cX0_addReachedFrom 40 = .ok (.aload_n 0, 1) := by decide +kernel
theorem dX0_addReachedFrom_41 : decode cX0_addReachedFrom 41 = .ok (.iload_n 1, 1) := by decide +kernel
theorem dX0_addReachedFrom_42 : decode cX0_addReachedFrom 42 = .ok (.iload 5, 2) := by decide +kernel
theorem dX0_addReachedFrom_44 : decode cX0_addReachedFrom 44 = .ok (.iconst (-1), 1) := by decide +kernel
theorem dX0_addReachedFrom_45 : decode cX0_addReachedFrom 45 = .ok (.aload_n 0, 1) := by decide +kernel
theorem dX0_addReachedFrom_46 : decode cX0_addReachedFrom 46 = .ok (.getfield 24, 3) := by decide +kernel
theorem dX0_addReachedFrom_49 : decode cX0_addReachedFrom 49 = .ok (.iload_n 2, 1) := by decide +kernel
theorem dX0_addReachedFrom_50 : decode cX0_addReachedFrom 50 = .ok (.lload_n 3, 1) := by decide +kernel
theorem dX0_addReachedFrom_51 : decode cX0_addReachedFrom 51 = .ok (.iload 5, 2) := by decide +kernel
theorem dX0_addReachedFrom_53 : decode cX0_addReachedFrom 53 = .ok (.iconst (-1), 1) := by decide +kernel
theorem dX0_addReachedFrom_54 : decode cX0_addReachedFrom 54 = .ok (.invokevirtual 88, 3) := by decide +kernel
theorem dX0_addReachedFrom_57 : decode cX0_addReachedFrom 57 = .ok (.invokevirtual 92, 3) := by decide +kernel
theorem dX0_addReachedFrom_60 : decode cX0_addReachedFrom 60 = .ok (.aload_n 0, 1) := by decide +kernel
theorem dX0_addReachedFrom_61 : decode cX0_addReachedFrom 61 = .ok (.iload_n 1, 1) := by decide +kernel
theorem dX0_addReachedFrom_62 : decode cX0_addReachedFrom 62 = .ok (.iload 5, 2) := by decide +kernel
theorem dX0_addReachedFrom_64 : decode cX0_addReachedFrom 64 = .ok (.iconst 1, 1) := by decide +kernel
theorem dX0_addReachedFrom_65 : decode cX0_addReachedFrom 65 = .ok (.aload_n 0, 1) := by decide +kernel
theorem dX0_addReachedFrom_66 : decode cX0_addReachedFrom 66 = .ok (.getfield 24, 3) := by decide +kernel
theorem dX0_addReachedFrom_69 : decode cX0_addReachedFrom 69 = .ok (.iload_n 2, 1) := by decide +kernel
theorem dX0_addReachedFrom_70 : decode cX0_addReachedFrom 70 = .ok (.lload_n 3, 1) := by decide +kernel
theorem dX0_addReachedFrom_71 : decode cX0_addReachedFrom 71 = .ok (.iload 5, 2) := by decide +kernel
theorem dX0_addReachedFrom_73 : decode cX0_addReachedFrom 73 = .ok (.iconst 1, 1) := by decide +kernel
theorem dX0_addReachedFrom_74 : decode cX0_addReachedFrom 74 = .ok (.invokevirtual 88, 3) := by decide +kernel
theorem dX0_addReachedFrom_77 : decode cX0_addReachedFrom 77 = .ok (.invokevirtual 92, 3) := by decide +kernel
theorem dX0_addReachedFrom_80 : decode cX0_addReachedFrom 80 = .ok (.iinc 5 1, 3) := by decide +kernel
theorem dX0_addReachedFrom_83 : decode cX0_addReachedFrom 83 = .ok (.goto (-55), 3) := by decide +kernel
theorem dX0_addReachedFrom_86 : decode cX0_addReachedFrom 86 = .ok (.return_, 1) := by decide +kernel
set_option maxRecDepth 20000 in
theorem ggX0_addDriven_X0_isFound : GoodIn wsX0_addDriven wsX0_isFound := goodIn_r _ [6, 7, 29, 30, 31, 32, 33, 34, 35, 36, 37, 38] (by decide +kernel) (by decide +kernel)
set_option maxRecDepth 20000 in
theorem gX0_addDriven_X0_isFound : GoodIn wsX0_addDriven (wsV RX0 61 RX0 yX0_isFound wsX0_isFound) := goodIn_app (goodIn_of _ (by decide +kernel)) ggX0_addDriven_X0_isFound
set_option maxRecDepth 20000 in
theorem ggX0_addDriven_X2_moved : GoodIn wsX0_addDriven wsX2_moved := goodIn_r _ [10] (by decide +kernel) (by decide +kernel)
set_option maxRecDepth 20000 in
theorem gX0_addDriven_X2_moved_n96 : GoodIn wsX0_addDriven (wsX2_moved) := ggX0_addDriven_X2_moved
set_option maxRecDepth 20000 in
theorem ggX0_addDriven_X0_codeOfMove : GoodIn wsX0_addDriven wsX0_codeOfMove := goodIn_r _ [13] (by decide +kernel) (by decide +kernel)
set_option maxRecDepth 20000 in
theorem gX0_addDriven_X0_codeOfMove : GoodIn wsX0_addDriven (va_wsS RX0 100 yX0_codeOfMove wsX0_codeOfMove) := goodIn_app (goodIn_of _ (by decide +kernel)) ggX0_addDriven_X0_codeOfMove
set_option maxRecDepth 20000 in
theorem ggX0_addDriven_X0_addIfNew : GoodIn wsX0_addDriven wsX0_addIfNew := goodIn_r _ [17, 7, 18, 1, 19, 20, 21, 22, 23, 24, 5, 25, 26, 27, 9, 28, 29, 30, 31, 32, 33, 34, 35, 36, 37, 38] (by decide +kernel) (by decide +kernel)
set_option maxRecDepth 20000 in
theorem gX0_addDriven_X0_addIfNew : GoodIn wsX0_addDriven (wsV RX0 41 RX0 yX0_addIfNew wsX0_addIfNew) := goodIn_app (goodIn_of _ (by decide +kernel)) ggX0_addDriven_X0_addIfNew
theorem dX0_addDriven_0 : decode cX0_addDriven 0 = .ok (.aload_n 0, 1) := by decide +kernel
theorem dX0_addDriven_1 : decode cX0_addDriven 1 = .ok (.iload_n 1, 1) := by decide +kernel
theorem dX0_addDriven_2 : decode cX0_addDriven 2 = .ok (.invokevirtual 61, 3) := by decide +kernel
theorem dX0_addDriven_5 : decode cX0_addDriven 5 = .ok (.ifCond .ne 4, 3) := by decide +kernel
theorem dX0_addDriven_8 : decode cX0_addDriven 8 = .ok (.return_, 1) := by decide +kernel
theorem dX0_addDriven_9 : decode cX0_addDriven 9 = .ok (.iconst 1, 1) := by decide +kernel
theorem dX0_addDriven_10 : decode cX0_addDriven 10 = .ok (.istore 5, 2) := by decide +kernel
theorem dX0_addDriven_12 : decode cX0_addDriven 12 = .ok (.iload 5, 2) := by decide +kernel
theorem dX0_addDriven_14 : decode cX0_addDriven 14 = .ok (.iload 4, 2) := by decide +kernel
theorem dX0_addDriven_16 : decode cX0_addDriven 16 = .ok (.if_icmp .gt 44, 3) := by decide +kernel
theorem dX0_addDriven_19 : decode cX0_addDriven 19 = .ok (.iload 5, 2) := by decide +kernel
theorem dX0_addDriven_21 : decode cX0_addDriven 21 = .ok (.iconst 4, 1) := by decide +kernel
theorem dX0_addDriven_22 : decode cX0_addDriven 22 = .ok (.if_icmp .gt 38, 3) := by decide +kernel
theorem dX0_addDriven_25 : decode cX0_addDriven 25 = .ok (.iload_n 3, 1) := by decide +kernel
theorem dX0_addDriven_26 : decode cX0_addDriven 26 = .ok (.iload 5, 2) := by decide +kernel
theorem dX0_addDriven_28 : decode cX0_addDriven 28 = .ok (.imul, 1) := by decide +kernel
theorem dX0_addDriven_29 : decode cX0_addDriven 29 = .ok (.istore 6, 2) := by decide +kernel
theorem dX0_addDriven_31 : decode cX0_addDriven 31 = .ok (.aload_n 0, 1) := by decide +kernel
theorem dX0_addDriven_32 : decode cX0_addDriven 32 = .ok (.aload_n 0, 1) := by decide +kernel
theorem dX0_addDriven_33 : decode cX0_addDriven 33 = .ok (.getfield 9, 3) := by decide +kernel
theorem dX0_addDriven_36 : decode cX0_addDriven 36 = .ok (.iload_n 1, 1) := by decide +kernel
theorem dX0_addDriven_37 : decode cX0_addDriven 37 = .ok (.iaload, 1) := by decide +kernel
theorem dX0_addDriven_38 : decode cX0_addDriven 38 = .ok (.iload_n 2, 1) := by decide +kernel
theorem dX0_addDriven_39 : decode cX0_addDriven 39 = .ok (.iload 6, 2) := by decide +kernel
theorem dX0_addDriven_41 : decode cX0_addDriven 41 = .ok (.invokestatic 96, 3) := by decide +kernel
theorem dX0_addDriven_44 : decode cX0_addDriven 44 = .ok (.iload_n 1, 1) := by decide +kernel
theorem dX0_addDriven_45 : decode cX0_addDriven 45 = .ok (.iload_n 2, 1) := by decide +kernel
theorem dX0_addDriven_46 : decode cX0_addDriven 46 = .ok (.iload 6, 2) := by decide +kernel
theorem dX0_addDriven_48 : decode cX0_addDriven 48 = .ok (.invokestatic 100, 3) := by decide +kernel
theorem dX0_addDriven_51 : decode cX0_addDriven 51 = .ok (.invokevirtual 41, 3) := by decide +kernel
theorem dX0_addDriven_54 : decode cX0_addDriven 54 = .ok (.iinc 5 1, 3) := by decide +kernel
theorem dX0_addDriven_57 : decode cX0_addDriven 57 = .ok (.goto (-45), 3) := by decide +kernel
theorem dX0_addDriven_60 : decode cX0_addDriven 60 = .ok (.return_, 1) := by decide +kernel
set_option maxRecDepth 20000 in
theorem ggX0_addIfNew_X0_slotFor : GoodIn wsX0_addIfNew wsX0_slotFor := goodIn_r _ [11, 12, 2, 3, 16, 17, 18, 19, 20, 21, 22, 23, 24, 25] (by decide +kernel) (by decide +kernel)
set_option maxRecDepth 20000 in
theorem gX0_addIfNew_X0_slotFor : GoodIn wsX0_addIfNew (wsV RX0 103 RX0 yX0_slotFor wsX0_slotFor) := goodIn_app (goodIn_of _ (by decide +kernel)) ggX0_addIfNew_X0_slotFor
set_option maxRecDepth 20000 in
theorem ggX0_addIfNew_X2_placeIn : GoodIn wsX0_addIfNew wsX2_placeIn := goodIn_r _ [15] (by decide +kernel) (by decide +kernel)
set_option maxRecDepth 20000 in
theorem gX0_addIfNew_X2_placeIn_n65 : GoodIn wsX0_addIfNew (wsX2_placeIn) := ggX0_addIfNew_X2_placeIn
theorem dX0_addIfNew_0 : decode cX0_addIfNew 0 = .ok (.aload_n 0, 1) := by decide +kernel
theorem dX0_addIfNew_1 : decode cX0_addIfNew 1 = .ok (.getfield 28, 3) := by decide +kernel
theorem dX0_addIfNew_4 : decode cX0_addIfNew 4 = .ok (.istore 4, 2) := by decide +kernel
theorem dX0_addIfNew_6 : decode cX0_addIfNew 6 = .ok (.aload_n 0, 1) := by decide +kernel
theorem dX0_addIfNew_7 : decode cX0_addIfNew 7 = .ok (.iload_n 1, 1) := by decide +kernel
theorem dX0_addIfNew_8 : decode cX0_addIfNew 8 = .ok (.invokevirtual 103, 3) := by decide +kernel
theorem dX0_addIfNew_11 : decode cX0_addIfNew 11 = .ok (.istore 5, 2) := by decide +kernel
theorem dX0_addIfNew_13 : decode cX0_addIfNew 13 = .ok (.iload 4, 2) := by decide +kernel
theorem dX0_addIfNew_15 : decode cX0_addIfNew 15 = .ok (.ifCond .lt 34, 3) := by decide +kernel
theorem dX0_addIfNew_18 : decode cX0_addIfNew 18 = .ok (.iload 4, 2) := by decide +kernel
theorem dX0_addIfNew_20 : decode cX0_addIfNew 20 = .ok (.sipush 800, 3) := by decide +kernel
theorem dX0_addIfNew_23 : decode cX0_addIfNew 23 = .ok (.if_icmp .ge 26, 3) := by decide +kernel
theorem dX0_addIfNew_26 : decode cX0_addIfNew 26 = .ok (.iload 5, 2) := by decide +kernel
theorem dX0_addIfNew_28 : decode cX0_addIfNew 28 = .ok (.ifCond .lt 21, 3) := by decide +kernel
theorem dX0_addIfNew_31 : decode cX0_addIfNew 31 = .ok (.iload 5, 2) := by decide +kernel
theorem dX0_addIfNew_33 : decode cX0_addIfNew 33 = .ok (.sipush 2048, 3) := by decide +kernel
theorem dX0_addIfNew_36 : decode cX0_addIfNew 36 = .ok (.if_icmp .ge 13, 3) := by decide +kernel
theorem dX0_addIfNew_39 : decode cX0_addIfNew 39 = .ok (.aload_n 0, 1) := by decide +kernel
theorem dX0_addIfNew_40 : decode cX0_addIfNew 40 = .ok (.getfield 21, 3) := by decide +kernel
theorem dX0_addIfNew_43 : decode cX0_addIfNew 43 = .ok (.iload 5, 2) := by decide +kernel
theorem dX0_addIfNew_45 : decode cX0_addIfNew 45 = .ok (.iaload, 1) := by decide +kernel
theorem dX0_addIfNew_46 : decode cX0_addIfNew 46 = .ok (.ifCond .eq 4, 3) := by decide +kernel
theorem dX0_addIfNew_49 : decode cX0_addIfNew 49 = .ok (.return_, 1) := by decide +kernel
theorem dX0_addIfNew_50 : decode cX0_addIfNew 50 = .ok (.aload_n 0, 1) := by decide +kernel
theorem dX0_addIfNew_51 : decode cX0_addIfNew 51 = .ok (.getfield 21, 3) := by decide +kernel
theorem dX0_addIfNew_54 : decode cX0_addIfNew 54 = .ok (.iload 5, 2) := by decide +kernel
theorem dX0_addIfNew_56 : decode cX0_addIfNew 56 = .ok (.iload 4, 2) := by decide +kernel
theorem dX0_addIfNew_58 : decode cX0_addIfNew 58 = .ok (.iconst 1, 1) := by decide +kernel
theorem dX0_addIfNew_59 : decode cX0_addIfNew 59 = .ok (.iadd, 1) := by decide +kernel
theorem dX0_addIfNew_60 : decode cX0_addIfNew 60 = .ok (.iastore, 1) := by decide +kernel
theorem dX0_addIfNew_61 : decode cX0_addIfNew 61 = .ok (.aload_n 0, 1) := by decide +kernel
theorem dX0_addIfNew_62 : decode cX0_addIfNew 62 = .ok (.getfield 9, 3) := by decide +kernel
theorem dX0_addIfNew_65 : decode cX0_addIfNew 65 = .ok (.iload 4, 2) := by decide +kernel
theorem dX0_addIfNew_67 : decode cX0_addIfNew 67 = .ok (.iload_n 1, 1) := by decide +kernel
theorem dX0_addIfNew_68 : decode cX0_addIfNew 68 = .ok (.iastore, 1) := by decide +kernel
theorem dX0_addIfNew_69 : decode cX0_addIfNew 69 = .ok (.aload_n 0, 1) := by decide +kernel
theorem dX0_addIfNew_70 : decode cX0_addIfNew 70 = .ok (.getfield 15, 3) := by decide +kernel
theorem dX0_addIfNew_73 : decode cX0_addIfNew 73 = .ok (.iload 4, 2) := by decide +kernel
theorem dX0_addIfNew_75 : decode cX0_addIfNew 75 = .ok (.iload_n 2, 1) := by decide +kernel
theorem dX0_addIfNew_76 : decode cX0_addIfNew 76 = .ok (.iastore, 1) := by decide +kernel
theorem dX0_addIfNew_77 : decode cX0_addIfNew 77 = .ok (.aload_n 0, 1) := by decide +kernel
theorem dX0_addIfNew_78 : decode cX0_addIfNew 78 = .ok (.getfield 18, 3) := by decide +kernel
theorem dX0_addIfNew_81 : decode cX0_addIfNew 81 = .ok (.iload 4, 2) := by decide +kernel
theorem dX0_addIfNew_83 : decode cX0_addIfNew 83 = .ok (.iload_n 3, 1) := by decide +kernel
theorem dX0_addIfNew_84 : decode cX0_addIfNew 84 = .ok (.iastore, 1) := by decide +kernel
theorem dX0_addIfNew_85 : decode cX0_addIfNew 85 = .ok (.aload_n 0, 1) := by decide +kernel
theorem dX0_addIfNew_86 : decode cX0_addIfNew 86 = .ok (.iload 4, 2) := by decide +kernel
theorem dX0_addIfNew_88 : decode cX0_addIfNew 88 = .ok (.iconst 1, 1) := by decide +kernel
theorem dX0_addIfNew_89 : decode cX0_addIfNew 89 = .ok (.iadd, 1) := by decide +kernel
theorem dX0_addIfNew_90 : decode cX0_addIfNew 90 = .ok (.putfield 28, 3) := by decide +kernel
theorem dX0_addIfNew_93 : decode cX0_addIfNew 93 = .ok (.aload_n 0, 1) := by decide +kernel
theorem dX0_addIfNew_94 : decode cX0_addIfNew 94 = .ok (.getfield 38, 3) := by decide +kernel
theorem dX0_addIfNew_97 : decode cX0_addIfNew 97 = .ok (.iconst (-1), 1) := by decide +kernel
theorem dX0_addIfNew_98 : decode cX0_addIfNew 98 = .ok (.if_icmp .ne 18, 3) := by decide +kernel
theorem dX0_addIfNew_101 : decode cX0_addIfNew 101 = .ok (.iload_n 1, 1) := by decide +kernel
theorem dX0_addIfNew_102 : decode cX0_addIfNew 102 = .ok (.iconst 0, 1) := by decide +kernel
theorem dX0_addIfNew_103 : decode cX0_addIfNew 103 = .ok (.invokestatic 65, 3) := by decide +kernel
theorem dX0_addIfNew_106 : decode cX0_addIfNew 106 = .ok (.iconst 4, 1) := by decide +kernel
theorem dX0_addIfNew_107 : decode cX0_addIfNew 107 = .ok (.if_icmp .ne 9, 3) := by decide +kernel
theorem dX0_addIfNew_110 : decode cX0_addIfNew 110 = .ok (.aload_n 0, 1) := by decide +kernel
theorem dX0_addIfNew_111 : decode cX0_addIfNew 111 = .ok (.iload 4, 2) := by decide +kernel
theorem dX0_addIfNew_113 : decode cX0_addIfNew 113 = .ok (.putfield 38, 3) := by decide +kernel
theorem dX0_addIfNew_116 : decode cX0_addIfNew 116 = .ok (.return_, 1) := by decide +kernel
theorem dX0_slotFor_0 : decode cX0_slotFor 0 = .ok (.iload_n 1, 1) := by decide +kernel
theorem dX0_slotFor_1 : decode cX0_slotFor 1 = .ok (.ldc 106, 2) := by decide +kernel
theorem dX0_slotFor_3 : decode cX0_slotFor 3 = .ok (.imul, 1) := by decide +kernel
theorem dX0_slotFor_4 : decode cX0_slotFor 4 = .ok (.bipush 21, 2) := by decide +kernel
theorem dX0_slotFor_6 : decode cX0_slotFor 6 = .ok (.iushr, 1) := by decide +kernel
theorem dX0_slotFor_7 : decode cX0_slotFor 7 = .ok (.istore_n 2, 1) := by decide +kernel
theorem dX0_slotFor_8 : decode cX0_slotFor 8 = .ok (.iconst 0, 1) := by decide +kernel
theorem dX0_slotFor_9 : decode cX0_slotFor 9 = .ok (.istore_n 3, 1) := by decide +kernel
theorem dX0_slotFor_10 : decode cX0_slotFor 10 = .ok (.iload_n 3, 1) := by decide +kernel
theorem dX0_slotFor_11 : decode cX0_slotFor 11 = .ok (.sipush 2048, 3) := by decide +kernel
theorem dX0_slotFor_14 : decode cX0_slotFor 14 = .ok (.if_icmp .ge 56, 3) := by decide +kernel
theorem dX0_slotFor_17 : decode cX0_slotFor 17 = .ok (.iload_n 2, 1) := by decide +kernel
theorem dX0_slotFor_18 : decode cX0_slotFor 18 = .ok (.iload_n 3, 1) := by decide +kernel
theorem dX0_slotFor_19 : decode cX0_slotFor 19 = .ok (.iadd, 1) := by decide +kernel
theorem dX0_slotFor_20 : decode cX0_slotFor 20 = .ok (.sipush 2047, 3) := by decide +kernel
theorem dX0_slotFor_23 : decode cX0_slotFor 23 = .ok (.iand, 1) := by decide +kernel
theorem dX0_slotFor_24 : decode cX0_slotFor 24 = .ok (.istore 4, 2) := by decide +kernel
theorem dX0_slotFor_26 : decode cX0_slotFor 26 = .ok (.aload_n 0, 1) := by decide +kernel
theorem dX0_slotFor_27 : decode cX0_slotFor 27 = .ok (.getfield 21, 3) := by decide +kernel
theorem dX0_slotFor_30 : decode cX0_slotFor 30 = .ok (.iload 4, 2) := by decide +kernel
theorem dX0_slotFor_32 : decode cX0_slotFor 32 = .ok (.iaload, 1) := by decide +kernel
theorem dX0_slotFor_33 : decode cX0_slotFor 33 = .ok (.iconst 1, 1) := by decide +kernel
theorem dX0_slotFor_34 : decode cX0_slotFor 34 = .ok (.isub, 1) := by decide +kernel
theorem dX0_slotFor_35 : decode cX0_slotFor 35 = .ok (.istore 5, 2) := by decide +kernel
theorem dX0_slotFor_37 : decode cX0_slotFor 37 = .ok (.iload 5, 2) := by decide +kernel
theorem dX0_slotFor_39 : decode cX0_slotFor 39 = .ok (.ifCond .lt 22, 3) := by decide +kernel
theorem dX0_slotFor_42 : decode cX0_slotFor 42 = .ok (.iload 5, 2) := by decide +kernel
theorem dX0_slotFor_44 : decode cX0_slotFor 44 = .ok (.sipush 800, 3) := by decide +kernel
theorem dX0_slotFor_47 : decode cX0_slotFor 47 = .ok (.if_icmp .ge 14, 3) := by decide +kernel
theorem dX0_slotFor_50 : decode cX0_slotFor 50 = .ok (.aload_n 0, 1) := by decide +kernel
theorem dX0_slotFor_51 : decode cX0_slotFor 51 = .ok (.getfield 9, 3) := by decide +kernel
theorem dX0_slotFor_54 : decode cX0_slotFor 54 = .ok (.iload 5, 2) := by decide +kernel
theorem dX0_slotFor_56 : decode cX0_slotFor 56 = .ok (.iaload, 1) := by decide +kernel
theorem dX0_slotFor_57 : decode cX0_slotFor 57 = .ok (.iload_n 1, 1) := by decide +kernel
theorem dX0_slotFor_58 : decode cX0_slotFor 58 = .ok (.if_icmp .ne 6, 3) := by decide +kernel
theorem dX0_slotFor_61 : decode cX0_slotFor 61 = .ok (.iload 4, 2) := by decide +kernel
theorem dX0_slotFor_63 : decode cX0_slotFor 63 = .ok (.ireturn, 1) := by decide +kernel
theorem dX0_slotFor_64 : decode cX0_slotFor 64 = .ok (.iinc 3 1, 3) := by decide +kernel
theorem dX0_slotFor_67 : decode cX0_slotFor 67 = .ok (.goto (-57), 3) := by decide +kernel
theorem dX0_slotFor_70 : decode cX0_slotFor 70 = .ok (.iconst (-1), 1) := by decide +kernel
theorem dX0_slotFor_71 : decode cX0_slotFor 71 = .ok (.ireturn, 1) := by decide +kernel
theorem dX0_codeOfMove_0 : decode cX0_codeOfMove 0 = .ok (.bipush 10, 2) := by decide +kernel
theorem dX0_codeOfMove_2 : decode cX0_codeOfMove 2 = .ok (.iload_n 0, 1) := by decide +kernel
theorem dX0_codeOfMove_3 : decode cX0_codeOfMove 3 = .ok (.imul, 1) := by decide +kernel
theorem dX0_codeOfMove_4 : decode cX0_codeOfMove 4 = .ok (.iload_n 1, 1) := by decide +kernel
theorem dX0_codeOfMove_5 : decode cX0_codeOfMove 5 = .ok (.iadd, 1) := by decide +kernel
theorem dX0_codeOfMove_6 : decode cX0_codeOfMove 6 = .ok (.iconst 4, 1) := by decide +kernel
theorem dX0_codeOfMove_7 : decode cX0_codeOfMove 7 = .ok (.iadd, 1) := by decide +kernel
theorem dX0_codeOfMove_8 : decode cX0_codeOfMove 8 = .ok (.ireturn, 1) := by decide +kernel
theorem dX0_cellsOfMove_0 : decode cX0_cellsOfMove 0 = .ok (.iload_n 0, 1) := by decide +kernel
theorem dX0_cellsOfMove_1 : decode cX0_cellsOfMove 1 = .ok (.bipush 10, 2) := by decide +kernel
theorem dX0_cellsOfMove_3 : decode cX0_cellsOfMove 3 = .ok (.irem, 1) := by decide +kernel
theorem dX0_cellsOfMove_4 : decode cX0_cellsOfMove 4 = .ok (.iconst 4, 1) := by decide +kernel
theorem dX0_cellsOfMove_5 : decode cX0_cellsOfMove 5 = .ok (.isub, 1) := by decide +kernel
theorem dX0_cellsOfMove_6 : decode cX0_cellsOfMove 6 = .ok (.ireturn, 1) := by decide +kernel
theorem dX1_init_0 : decode cX1_init 0 = .ok (.aload_n 0, 1) := by decide +kernel
theorem dX1_init_1 : decode cX1_init 1 = .ok (.invokespecial 3, 3) := by decide +kernel
theorem dX1_init_4 : decode cX1_init 4 = .ok (.aload_n 0, 1) := by decide +kernel
theorem dX1_init_5 : decode cX1_init 5 = .ok (.bipush 9, 2) := by decide +kernel
theorem dX1_init_7 : decode cX1_init 7 = .ok (.newarray .int, 2) := by decide +kernel
theorem dX1_init_9 : decode cX1_init 9 = .ok (.putfield 9, 3) := by decide +kernel
theorem dX1_init_12 : decode cX1_init 12 = .ok (.aload_n 0, 1) := by decide +kernel
theorem dX1_init_13 : decode cX1_init 13 = .ok (.bipush 9, 2) := by decide +kernel
theorem dX1_init_15 : decode cX1_init 15 = .ok (.newarray .boolean, 2) := by decide +kernel
theorem dX1_init_17 : decode cX1_init 17 = .ok (.putfield 15, 3) := by decide +kernel
theorem dX1_init_20 : decode cX1_init 20 = .ok (.aload_n 0, 1) := by decide +kernel
theorem dX1_init_21 : decode cX1_init 21 = .ok (.bipush 9, 2) := by decide +kernel
theorem dX1_init_23 : decode cX1_init 23 = .ok (.newarray .int, 2) := by decide +kernel
theorem dX1_init_25 : decode cX1_init 25 = .ok (.putfield 19, 3) := by decide +kernel
theorem dX1_init_28 : decode cX1_init 28 = .ok (.aload_n 0, 1) := by decide +kernel
theorem dX1_init_29 : decode cX1_init 29 = .ok (.bipush 9, 2) := by decide +kernel
theorem dX1_init_31 : decode cX1_init 31 = .ok (.newarray .long, 2) := by decide +kernel
theorem dX1_init_33 : decode cX1_init 33 = .ok (.putfield 22, 3) := by decide +kernel
theorem dX1_init_36 : decode cX1_init 36 = .ok (.return_, 1) := by decide +kernel
theorem dX1_count_0 : decode cX1_count 0 = .ok (.aload_n 0, 1) := by decide +kernel
theorem dX1_count_1 : decode cX1_count 1 = .ok (.getfield 26, 3) := by decide +kernel
theorem dX1_count_4 : decode cX1_count 4 = .ok (.ireturn, 1) := by decide +kernel
theorem dX1_has_0 : decode cX1_has 0 = .ok (.iload_n 1, 1) := by decide +kernel
theorem dX1_has_1 : decode cX1_has 1 = .ok (.ifCond .lt 21, 3) := by decide +kernel
theorem dX1_has_4 : decode cX1_has 4 = .ok (.iload_n 1, 1) := by decide +kernel
theorem dX1_has_5 : decode cX1_has 5 = .ok (.aload_n 0, 1) := by decide +kernel
theorem dX1_has_6 : decode cX1_has 6 = .ok (.getfield 26, 3) := by decide +kernel
theorem dX1_has_9 : decode cX1_has 9 = .ok (.if_icmp .ge 13, 3) := by decide +kernel
theorem dX1_has_12 : decode cX1_has 12 = .ok (.iload_n 1, 1) := by decide +kernel
theorem dX1_has_13 : decode cX1_has 13 = .ok (.bipush 9, 2) := by decide +kernel
theorem dX1_has_15 : decode cX1_has 15 = .ok (.if_icmp .ge 7, 3) := by decide +kernel
theorem dX1_has_18 : decode cX1_has 18 = .ok (.iconst 1, 1) := by decide +kernel
theorem dX1_has_19 : decode cX1_has 19 = .ok (.goto 4, 3) := by decide +kernel
theorem dX1_has_22 : decode cX1_has 22 = .ok (.iconst 0, 1) := by decide +kernel
theorem dX1_has_23 : decode cX1_has 23 = .ok (.ireturn, 1) := by decide +kernel
set_option maxRecDepth 20000 in
theorem ggX1_add_X2_cellsOf : GoodIn wsX1_add wsX2_cellsOf := goodIn_r _ [8, 9, 10, 7, 11] (by decide +kernel) (by decide +kernel)
set_option maxRecDepth 20000 in
theorem gX1_add_X2_cellsOf_n30 : GoodIn wsX1_add (wsX2_cellsOf) := ggX1_add_X2_cellsOf
theorem dX1_add_0 : decode cX1_add 0 = .ok (.aload_n 0, 1) := by decide +kernel
theorem dX1_add_1 : decode cX1_add 1 = .ok (.getfield 26, 3) := by decide +kernel
theorem dX1_add_4 : decode cX1_add 4 = .ok (.istore 4, 2) := by decide +kernel
theorem dX1_add_6 : decode cX1_add 6 = .ok (.iload 4, 2) := by decide +kernel
theorem dX1_add_8 : decode cX1_add 8 = .ok (.ifCond .lt 10, 3) := by decide +kernel
theorem dX1_add_11 : decode cX1_add 11 = .ok (.iload 4, 2) := by decide +kernel
theorem dX1_add_13 : decode cX1_add 13 = .ok (.bipush 9, 2) := by decide +kernel
theorem dX1_add_15 : decode cX1_add 15 = .ok (.if_icmp .lt 5, 3) := by decide +kernel
theorem dX1_add_18 : decode cX1_add 18 = .ok (.iconst (-1), 1) := by decide +kernel
theorem dX1_add_19 : decode cX1_add 19 = .ok (.ireturn, 1) := by decide +kernel
theorem dX1_add_20 : decode cX1_add 20 = .ok (.aload_n 0, 1) := by decide +kernel
theorem dX1_add_21 : decode cX1_add 21 = .ok (.getfield 9, 3) := by decide +kernel
theorem dX1_add_24 : decode cX1_add 24 = .ok (.iload 4, 2) := by decide +kernel
theorem dX1_add_26 : decode cX1_add 26 = .ok (.iload_n 1, 1) := by decide +kernel
theorem dX1_add_27 : decode cX1_add 27 = .ok (.iastore, 1) := by decide +kernel
theorem dX1_add_28 : decode cX1_add 28 = .ok (.aload_n 0, 1) := by decide +kernel
theorem dX1_add_29 : decode cX1_add 29 = .ok (.getfield 15, 3) := by decide +kernel
theorem dX1_add_32 : decode cX1_add 32 = .ok (.iload 4, 2) := by decide +kernel
theorem dX1_add_34 : decode cX1_add 34 = .ok (.iload_n 2, 1) := by decide +kernel
theorem dX1_add_35 : decode cX1_add 35 = .ok (.bastore, 1) := by decide +kernel
theorem dX1_add_36 : decode cX1_add 36 = .ok (.aload_n 0, 1) := by decide +kernel
theorem dX1_add_37 : decode cX1_add 37 = .ok (.getfield 19, 3) := by decide +kernel
theorem dX1_add_40 : decode cX1_add 40 = .ok (.iload 4, 2) := by decide +kernel
theorem dX1_add_42 : decode cX1_add 42 = .ok (.iload_n 3, 1) := by decide +kernel
theorem dX1_add_43 : decode cX1_add 43 = .ok (.iastore, 1) := by decide +kernel
theorem dX1_add_44 : decode cX1_add 44 = .ok (.aload_n 0, 1) := by decide +kernel
theorem dX1_add_45 : decode cX1_add 45 = .ok (.getfield 22, 3) := by decide +kernel
theorem dX1_add_48 : decode cX1_add 48 = .ok (.iload 4, 2) := by decide +kernel
theorem dX1_add_50 : decode cX1_add 50 = .ok (.iload_n 2, 1) := by decide +kernel
theorem dX1_add_51 : decode cX1_add 51 = .ok (.ifCond .eq 13, 3) := by decide +kernel
theorem dX1_add_54 : decode cX1_add 54 = .ok (.iload_n 1, 1) := by decide +kernel
theorem dX1_add_55 : decode cX1_add 55 = .ok (.iconst 1, 1) := by decide +kernel
theorem dX1_add_56 : decode cX1_add 56 = .ok (.iload_n 3, 1) := by decide +kernel
theorem dX1_add_57 : decode cX1_add 57 = .ok (.iconst 0, 1) := by decide +kernel
theorem dX1_add_58 : decode cX1_add 58 = .ok (.invokestatic 30, 3) := by decide +kernel
theorem dX1_add_61 : decode cX1_add 61 = .ok (.goto 10, 3) := by decide +kernel
theorem dX1_add_64 : decode cX1_add 64 = .ok (.iload_n 1, 1) := by decide +kernel
theorem dX1_add_65 : decode cX1_add 65 = .ok (.iconst 0, 1) := by decide +kernel
theorem dX1_add_66 : decode cX1_add 66 = .ok (.iconst 0, 1) := by decide +kernel
theorem dX1_add_67 : decode cX1_add 67 = .ok (.iload_n 3, 1) := by decide +kernel
theorem dX1_add_68 : decode cX1_add 68 = .ok (.invokestatic 30, 3) := by decide +kernel
theorem dX1_add_71 : decode cX1_add 71 = .ok (.lastore, 1) := by decide +kernel
theorem dX1_add_72 : decode cX1_add 72 = .ok (.aload_n 0, 1) := by decide +kernel
theorem dX1_add_73 : decode cX1_add 73 = .ok (.iload 4, 2) := by decide +kernel
theorem dX1_add_75 : decode cX1_add 75 = .ok (.iconst 1, 1) := by decide +kernel
theorem dX1_add_76 : decode cX1_add 76 = .ok (.iadd, 1) := by decide +kernel
theorem dX1_add_77 : decode cX1_add 77 = .ok (.putfield 26, 3) := by decide +kernel
theorem dX1_add_80 : decode cX1_add 80 = .ok (.iload 4, 2) := by decide +kernel
theorem dX1_add_82 : decode cX1_add 82 = .ok (.ireturn, 1) := by decide +kernel
theorem dX1_putRamp_0 : decode cX1_putRamp 0 = .ok (.aload_n 0, 1) := by decide +kernel
theorem dX1_putRamp_1 : decode cX1_putRamp 1 = .ok (.lload_n 1, 1) := by decide +kernel
theorem dX1_putRamp_2 : decode cX1_putRamp 2 = .ok (.putfield 34, 3) := by decide +kernel
theorem dX1_putRamp_5 : decode cX1_putRamp 5 = .ok (.return_, 1) := by decide +kernel
set_option maxRecDepth 20000 in
theorem ggX1_isLorry_X1_has : GoodIn wsX1_isLorry wsX1_has := goodIn_r _ [6, 7, 8, 9, 10, 11, 12, 13] (by decide +kernel) (by decide +kernel)
set_option maxRecDepth 20000 in
theorem gX1_isLorry_X1_has : GoodIn wsX1_isLorry (wsV RX1 38 RX1 yX1_has wsX1_has) := goodIn_app (goodIn_of _ (by decide +kernel)) ggX1_isLorry_X1_has
theorem dX1_isLorry_0 : decode cX1_isLorry 0 = .ok (.aload_n 0, 1) := by decide +kernel
theorem dX1_isLorry_1 : decode cX1_isLorry 1 = .ok (.iload_n 1, 1) := by decide +kernel
theorem dX1_isLorry_2 : decode cX1_isLorry 2 = .ok (.invokevirtual 38, 3) := by decide +kernel
theorem dX1_isLorry_5 : decode cX1_isLorry 5 = .ok (.ifCond .eq 17, 3) := by decide +kernel
theorem dX1_isLorry_8 : decode cX1_isLorry 8 = .ok (.aload_n 0, 1) := by decide +kernel
theorem dX1_isLorry_9 : decode cX1_isLorry 9 = .ok (.getfield 9, 3) := by decide +kernel
theorem dX1_isLorry_12 : decode cX1_isLorry 12 = .ok (.iload_n 1, 1) := by decide +kernel
theorem dX1_isLorry_13 : decode cX1_isLorry 13 = .ok (.iaload, 1) := by decide +kernel
theorem dX1_isLorry_14 : decode cX1_isLorry 14 = .ok (.iconst 2, 1) := by decide +kernel
theorem dX1_isLorry_15 : decode cX1_isLorry 15 = .ok (.if_icmp .le 7, 3) := by decide +kernel
theorem dX1_isLorry_18 : decode cX1_isLorry 18 = .ok (.iconst 1, 1) := by decide +kernel
theorem dX1_isLorry_19 : decode cX1_isLorry 19 = .ok (.goto 4, 3) := by decide +kernel
theorem dX1_isLorry_22 : decode cX1_isLorry 22 = .ok (.iconst 0, 1) := by decide +kernel
theorem dX1_isLorry_23 : decode cX1_isLorry 23 = .ok (.ireturn, 1) := by decide +kernel
set_option maxRecDepth 20000 in
theorem ggX1_standsAcross_X1_has : GoodIn wsX1_standsAcross wsX1_has := goodIn_r _ [6, 7, 8, 9, 10, 11, 12, 13] (by decide +kernel) (by decide +kernel)
set_option maxRecDepth 20000 in
theorem gX1_standsAcross_X1_has : GoodIn wsX1_standsAcross (wsV RX1 38 RX1 yX1_has wsX1_has) := goodIn_app (goodIn_of _ (by decide +kernel)) ggX1_standsAcross_X1_has
theorem dX1_standsAcross_0 : decode cX1_standsAcross 0 = .ok (.aload_n 0, 1) := by decide +kernel
theorem dX1_standsAcross_1 : decode cX1_standsAcross 1 = .ok (.iload_n 1, 1) := by decide +kernel
theorem dX1_standsAcross_2 : decode cX1_standsAcross 2 = .ok (.invokevirtual 38, 3) := by decide +kernel
theorem dX1_standsAcross_5 : decode cX1_standsAcross 5 = .ok (.ifCond .eq 16, 3) := by decide +kernel
theorem dX1_standsAcross_8 : decode cX1_standsAcross 8 = .ok (.aload_n 0, 1) := by decide +kernel
theorem dX1_standsAcross_9 : decode cX1_standsAcross 9 = .ok (.getfield 15, 3) := by decide +kernel
theorem dX1_standsAcross_12 : decode cX1_standsAcross 12 = .ok (.iload_n 1, 1) := by decide +kernel
theorem dX1_standsAcross_13 : decode cX1_standsAcross 13 = .ok (.baload, 1) := by decide +kernel
theorem dX1_standsAcross_14 : decode cX1_standsAcross 14 = .ok (.ifCond .eq 7, 3) := by decide +kernel
theorem dX1_standsAcross_17 : decode cX1_standsAcross 17 = .ok (.iconst 1, 1) := by decide +kernel
theorem dX1_standsAcross_18 : decode cX1_standsAcross 18 = .ok (.goto 4, 3) := by decide +kernel
theorem dX1_standsAcross_21 : decode cX1_standsAcross 21 = .ok (.iconst 0, 1) := by decide +kernel
theorem dX1_standsAcross_22 : decode cX1_standsAcross 22 = .ok (.ireturn, 1) := by decide +kernel
set_option maxRecDepth 20000 in
theorem ggX1_lineOf_X1_has : GoodIn wsX1_lineOf wsX1_has := goodIn_r _ [6, 7, 8, 9, 10, 11, 12, 13] (by decide +kernel) (by decide +kernel)
set_option maxRecDepth 20000 in
theorem gX1_lineOf_X1_has : GoodIn wsX1_lineOf (wsV RX1 38 RX1 yX1_has wsX1_has) := goodIn_app (goodIn_of _ (by decide +kernel)) ggX1_lineOf_X1_has
theorem dX1_lineOf_0 : decode cX1_lineOf 0 = .ok (.aload_n 0, 1) := by decide +kernel
theorem dX1_lineOf_1 : decode cX1_lineOf 1 = .ok (.iload_n 1, 1) := by decide +kernel
theorem dX1_lineOf_2 : decode cX1_lineOf 2 = .ok (.invokevirtual 38, 3) := by decide +kernel
theorem dX1_lineOf_5 : decode cX1_lineOf 5 = .ok (.ifCond .eq 12, 3) := by decide +kernel
theorem dX1_lineOf_8 : decode cX1_lineOf 8 = .ok (.aload_n 0, 1) := by decide +kernel
theorem dX1_lineOf_9 : decode cX1_lineOf 9 = .ok (.getfield 19, 3) := by decide +kernel
theorem dX1_lineOf_12 : decode cX1_lineOf 12 = .ok (.iload_n 1, 1) := by decide +kernel
theorem dX1_lineOf_13 : decode cX1_lineOf 13 = .ok (.iaload, 1) := by decide +kernel
theorem dX1_lineOf_14 : decode cX1_lineOf 14 = .ok (.goto 4, 3) := by decide +kernel
theorem dX1_lineOf_17 : decode cX1_lineOf 17 = .ok (.iconst 0, 1) := by decide +kernel
theorem dX1_lineOf_18 : decode cX1_lineOf 18 = .ok (.ireturn, 1) := by decide +kernel
theorem dX1_barredTo_0 : decode cX1_barredTo 0 = .ok (.iload_n 1, 1) := by decide +kernel
theorem dX1_barredTo_1 : decode cX1_barredTo 1 = .ok (.iconst 2, 1) := by decide +kernel
theorem dX1_barredTo_2 : decode cX1_barredTo 2 = .ok (.if_icmp .le 10, 3) := by decide +kernel
theorem dX1_barredTo_5 : decode cX1_barredTo 5 = .ok (.aload_n 0, 1) := by decide +kernel
theorem dX1_barredTo_6 : decode cX1_barredTo 6 = .ok (.getfield 34, 3) := by decide +kernel
theorem dX1_barredTo_9 : decode cX1_barredTo 9 = .ok (.goto 4, 3) := by decide +kernel
theorem dX1_barredTo_12 : decode cX1_barredTo 12 = .ok (.lconst 0, 1) := by decide +kernel
theorem dX1_barredTo_13 : decode cX1_barredTo 13 = .ok (.lreturn, 1) := by decide +kernel
set_option maxRecDepth 20000 in
theorem ggX1_cellsIn_X1_has : GoodIn wsX1_cellsIn wsX1_has := goodIn_r _ [7, 8, 12, 13, 14, 15, 16, 17] (by decide +kernel) (by decide +kernel)
set_option maxRecDepth 20000 in
theorem gX1_cellsIn_X1_has : GoodIn wsX1_cellsIn (wsV RX1 38 RX1 yX1_has wsX1_has) := goodIn_app (goodIn_of _ (by decide +kernel)) ggX1_cellsIn_X1_has
set_option maxRecDepth 20000 in
theorem ggX1_cellsIn_X2_placeIn : GoodIn wsX1_cellsIn wsX2_placeIn := goodIn_r _ [11] (by decide +kernel) (by decide +kernel)
set_option maxRecDepth 20000 in
theorem gX1_cellsIn_X2_placeIn_n42 : GoodIn wsX1_cellsIn (wsX2_placeIn) := ggX1_cellsIn_X2_placeIn
theorem dX1_cellsIn_0 : decode cX1_cellsIn 0 = .ok (.aload_n 0, 1) := by decide +kernel
theorem dX1_cellsIn_1 : decode cX1_cellsIn 1 = .ok (.iload_n 2, 1) := by decide +kernel
theorem dX1_cellsIn_2 : decode cX1_cellsIn 2 = .ok (.invokevirtual 38, 3) := by decide +kernel
theorem dX1_cellsIn_5 : decode cX1_cellsIn 5 = .ok (.ifCond .ne 5, 3) := by decide +kernel
theorem dX1_cellsIn_8 : decode cX1_cellsIn 8 = .ok (.lconst 0, 1) := by decide +kernel
theorem dX1_cellsIn_9 : decode cX1_cellsIn 9 = .ok (.lreturn, 1) := by decide +kernel
theorem dX1_cellsIn_10 : decode cX1_cellsIn 10 = .ok (.aload_n 0, 1) := by decide +kernel
theorem dX1_cellsIn_11 : decode cX1_cellsIn 11 = .ok (.getfield 15, 3) := by decide +kernel
theorem dX1_cellsIn_14 : decode cX1_cellsIn 14 = .ok (.iload_n 2, 1) := by decide +kernel
theorem dX1_cellsIn_15 : decode cX1_cellsIn 15 = .ok (.baload, 1) := by decide +kernel
theorem dX1_cellsIn_16 : decode cX1_cellsIn 16 = .ok (.ifCond .eq 7, 3) := by decide +kernel
theorem dX1_cellsIn_19 : decode cX1_cellsIn 19 = .ok (.iconst 1, 1) := by decide +kernel
theorem dX1_cellsIn_20 : decode cX1_cellsIn 20 = .ok (.goto 5, 3) := by decide +kernel
theorem dX1_cellsIn_23 : decode cX1_cellsIn 23 = .ok (.bipush 6, 2) := by decide +kernel
theorem dX1_cellsIn_25 : decode cX1_cellsIn 25 = .ok (.istore_n 3, 1) := by decide +kernel
theorem dX1_cellsIn_26 : decode cX1_cellsIn 26 = .ok (.aload_n 0, 1) := by decide +kernel
theorem dX1_cellsIn_27 : decode cX1_cellsIn 27 = .ok (.getfield 22, 3) := by decide +kernel
theorem dX1_cellsIn_30 : decode cX1_cellsIn 30 = .ok (.iload_n 2, 1) := by decide +kernel
theorem dX1_cellsIn_31 : decode cX1_cellsIn 31 = .ok (.laload, 1) := by decide +kernel
theorem dX1_cellsIn_32 : decode cX1_cellsIn 32 = .ok (.iload_n 3, 1) := by decide +kernel
theorem dX1_cellsIn_33 : decode cX1_cellsIn 33 = .ok (.iload_n 1, 1) := by decide +kernel
theorem dX1_cellsIn_34 : decode cX1_cellsIn 34 = .ok (.iload_n 2, 1) := by decide +kernel
theorem dX1_cellsIn_35 : decode cX1_cellsIn 35 = .ok (.invokestatic 42, 3) := by decide +kernel
theorem dX1_cellsIn_38 : decode cX1_cellsIn 38 = .ok (.imul, 1) := by decide +kernel
theorem dX1_cellsIn_39 : decode cX1_cellsIn 39 = .ok (.lshl, 1) := by decide +kernel
theorem dX1_cellsIn_40 : decode cX1_cellsIn 40 = .ok (.lreturn, 1) := by decide +kernel
set_option maxRecDepth 20000 in
theorem ggX1_filledIn_X1_cellsIn : GoodIn wsX1_filledIn wsX1_cellsIn := goodIn_r _ [6, 7, 8, 9, 10, 11, 5, 12, 1, 13, 14, 15, 16, 17, 18, 19, 20, 21] (by decide +kernel) (by decide +kernel)
set_option maxRecDepth 20000 in
theorem gX1_filledIn_X1_cellsIn : GoodIn wsX1_filledIn (wsV RX1 46 RX1 yX1_cellsIn wsX1_cellsIn) := goodIn_app (goodIn_of _ (by decide +kernel)) ggX1_filledIn_X1_cellsIn
theorem dX1_filledIn_0 : decode cX1_filledIn 0 = .ok (.lconst 0, 1) := by decide +kernel
theorem dX1_filledIn_1 : decode cX1_filledIn 1 = .ok (.lstore_n 2, 1) := by decide +kernel
theorem dX1_filledIn_2 : decode cX1_filledIn 2 = .ok (.iconst 0, 1) := by decide +kernel
theorem dX1_filledIn_3 : decode cX1_filledIn 3 = .ok (.istore 4, 2) := by decide +kernel
theorem dX1_filledIn_5 : decode cX1_filledIn 5 = .ok (.iload 4, 2) := by decide +kernel
theorem dX1_filledIn_7 : decode cX1_filledIn 7 = .ok (.aload_n 0, 1) := by decide +kernel
theorem dX1_filledIn_8 : decode cX1_filledIn 8 = .ok (.getfield 26, 3) := by decide +kernel
theorem dX1_filledIn_11 : decode cX1_filledIn 11 = .ok (.if_icmp .ge 19, 3) := by decide +kernel
theorem dX1_filledIn_14 : decode cX1_filledIn 14 = .ok (.lload_n 2, 1) := by decide +kernel
theorem dX1_filledIn_15 : decode cX1_filledIn 15 = .ok (.aload_n 0, 1) := by decide +kernel
theorem dX1_filledIn_16 : decode cX1_filledIn 16 = .ok (.iload_n 1, 1) := by decide +kernel
theorem dX1_filledIn_17 : decode cX1_filledIn 17 = .ok (.iload 4, 2) := by decide +kernel
theorem dX1_filledIn_19 : decode cX1_filledIn 19 = .ok (.invokevirtual 46, 3) := by decide +kernel
theorem dX1_filledIn_22 : decode cX1_filledIn 22 = .ok (.lor, 1) := by decide +kernel
theorem dX1_filledIn_23 : decode cX1_filledIn 23 = .ok (.lstore_n 2, 1) := by decide +kernel
theorem dX1_filledIn_24 : decode cX1_filledIn 24 = .ok (.iinc 4 1, 3) := by decide +kernel
theorem dX1_filledIn_27 : decode cX1_filledIn 27 = .ok (.goto (-22), 3) := by decide +kernel
theorem dX1_filledIn_30 : decode cX1_filledIn 30 = .ok (.lload_n 2, 1) := by decide +kernel
theorem dX1_filledIn_31 : decode cX1_filledIn 31 = .ok (.lreturn, 1) := by decide +kernel
set_option maxRecDepth 20000 in
theorem ggX1_vehicleOn_X1_cellsIn : GoodIn wsX1_vehicleOn wsX1_cellsIn := goodIn_r _ [6, 7, 8, 9, 10, 11, 5, 12, 1, 13, 14, 15, 16, 17, 18, 19, 20, 21] (by decide +kernel) (by decide +kernel)
set_option maxRecDepth 20000 in
theorem gX1_vehicleOn_X1_cellsIn : GoodIn wsX1_vehicleOn (wsV RX1 46 RX1 yX1_cellsIn wsX1_cellsIn) := goodIn_app (goodIn_of _ (by decide +kernel)) ggX1_vehicleOn_X1_cellsIn
theorem dX1_vehicleOn_0 : decode cX1_vehicleOn 0 = .ok (.iconst 0, 1) := by decide +kernel
theorem dX1_vehicleOn_1 : decode cX1_vehicleOn 1 = .ok (.istore 4, 2) := by decide +kernel
theorem dX1_vehicleOn_3 : decode cX1_vehicleOn 3 = .ok (.iload 4, 2) := by decide +kernel
theorem dX1_vehicleOn_5 : decode cX1_vehicleOn 5 = .ok (.aload_n 0, 1) := by decide +kernel
theorem dX1_vehicleOn_6 : decode cX1_vehicleOn 6 = .ok (.getfield 26, 3) := by decide +kernel
theorem dX1_vehicleOn_9 : decode cX1_vehicleOn 9 = .ok (.if_icmp .ge 26, 3) := by decide +kernel
theorem dX1_vehicleOn_12 : decode cX1_vehicleOn 12 = .ok (.aload_n 0, 1) := by decide +kernel
theorem dX1_vehicleOn_13 : decode cX1_vehicleOn 13 = .ok (.iload_n 1, 1) := by decide +kernel
theorem dX1_vehicleOn_14 : decode cX1_vehicleOn 14 = .ok (.iload 4, 2) := by decide +kernel
theorem dX1_vehicleOn_16 : decode cX1_vehicleOn 16 = .ok (.invokevirtual 46, 3) := by decide +kernel
theorem dX1_vehicleOn_19 : decode cX1_vehicleOn 19 = .ok (.lload_n 2, 1) := by decide +kernel
theorem dX1_vehicleOn_20 : decode cX1_vehicleOn 20 = .ok (.land, 1) := by decide +kernel
theorem dX1_vehicleOn_21 : decode cX1_vehicleOn 21 = .ok (.lconst 0, 1) := by decide +kernel
theorem dX1_vehicleOn_22 : decode cX1_vehicleOn 22 = .ok (.lcmp, 1) := by decide +kernel
theorem dX1_vehicleOn_23 : decode cX1_vehicleOn 23 = .ok (.ifCond .eq 6, 3) := by decide +kernel
theorem dX1_vehicleOn_26 : decode cX1_vehicleOn 26 = .ok (.iload 4, 2) := by decide +kernel
theorem dX1_vehicleOn_28 : decode cX1_vehicleOn 28 = .ok (.ireturn, 1) := by decide +kernel
theorem dX1_vehicleOn_29 : decode cX1_vehicleOn 29 = .ok (.iinc 4 1, 3) := by decide +kernel
theorem dX1_vehicleOn_32 : decode cX1_vehicleOn 32 = .ok (.goto (-29), 3) := by decide +kernel
theorem dX1_vehicleOn_35 : decode cX1_vehicleOn 35 = .ok (.iconst (-1), 1) := by decide +kernel
theorem dX1_vehicleOn_36 : decode cX1_vehicleOn 36 = .ok (.ireturn, 1) := by decide +kernel
set_option maxRecDepth 20000 in
theorem ggX1_wayIn_X1_has : GoodIn wsX1_wayIn wsX1_has := goodIn_r _ [8, 9, 23, 24, 25, 26, 27, 28] (by decide +kernel) (by decide +kernel)
set_option maxRecDepth 20000 in
theorem gX1_wayIn_X1_has : GoodIn wsX1_wayIn (wsV RX1 38 RX1 yX1_has wsX1_has) := goodIn_app (goodIn_of _ (by decide +kernel)) ggX1_wayIn_X1_has
set_option maxRecDepth 20000 in
theorem ggX1_wayIn_X2_placeIn : GoodIn wsX1_wayIn wsX2_placeIn := goodIn_r _ [12] (by decide +kernel) (by decide +kernel)
set_option maxRecDepth 20000 in
theorem gX1_wayIn_X2_placeIn_n42 : GoodIn wsX1_wayIn (wsX2_placeIn) := ggX1_wayIn_X2_placeIn
set_option maxRecDepth 20000 in
theorem ggX1_wayIn_X1_cellsIn : GoodIn wsX1_wayIn wsX1_cellsIn := goodIn_r _ [16, 2, 17, 4, 5, 6, 7, 8, 9, 10, 11, 12, 23, 24, 25, 26, 27, 28] (by decide +kernel) (by decide +kernel)
set_option maxRecDepth 20000 in
theorem gX1_wayIn_X1_cellsIn : GoodIn wsX1_wayIn (wsV RX1 46 RX1 yX1_cellsIn wsX1_cellsIn) := goodIn_app (goodIn_of _ (by decide +kernel)) ggX1_wayIn_X1_cellsIn
set_option maxRecDepth 20000 in
theorem ggX1_wayIn_X1_barredTo : GoodIn wsX1_wayIn wsX1_barredTo := goodIn_r _ [21, 22, 23, 24, 25, 26, 27, 28] (by decide +kernel) (by decide +kernel)
set_option maxRecDepth 20000 in
theorem gX1_wayIn_X1_barredTo : GoodIn wsX1_wayIn (wsV RX1 52 RX1 yX1_barredTo wsX1_barredTo) := goodIn_app (goodIn_of _ (by decide +kernel)) ggX1_wayIn_X1_barredTo
theorem dX1_wayIn_0 : decode cX1_wayIn 0 = .ok (.aload_n 0, 1) := by decide +kernel
theorem dX1_wayIn_1 : decode cX1_wayIn 1 = .ok (.iload 4, 2) := by decide +kernel
theorem dX1_wayIn_3 : decode cX1_wayIn 3 = .ok (.invokevirtual 38, 3) := by decide +kernel
theorem dX1_wayIn_6 : decode cX1_wayIn 6 = .ok (.ifCond .ne 5, 3) := by decide +kernel
theorem dX1_wayIn_9 : decode cX1_wayIn 9 = .ok (.iconst 0, 1) := by decide +kernel
theorem dX1_wayIn_10 : decode cX1_wayIn 10 = .ok (.ireturn, 1) := by decide +kernel
theorem dX1_wayIn_11 : decode cX1_wayIn 11 = .ok (.iload_n 1, 1) := by decide +kernel
theorem dX1_wayIn_12 : decode cX1_wayIn 12 = .ok (.iload 4, 2) := by decide +kernel
theorem dX1_wayIn_14 : decode cX1_wayIn 14 = .ok (.invokestatic 42, 3) := by decide +kernel
theorem dX1_wayIn_17 : decode cX1_wayIn 17 = .ok (.istore 6, 2) := by decide +kernel
theorem dX1_wayIn_19 : decode cX1_wayIn 19 = .ok (.iload 5, 2) := by decide +kernel
theorem dX1_wayIn_21 : decode cX1_wayIn 21 = .ok (.iconst 1, 1) := by decide +kernel
theorem dX1_wayIn_22 : decode cX1_wayIn 22 = .ok (.if_icmp .ne 19, 3) := by decide +kernel
theorem dX1_wayIn_25 : decode cX1_wayIn 25 = .ok (.bipush 6, 2) := by decide +kernel
theorem dX1_wayIn_27 : decode cX1_wayIn 27 = .ok (.aload_n 0, 1) := by decide +kernel
theorem dX1_wayIn_28 : decode cX1_wayIn 28 = .ok (.getfield 9, 3) := by decide +kernel
theorem dX1_wayIn_31 : decode cX1_wayIn 31 = .ok (.iload 4, 2) := by decide +kernel
theorem dX1_wayIn_33 : decode cX1_wayIn 33 = .ok (.iaload, 1) := by decide +kernel
theorem dX1_wayIn_34 : decode cX1_wayIn 34 = .ok (.isub, 1) := by decide +kernel
theorem dX1_wayIn_35 : decode cX1_wayIn 35 = .ok (.iload 6, 2) := by decide +kernel
theorem dX1_wayIn_37 : decode cX1_wayIn 37 = .ok (.isub, 1) := by decide +kernel
theorem dX1_wayIn_38 : decode cX1_wayIn 38 = .ok (.goto 5, 3) := by decide +kernel
theorem dX1_wayIn_41 : decode cX1_wayIn 41 = .ok (.iload 6, 2) := by decide +kernel
theorem dX1_wayIn_43 : decode cX1_wayIn 43 = .ok (.istore 7, 2) := by decide +kernel
theorem dX1_wayIn_45 : decode cX1_wayIn 45 = .ok (.aload_n 0, 1) := by decide +kernel
theorem dX1_wayIn_46 : decode cX1_wayIn 46 = .ok (.getfield 15, 3) := by decide +kernel
theorem dX1_wayIn_49 : decode cX1_wayIn 49 = .ok (.iload 4, 2) := by decide +kernel
theorem dX1_wayIn_51 : decode cX1_wayIn 51 = .ok (.baload, 1) := by decide +kernel
theorem dX1_wayIn_52 : decode cX1_wayIn 52 = .ok (.ifCond .eq 7, 3) := by decide +kernel
theorem dX1_wayIn_55 : decode cX1_wayIn 55 = .ok (.iconst 1, 1) := by decide +kernel
theorem dX1_wayIn_56 : decode cX1_wayIn 56 = .ok (.goto 5, 3) := by decide +kernel
theorem dX1_wayIn_59 : decode cX1_wayIn 59 = .ok (.bipush 6, 2) := by decide +kernel
theorem dX1_wayIn_61 : decode cX1_wayIn 61 = .ok (.istore 8, 2) := by decide +kernel
theorem dX1_wayIn_63 : decode cX1_wayIn 63 = .ok (.aload_n 0, 1) := by decide +kernel
theorem dX1_wayIn_64 : decode cX1_wayIn 64 = .ok (.iload_n 1, 1) := by decide +kernel
theorem dX1_wayIn_65 : decode cX1_wayIn 65 = .ok (.iload 4, 2) := by decide +kernel
theorem dX1_wayIn_67 : decode cX1_wayIn 67 = .ok (.invokevirtual 46, 3) := by decide +kernel
theorem dX1_wayIn_70 : decode cX1_wayIn 70 = .ok (.lstore 9, 2) := by decide +kernel
theorem dX1_wayIn_72 : decode cX1_wayIn 72 = .ok (.lload_n 2, 1) := by decide +kernel
theorem dX1_wayIn_73 : decode cX1_wayIn 73 = .ok (.lload 9, 2) := by decide +kernel
theorem dX1_wayIn_75 : decode cX1_wayIn 75 = .ok (.ldc2_w 50, 3) := by decide +kernel
theorem dX1_wayIn_78 : decode cX1_wayIn 78 = .ok (.lxor, 1) := by decide +kernel
theorem dX1_wayIn_79 : decode cX1_wayIn 79 = .ok (.land, 1) := by decide +kernel
theorem dX1_wayIn_80 : decode cX1_wayIn 80 = .ok (.aload_n 0, 1) := by decide +kernel
theorem dX1_wayIn_81 : decode cX1_wayIn 81 = .ok (.aload_n 0, 1) := by decide +kernel
theorem dX1_wayIn_82 : decode cX1_wayIn 82 = .ok (.getfield 9, 3) := by decide +kernel
theorem dX1_wayIn_85 : decode cX1_wayIn 85 = .ok (.iload 4, 2) := by decide +kernel
theorem dX1_wayIn_87 : decode cX1_wayIn 87 = .ok (.iaload, 1) := by decide +kernel
theorem dX1_wayIn_88 : decode cX1_wayIn 88 = .ok (.invokevirtual 52, 3) := by decide +kernel
theorem dX1_wayIn_91 : decode cX1_wayIn 91 = .ok (.lor, 1) := by decide +kernel
theorem dX1_wayIn_92 : decode cX1_wayIn 92 = .ok (.lstore 11, 2) := by decide +kernel
theorem dX1_wayIn_94 : decode cX1_wayIn 94 = .ok (.iconst 0, 1) := by decide +kernel
theorem dX1_wayIn_95 : decode cX1_wayIn 95 = .ok (.istore 13, 2) := by decide +kernel
theorem dX1_wayIn_97 : decode cX1_wayIn 97 = .ok (.iload 13, 2) := by decide +kernel
theorem dX1_wayIn_99 : decode cX1_wayIn 99 = .ok (.iload 7, 2) := by decide +kernel
theorem dX1_wayIn_101 : decode cX1_wayIn 101 = .ok (.if_icmp .ge 43, 3) := by decide +kernel
theorem dX1_wayIn_104 : decode cX1_wayIn 104 = .ok (.iload 5, 2) := by decide +kernel
theorem dX1_wayIn_106 : decode cX1_wayIn 106 = .ok (.iconst 1, 1) := by decide +kernel
theorem dX1_wayIn_107 : decode cX1_wayIn 107 = .ok (.if_icmp .ne 11, 3) := by decide +kernel
theorem dX1_wayIn_110 : decode cX1_wayIn 110 = .ok (.lload 9, 2) := by decide +kernel
theorem dX1_wayIn_112 : decode cX1_wayIn 112 = .ok (.iload 8, 2) := by decide +kernel
theorem dX1_wayIn_114 : decode cX1_wayIn 114 = .ok (.lshl, 1) := by decide +kernel
theorem dX1_wayIn_115 : decode cX1_wayIn 115 = .ok (.goto 8, 3) := by decide +kernel
theorem dX1_wayIn_118 : decode cX1_wayIn 118 = .ok (.lload 9, 2) := by decide +kernel
theorem dX1_wayIn_120 : decode cX1_wayIn 120 = .ok (.iload 8, 2) := by decide +kernel
theorem dX1_wayIn_122 : decode cX1_wayIn 122 = .ok (.lushr, 1) := by decide +kernel
theorem dX1_wayIn_123 : decode cX1_wayIn 123 = .ok (.lstore 9, 2) := by decide +kernel
theorem dX1_wayIn_125 : decode cX1_wayIn 125 = .ok (.lload 9, 2) := by decide +kernel
theorem dX1_wayIn_127 : decode cX1_wayIn 127 = .ok (.lload 11, 2) := by decide +kernel
theorem dX1_wayIn_129 : decode cX1_wayIn 129 = .ok (.land, 1) := by decide +kernel
theorem dX1_wayIn_130 : decode cX1_wayIn 130 = .ok (.lconst 0, 1) := by decide +kernel
theorem dX1_wayIn_131 : decode cX1_wayIn 131 = .ok (.lcmp, 1) := by decide +kernel
theorem dX1_wayIn_132 : decode cX1_wayIn 132 = .ok (.ifCond .eq 6, 3) := by decide +kernel
theorem dX1_wayIn_135 : decode cX1_wayIn 135 = .ok (.iload 13, 2) := by decide +kernel
theorem dX1_wayIn_137 : decode cX1_wayIn 137 = .ok (.ireturn, 1) := by decide +kernel
theorem dX1_wayIn_138 : decode cX1_wayIn 138 = .ok (.iinc 13 1, 3) := by decide +kernel
theorem dX1_wayIn_141 : decode cX1_wayIn 141 = .ok (.goto (-44), 3) := by decide +kernel
theorem dX1_wayIn_144 : decode cX1_wayIn 144 = .ok (.iload 7, 2) := by decide +kernel
theorem dX1_wayIn_146 : decode cX1_wayIn 146 = .ok (.ireturn, 1) := by decide +kernel
