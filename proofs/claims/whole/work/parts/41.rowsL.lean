set_option maxRecDepth 20000 in
theorem ggL_park_X2_park : GoodIn wsL_park wsX2_park := goodIn_ca (goodIn_ca (goodIn_r _ [7, 8, 9, 10, 11, 12, 13, 14, 15, 16, 17, 6, 18, 19, 20, 21, 22, 23, 24, 25, 26, 27, 28, 29, 30, 31, 32, 33, 34, 35, 36, 37, 38, 39, 40, 41, 42, 43, 44, 45, 46, 47, 48, 49, 50, 51, 52, 53, 54, 55, 56, 57, 58, 59, 60, 61, 62, 63, 64, 65, 66, 67, 68, 69, 70, 71, 72, 73, 74, 75, 76, 77, 78] (by decide +kernel) (by decide +kernel)) (goodIn_sub (fun _ h => List.mem_cons_of_mem _ (List.mem_append_left _ (List.mem_append_right _ h))) (by decide +kernel))) (goodIn_sub (fun _ h => List.mem_cons_of_mem _ (List.mem_append_right _ h)) (by decide +kernel))
set_option maxRecDepth 20000 in
theorem gL_park_X2_park : GoodIn wsL_park (wsV RL 7 RX2 yX2_park wsX2_park) := goodIn_app (goodIn_of _ (by decide +kernel)) ggL_park_X2_park
theorem dL_park_0 : decode cL_park 0 = .ok (.aload 5, 2) := by decide +kernel
theorem dL_park_2 : decode cL_park 2 = .ok (.iconst 0, 1) := by decide +kernel
theorem dL_park_3 : decode cL_park 3 = .ok (.aload_n 0, 1) := by decide +kernel
theorem dL_park_4 : decode cL_park 4 = .ok (.iload_n 1, 1) := by decide +kernel
theorem dL_park_5 : decode cL_park 5 = .ok (.iload_n 2, 1) := by decide +kernel
theorem dL_park_6 : decode cL_park 6 = .ok (.iload_n 3, 1) := by decide +kernel
theorem dL_park_7 : decode cL_park 7 = .ok (.iload 4, 2) := by decide +kernel
theorem dL_park_9 : decode cL_park 9 = .ok (.invokevirtual 7, 3) := by decide +kernel
theorem dL_park_12 : decode cL_park 12 = .ok (.i2l, 1) := by decide +kernel
theorem dL_park_13 : decode cL_park 13 = .ok (.lastore, 1) := by decide +kernel
theorem dL_park_14 : decode cL_park 14 = .ok (.goto 11, 3) := by decide +kernel
theorem dL_park_17 : decode cL_park 17 = .ok (.astore 6, 2) := by decide +kernel
theorem dL_park_19 : decode cL_park 19 = .ok (.iconst 1, 1) := by decide +kernel
theorem dL_park_20 : decode cL_park 20 = .ok (.ireturn, 1) := by decide +kernel
theorem dL_park_21 : decode cL_park 21 = .ok (.astore 6, 2) := by decide +kernel
theorem dL_park_23 : decode cL_park 23 = .ok (.iconst 2, 1) := by decide +kernel
theorem dL_park_24 : decode cL_park 24 = .ok (.ireturn, 1) := by decide +kernel
theorem dL_park_25 : decode cL_park 25 = .ok (.iconst 0, 1) := by decide +kernel
theorem dL_park_26 : decode cL_park 26 = .ok (.ireturn, 1) := by decide +kernel
set_option maxRecDepth 20000 in
theorem ggL_ramp_X2_ramp : GoodIn wsL_ramp wsX2_ramp := goodIn_ca (goodIn_ca (goodIn_r _ [7, 8, 9, 10, 11, 12, 13, 14, 15, 16, 17, 6, 18, 19, 20, 21, 22, 23, 24, 25, 26, 27, 28, 29, 30, 31, 32, 33, 34, 35, 36, 37, 38, 39, 40, 41, 42, 43, 44, 45, 46, 47, 48, 49, 50, 51, 52, 53, 54, 55, 56, 57, 58, 59, 60, 61, 62] (by decide +kernel) (by decide +kernel)) (goodIn_sub (fun _ h => List.mem_cons_of_mem _ (List.mem_append_left _ (List.mem_append_right _ h))) (by decide +kernel))) (goodIn_sub (fun _ h => List.mem_cons_of_mem _ (List.mem_append_right _ h)) (by decide +kernel))
set_option maxRecDepth 20000 in
theorem gL_ramp_X2_ramp : GoodIn wsL_ramp (wsV RL 17 RX2 yX2_ramp wsX2_ramp) := goodIn_app (goodIn_of _ (by decide +kernel)) ggL_ramp_X2_ramp
theorem dL_ramp_0 : decode cL_ramp 0 = .ok (.aload_n 0, 1) := by decide +kernel
theorem dL_ramp_1 : decode cL_ramp 1 = .ok (.iload_n 1, 1) := by decide +kernel
theorem dL_ramp_2 : decode cL_ramp 2 = .ok (.iload_n 2, 1) := by decide +kernel
theorem dL_ramp_3 : decode cL_ramp 3 = .ok (.invokevirtual 17, 3) := by decide +kernel
theorem dL_ramp_6 : decode cL_ramp 6 = .ok (.goto 9, 3) := by decide +kernel
theorem dL_ramp_9 : decode cL_ramp 9 = .ok (.astore_n 3, 1) := by decide +kernel
theorem dL_ramp_10 : decode cL_ramp 10 = .ok (.iconst 1, 1) := by decide +kernel
theorem dL_ramp_11 : decode cL_ramp 11 = .ok (.ireturn, 1) := by decide +kernel
theorem dL_ramp_12 : decode cL_ramp 12 = .ok (.astore_n 3, 1) := by decide +kernel
theorem dL_ramp_13 : decode cL_ramp 13 = .ok (.iconst 2, 1) := by decide +kernel
theorem dL_ramp_14 : decode cL_ramp 14 = .ok (.ireturn, 1) := by decide +kernel
theorem dL_ramp_15 : decode cL_ramp 15 = .ok (.iconst 0, 1) := by decide +kernel
theorem dL_ramp_16 : decode cL_ramp 16 = .ok (.ireturn, 1) := by decide +kernel
set_option maxRecDepth 20000 in
theorem ggL_drive_X2_drive : GoodIn wsL_drive wsX2_drive := goodIn_ca (goodIn_ca (goodIn_ca (goodIn_r _ [8, 9, 10, 11, 12, 13, 14, 15, 16, 17, 18, 19, 20, 21, 22, 23, 24, 25, 26, 27, 28, 7, 29, 30, 31, 32, 33, 34, 35, 36, 37, 38, 39, 40, 41, 42, 43, 44, 45, 46, 47, 48, 49, 50, 51, 52, 53, 54, 55, 56, 57, 58, 59, 60, 61, 62, 63, 64, 65, 66, 67, 68, 69, 70, 71, 72, 73, 74, 75, 76, 77, 78, 79, 80, 81] (by decide +kernel) (by decide +kernel)) (goodIn_sub (fun _ h => List.mem_cons_of_mem _ (List.mem_append_left _ (List.mem_append_left _ (List.mem_append_right _ h)))) (by decide +kernel))) (goodIn_sub (fun _ h => List.mem_cons_of_mem _ (List.mem_append_left _ (List.mem_append_right _ h))) (by decide +kernel))) (goodIn_sub (fun _ h => List.mem_cons_of_mem _ (List.mem_append_right _ h)) (by decide +kernel))
set_option maxRecDepth 20000 in
theorem gL_drive_X2_drive : GoodIn wsL_drive (wsV RL 21 RX2 yX2_drive wsX2_drive) := goodIn_app (goodIn_of _ (by decide +kernel)) ggL_drive_X2_drive
theorem dL_drive_0 : decode cL_drive 0 = .ok (.aload_n 0, 1) := by decide +kernel
theorem dL_drive_1 : decode cL_drive 1 = .ok (.iload_n 1, 1) := by decide +kernel
theorem dL_drive_2 : decode cL_drive 2 = .ok (.iload_n 2, 1) := by decide +kernel
theorem dL_drive_3 : decode cL_drive 3 = .ok (.invokevirtual 21, 3) := by decide +kernel
theorem dL_drive_6 : decode cL_drive 6 = .ok (.goto 12, 3) := by decide +kernel
theorem dL_drive_9 : decode cL_drive 9 = .ok (.astore_n 3, 1) := by decide +kernel
theorem dL_drive_10 : decode cL_drive 10 = .ok (.iconst 1, 1) := by decide +kernel
theorem dL_drive_11 : decode cL_drive 11 = .ok (.ireturn, 1) := by decide +kernel
theorem dL_drive_12 : decode cL_drive 12 = .ok (.astore_n 3, 1) := by decide +kernel
theorem dL_drive_13 : decode cL_drive 13 = .ok (.iconst 2, 1) := by decide +kernel
theorem dL_drive_14 : decode cL_drive 14 = .ok (.ireturn, 1) := by decide +kernel
theorem dL_drive_15 : decode cL_drive 15 = .ok (.astore_n 3, 1) := by decide +kernel
theorem dL_drive_16 : decode cL_drive 16 = .ok (.iconst 3, 1) := by decide +kernel
theorem dL_drive_17 : decode cL_drive 17 = .ok (.ireturn, 1) := by decide +kernel
theorem dL_drive_18 : decode cL_drive 18 = .ok (.iconst 0, 1) := by decide +kernel
theorem dL_drive_19 : decode cL_drive 19 = .ok (.ireturn, 1) := by decide +kernel
set_option maxRecDepth 20000 in
theorem ggL_driveOn_X2_driveOn : GoodIn wsL_driveOn wsX2_driveOn := goodIn_ca (goodIn_r _ [6, 7, 8, 9, 10, 11, 12, 13, 14, 15, 16, 17, 18, 5, 19, 20, 21, 22, 23, 24, 25, 26, 27, 28, 29, 30, 31, 32, 33, 34, 35, 36, 37, 38, 39, 40, 41, 42, 43, 44, 45, 46, 47, 48, 49, 50, 51, 52, 53, 54, 55, 56, 57, 58, 59, 60, 61, 62, 63, 64, 65, 66, 67, 68, 69, 70, 71, 72, 73, 74, 75] (by decide +kernel) (by decide +kernel)) (goodIn_sub (fun _ h => List.mem_cons_of_mem _ (List.mem_append_right _ h)) (by decide +kernel))
set_option maxRecDepth 20000 in
theorem gL_driveOn_X2_driveOn : GoodIn wsL_driveOn (wsV RL 26 RX2 yX2_driveOn wsX2_driveOn) := goodIn_app (goodIn_of _ (by decide +kernel)) ggL_driveOn_X2_driveOn
theorem dL_driveOn_0 : decode cL_driveOn 0 = .ok (.aload_n 3, 1) := by decide +kernel
theorem dL_driveOn_1 : decode cL_driveOn 1 = .ok (.iconst 0, 1) := by decide +kernel
theorem dL_driveOn_2 : decode cL_driveOn 2 = .ok (.aload_n 0, 1) := by decide +kernel
theorem dL_driveOn_3 : decode cL_driveOn 3 = .ok (.iload_n 1, 1) := by decide +kernel
theorem dL_driveOn_4 : decode cL_driveOn 4 = .ok (.iload_n 2, 1) := by decide +kernel
theorem dL_driveOn_5 : decode cL_driveOn 5 = .ok (.invokevirtual 26, 3) := by decide +kernel
theorem dL_driveOn_8 : decode cL_driveOn 8 = .ok (.i2l, 1) := by decide +kernel
theorem dL_driveOn_9 : decode cL_driveOn 9 = .ok (.lastore, 1) := by decide +kernel
theorem dL_driveOn_10 : decode cL_driveOn 10 = .ok (.goto 7, 3) := by decide +kernel
theorem dL_driveOn_13 : decode cL_driveOn 13 = .ok (.astore 4, 2) := by decide +kernel
theorem dL_driveOn_15 : decode cL_driveOn 15 = .ok (.iconst 1, 1) := by decide +kernel
theorem dL_driveOn_16 : decode cL_driveOn 16 = .ok (.ireturn, 1) := by decide +kernel
theorem dL_driveOn_17 : decode cL_driveOn 17 = .ok (.iconst 0, 1) := by decide +kernel
theorem dL_driveOn_18 : decode cL_driveOn 18 = .ok (.ireturn, 1) := by decide +kernel
set_option maxRecDepth 20000 in
theorem ggL_rowOf_X2_rowOf : GoodIn wsL_rowOf wsX2_rowOf := goodIn_ca (goodIn_r _ [6, 7, 8, 9, 10, 11, 12, 13, 14, 15, 16, 17, 18, 19, 20, 21, 22, 23, 24, 25, 26, 27, 28, 29, 5, 30, 31, 32, 33, 34, 35, 36, 37, 38, 39, 40, 41, 42, 43] (by decide +kernel) (by decide +kernel)) (goodIn_sub (fun _ h => List.mem_cons_of_mem _ (List.mem_append_right _ h)) (by decide +kernel))
set_option maxRecDepth 20000 in
theorem gL_rowOf_X2_rowOf : GoodIn wsL_rowOf (wsV RL 30 RX2 yX2_rowOf wsX2_rowOf) := goodIn_app (goodIn_of _ (by decide +kernel)) ggL_rowOf_X2_rowOf
theorem dL_rowOf_0 : decode cL_rowOf 0 = .ok (.aload_n 2, 1) := by decide +kernel
theorem dL_rowOf_1 : decode cL_rowOf 1 = .ok (.iconst 0, 1) := by decide +kernel
theorem dL_rowOf_2 : decode cL_rowOf 2 = .ok (.aload_n 0, 1) := by decide +kernel
theorem dL_rowOf_3 : decode cL_rowOf 3 = .ok (.iload_n 1, 1) := by decide +kernel
theorem dL_rowOf_4 : decode cL_rowOf 4 = .ok (.invokevirtual 30, 3) := by decide +kernel
theorem dL_rowOf_7 : decode cL_rowOf 7 = .ok (.i2l, 1) := by decide +kernel
theorem dL_rowOf_8 : decode cL_rowOf 8 = .ok (.lastore, 1) := by decide +kernel
theorem dL_rowOf_9 : decode cL_rowOf 9 = .ok (.goto 6, 3) := by decide +kernel
theorem dL_rowOf_12 : decode cL_rowOf 12 = .ok (.astore_n 3, 1) := by decide +kernel
theorem dL_rowOf_13 : decode cL_rowOf 13 = .ok (.iconst 1, 1) := by decide +kernel
theorem dL_rowOf_14 : decode cL_rowOf 14 = .ok (.ireturn, 1) := by decide +kernel
theorem dL_rowOf_15 : decode cL_rowOf 15 = .ok (.iconst 0, 1) := by decide +kernel
theorem dL_rowOf_16 : decode cL_rowOf 16 = .ok (.ireturn, 1) := by decide +kernel
set_option maxRecDepth 20000 in
theorem ggL_columnOf_X2_columnOf : GoodIn wsL_columnOf wsX2_columnOf := goodIn_ca (goodIn_r _ [6, 7, 8, 9, 10, 11, 12, 13, 14, 15, 16, 17, 18, 19, 20, 21, 22, 23, 24, 5, 25, 26, 27, 28, 29, 30, 31, 32, 33, 34, 35, 36, 37, 38, 39, 40, 41, 42, 43] (by decide +kernel) (by decide +kernel)) (goodIn_sub (fun _ h => List.mem_cons_of_mem _ (List.mem_append_right _ h)) (by decide +kernel))
set_option maxRecDepth 20000 in
theorem gL_columnOf_X2_columnOf : GoodIn wsL_columnOf (wsV RL 34 RX2 yX2_columnOf wsX2_columnOf) := goodIn_app (goodIn_of _ (by decide +kernel)) ggL_columnOf_X2_columnOf
theorem dL_columnOf_0 : decode cL_columnOf 0 = .ok (.aload_n 2, 1) := by decide +kernel
theorem dL_columnOf_1 : decode cL_columnOf 1 = .ok (.iconst 0, 1) := by decide +kernel
theorem dL_columnOf_2 : decode cL_columnOf 2 = .ok (.aload_n 0, 1) := by decide +kernel
theorem dL_columnOf_3 : decode cL_columnOf 3 = .ok (.iload_n 1, 1) := by decide +kernel
theorem dL_columnOf_4 : decode cL_columnOf 4 = .ok (.invokevirtual 34, 3) := by decide +kernel
theorem dL_columnOf_7 : decode cL_columnOf 7 = .ok (.i2l, 1) := by decide +kernel
theorem dL_columnOf_8 : decode cL_columnOf 8 = .ok (.lastore, 1) := by decide +kernel
theorem dL_columnOf_9 : decode cL_columnOf 9 = .ok (.goto 6, 3) := by decide +kernel
theorem dL_columnOf_12 : decode cL_columnOf 12 = .ok (.astore_n 3, 1) := by decide +kernel
theorem dL_columnOf_13 : decode cL_columnOf 13 = .ok (.iconst 1, 1) := by decide +kernel
theorem dL_columnOf_14 : decode cL_columnOf 14 = .ok (.ireturn, 1) := by decide +kernel
theorem dL_columnOf_15 : decode cL_columnOf 15 = .ok (.iconst 0, 1) := by decide +kernel
theorem dL_columnOf_16 : decode cL_columnOf 16 = .ok (.ireturn, 1) := by decide +kernel
set_option maxRecDepth 20000 in
theorem ggL_at_X2_at : GoodIn wsL_at wsX2_at := goodIn_ca (goodIn_r _ [6, 7, 8, 9, 10, 11, 12, 5, 13, 14, 15, 16, 17, 18, 19, 20, 21, 22, 23, 24, 25, 26, 27, 28, 29, 30, 31, 32, 33, 34, 35, 36, 37, 38, 39, 40, 41, 42, 43, 44, 45, 46, 47] (by decide +kernel) (by decide +kernel)) (goodIn_sub (fun _ h => List.mem_cons_of_mem _ (List.mem_append_right _ h)) (by decide +kernel))
set_option maxRecDepth 20000 in
theorem gL_at_X2_at : GoodIn wsL_at (wsV RL 37 RX2 yX2_at wsX2_at) := goodIn_app (goodIn_of _ (by decide +kernel)) ggL_at_X2_at
theorem dL_at_0 : decode cL_at 0 = .ok (.aload_n 3, 1) := by decide +kernel
theorem dL_at_1 : decode cL_at 1 = .ok (.iconst 0, 1) := by decide +kernel
theorem dL_at_2 : decode cL_at 2 = .ok (.aload_n 0, 1) := by decide +kernel
theorem dL_at_3 : decode cL_at 3 = .ok (.iload_n 1, 1) := by decide +kernel
theorem dL_at_4 : decode cL_at 4 = .ok (.iload_n 2, 1) := by decide +kernel
theorem dL_at_5 : decode cL_at 5 = .ok (.invokevirtual 37, 3) := by decide +kernel
theorem dL_at_8 : decode cL_at 8 = .ok (.i2l, 1) := by decide +kernel
theorem dL_at_9 : decode cL_at 9 = .ok (.lastore, 1) := by decide +kernel
theorem dL_at_10 : decode cL_at 10 = .ok (.goto 7, 3) := by decide +kernel
theorem dL_at_13 : decode cL_at 13 = .ok (.astore 4, 2) := by decide +kernel
theorem dL_at_15 : decode cL_at 15 = .ok (.iconst 1, 1) := by decide +kernel
theorem dL_at_16 : decode cL_at 16 = .ok (.ireturn, 1) := by decide +kernel
theorem dL_at_17 : decode cL_at 17 = .ok (.iconst 0, 1) := by decide +kernel
theorem dL_at_18 : decode cL_at 18 = .ok (.ireturn, 1) := by decide +kernel
set_option maxRecDepth 20000 in
theorem ggL_freeWay_X2_freeWay : GoodIn wsL_freeWay wsX2_freeWay := goodIn_ca (goodIn_r _ [6, 7, 8, 9, 10, 11, 12, 13, 14, 15, 16, 17, 18, 5, 19, 20, 21, 22, 23, 24, 25, 26, 27, 28, 29, 30, 31, 32, 33, 34, 35, 36, 37, 38, 39, 40, 41, 42, 43, 44, 45, 46, 47, 48, 49, 50, 51, 52, 53, 54, 55, 56, 57] (by decide +kernel) (by decide +kernel)) (goodIn_sub (fun _ h => List.mem_cons_of_mem _ (List.mem_append_right _ h)) (by decide +kernel))
set_option maxRecDepth 20000 in
theorem gL_freeWay_X2_freeWay : GoodIn wsL_freeWay (wsV RL 41 RX2 yX2_freeWay wsX2_freeWay) := goodIn_app (goodIn_of _ (by decide +kernel)) ggL_freeWay_X2_freeWay
theorem dL_freeWay_0 : decode cL_freeWay 0 = .ok (.aload_n 3, 1) := by decide +kernel
theorem dL_freeWay_1 : decode cL_freeWay 1 = .ok (.iconst 0, 1) := by decide +kernel
theorem dL_freeWay_2 : decode cL_freeWay 2 = .ok (.aload_n 0, 1) := by decide +kernel
theorem dL_freeWay_3 : decode cL_freeWay 3 = .ok (.iload_n 1, 1) := by decide +kernel
theorem dL_freeWay_4 : decode cL_freeWay 4 = .ok (.iload_n 2, 1) := by decide +kernel
theorem dL_freeWay_5 : decode cL_freeWay 5 = .ok (.invokevirtual 41, 3) := by decide +kernel
theorem dL_freeWay_8 : decode cL_freeWay 8 = .ok (.i2l, 1) := by decide +kernel
theorem dL_freeWay_9 : decode cL_freeWay 9 = .ok (.lastore, 1) := by decide +kernel
theorem dL_freeWay_10 : decode cL_freeWay 10 = .ok (.goto 7, 3) := by decide +kernel
theorem dL_freeWay_13 : decode cL_freeWay 13 = .ok (.astore 4, 2) := by decide +kernel
theorem dL_freeWay_15 : decode cL_freeWay 15 = .ok (.iconst 1, 1) := by decide +kernel
theorem dL_freeWay_16 : decode cL_freeWay 16 = .ok (.ireturn, 1) := by decide +kernel
theorem dL_freeWay_17 : decode cL_freeWay 17 = .ok (.iconst 0, 1) := by decide +kernel
theorem dL_freeWay_18 : decode cL_freeWay 18 = .ok (.ireturn, 1) := by decide +kernel
set_option maxRecDepth 20000 in
theorem ggL_canReach_X2_canReach : GoodIn wsL_canReach wsX2_canReach := goodIn_ca (goodIn_ca (goodIn_r _ [7, 8, 9, 10, 11, 12, 13, 14, 15, 16, 17, 18, 19, 20, 21, 22, 6, 23, 24, 25, 26, 27, 28, 29, 30, 31, 32, 33, 34, 35, 36, 37, 38, 39, 40, 41, 42, 43, 44, 45, 46, 47, 48, 49, 50, 51, 52, 53, 54, 55, 56, 57, 58, 59, 60, 61, 62, 63, 64, 65, 66, 67, 68, 69, 70, 71, 72, 73, 74, 75, 76, 77, 78, 79, 80, 81, 82, 83, 84, 85, 86, 87, 88, 89, 90, 91, 92, 93, 94, 95, 96, 97, 98, 99, 100, 101, 102, 103, 104, 105, 106, 107, 108, 109, 110, 111, 112, 113, 114, 115, 116, 117, 118, 119, 120, 121, 122, 123, 124, 125, 126, 127, 128, 129, 130, 131, 132, 133, 134, 135, 136] (by decide +kernel) (by decide +kernel)) (goodIn_sub (fun _ h => List.mem_cons_of_mem _ (List.mem_append_left _ (List.mem_append_right _ h))) (by decide +kernel))) (goodIn_sub (fun _ h => List.mem_cons_of_mem _ (List.mem_append_right _ h)) (by decide +kernel))
set_option maxRecDepth 20000 in
theorem gL_canReach_X2_canReach : GoodIn wsL_canReach (wsV RL 44 RX2 yX2_canReach wsX2_canReach) := goodIn_app (goodIn_of _ (by decide +kernel)) ggL_canReach_X2_canReach
theorem dL_canReach_0 : decode cL_canReach 0 = .ok (.aload_n 3, 1) := by decide +kernel
theorem dL_canReach_1 : decode cL_canReach 1 = .ok (.iconst 0, 1) := by decide +kernel
theorem dL_canReach_2 : decode cL_canReach 2 = .ok (.aload_n 0, 1) := by decide +kernel
theorem dL_canReach_3 : decode cL_canReach 3 = .ok (.iload_n 1, 1) := by decide +kernel
theorem dL_canReach_4 : decode cL_canReach 4 = .ok (.iload_n 2, 1) := by decide +kernel
theorem dL_canReach_5 : decode cL_canReach 5 = .ok (.invokevirtual 44, 3) := by decide +kernel
theorem dL_canReach_8 : decode cL_canReach 8 = .ok (.ifCond .eq 7, 3) := by decide +kernel
theorem dL_canReach_11 : decode cL_canReach 11 = .ok (.lconst 1, 1) := by decide +kernel
theorem dL_canReach_12 : decode cL_canReach 12 = .ok (.goto 4, 3) := by decide +kernel
theorem dL_canReach_15 : decode cL_canReach 15 = .ok (.lconst 0, 1) := by decide +kernel
theorem dL_canReach_16 : decode cL_canReach 16 = .ok (.lastore, 1) := by decide +kernel
theorem dL_canReach_17 : decode cL_canReach 17 = .ok (.goto 11, 3) := by decide +kernel
theorem dL_canReach_20 : decode cL_canReach 20 = .ok (.astore 4, 2) := by decide +kernel
theorem dL_canReach_22 : decode cL_canReach 22 = .ok (.iconst 1, 1) := by decide +kernel
theorem dL_canReach_23 : decode cL_canReach 23 = .ok (.ireturn, 1) := by decide +kernel
theorem dL_canReach_24 : decode cL_canReach 24 = .ok (.astore 4, 2) := by decide +kernel
theorem dL_canReach_26 : decode cL_canReach 26 = .ok (.iconst 2, 1) := by decide +kernel
theorem dL_canReach_27 : decode cL_canReach 27 = .ok (.ireturn, 1) := by decide +kernel
theorem dL_canReach_28 : decode cL_canReach 28 = .ok (.iconst 0, 1) := by decide +kernel
theorem dL_canReach_29 : decode cL_canReach 29 = .ok (.ireturn, 1) := by decide +kernel
set_option maxRecDepth 20000 in
theorem ggL_law_X2_init : GoodIn wsL_law wsX2_init := goodIn_r _ [9, 10, 11, 12, 13, 14, 15, 16, 17, 18, 19, 20, 21, 22, 23, 24, 25, 26, 27, 28, 6, 29, 30, 31, 32, 33, 34, 35, 36, 37, 38, 500, 501, 502, 503, 504, 505, 474, 475, 476, 477, 478, 479, 480, 506, 507, 508, 509, 510, 511, 512, 513, 514, 515] (by decide +kernel) (by decide +kernel)
set_option maxRecDepth 20000 in
theorem gL_law_X2_init : GoodIn wsL_law (wsX2_init) := ggL_law_X2_init
set_option maxRecDepth 20000 in
theorem ggL_law_X3_init : GoodIn wsL_law wsX3_init := goodIn_r _ [41, 42, 11, 12, 24, 43, 44, 45, 46, 47, 48, 49, 50, 51, 52, 53, 54, 55, 481, 482, 483, 484, 485, 486, 487, 488, 489, 490, 491, 492, 493, 494, 495, 496, 497, 498, 499] (by decide +kernel) (by decide +kernel)
set_option maxRecDepth 20000 in
theorem gL_law_X3_init : GoodIn wsL_law (wsX3_init) := ggL_law_X3_init
set_option maxRecDepth 20000 in
theorem ggL_law_L_park : GoodIn wsL_law wsL_park := goodIn_ca (goodIn_ca (goodIn_r _ [59, 60, 61, 62, 63, 64, 2, 65, 66, 67, 68, 69, 16, 70, 71, 72, 73, 74, 75, 76, 77, 78, 15, 79, 80, 81, 82, 83, 84, 85, 86, 87, 88, 89, 90, 91, 92, 93, 94, 27, 29, 95, 96, 97, 98, 99, 100, 101, 102, 103, 104, 105, 106, 107, 108, 109, 25, 28, 110, 111, 112, 113, 114, 115, 116, 117, 474, 475, 476, 477, 478, 479, 480, 500, 501, 502, 503, 504, 505] (by decide +kernel) (by decide +kernel)) (goodIn_sub (fun _ h => List.mem_append_left _ (List.mem_append_left _ (List.mem_append_right _ h))) (by decide +kernel))) (goodIn_sub (fun _ h => List.mem_append_left _ (List.mem_append_right _ h)) (by decide +kernel))
set_option maxRecDepth 20000 in
theorem gL_law_L_park : GoodIn wsL_law (va_wsS RL 52 yL_park wsL_park) := goodIn_app (goodIn_of _ (by decide +kernel)) ggL_law_L_park
set_option maxRecDepth 20000 in
theorem ggL_law_X3_park : GoodIn wsL_law wsX3_park := goodIn_r _ [121, 122, 123, 124, 49, 48, 43, 44, 45, 46, 47, 125, 126, 5, 127, 128, 129, 130, 131, 132, 133, 134, 481, 482, 483, 484, 485, 486, 487, 488, 489, 490, 491, 492, 493, 494, 495, 496, 497, 498, 499] (by decide +kernel) (by decide +kernel)
set_option maxRecDepth 20000 in
theorem gL_law_X3_park : GoodIn wsL_law (wsV RL 57 RX3 yX3_park wsX3_park) := goodIn_app (goodIn_of _ (by decide +kernel)) ggL_law_X3_park
set_option maxRecDepth 20000 in
theorem ggL_law_X3_thrown : GoodIn wsL_law wsX3_thrown := goodIn_r _ [138, 123, 481, 482, 483, 484, 485, 486, 487, 488, 489, 490, 491, 492, 493, 494, 495, 496, 497, 498, 499] (by decide +kernel) (by decide +kernel)
set_option maxRecDepth 20000 in
theorem gL_law_X3_thrown : GoodIn wsL_law (wsV RL 58 RX3 yX3_thrown wsX3_thrown) := goodIn_app (goodIn_of _ (by decide +kernel)) ggL_law_X3_thrown
set_option maxRecDepth 20000 in
theorem ggL_law_L_ramp : GoodIn wsL_law wsL_ramp := goodIn_ca (goodIn_ca (goodIn_r _ [141, 60, 61, 142, 143, 144, 2, 145, 66, 67, 68, 69, 70, 16, 71, 117, 73, 74, 75, 84, 85, 86, 146, 147, 148, 15, 149, 80, 91, 92, 93, 94, 27, 29, 95, 96, 97, 98, 99, 100, 150, 151, 152, 153, 25, 154, 155, 156, 157, 105, 474, 475, 476, 477, 478, 479, 480, 500, 501, 502, 503, 504, 505] (by decide +kernel) (by decide +kernel)) (goodIn_sub (fun _ h => List.mem_append_left _ (List.mem_append_left _ (List.mem_append_right _ h))) (by decide +kernel))) (goodIn_sub (fun _ h => List.mem_append_left _ (List.mem_append_right _ h)) (by decide +kernel))
set_option maxRecDepth 20000 in
theorem gL_law_L_ramp : GoodIn wsL_law (va_wsS RL 62 yL_ramp wsL_ramp) := goodIn_app (goodIn_of _ (by decide +kernel)) ggL_law_L_ramp
set_option maxRecDepth 20000 in
theorem ggL_law_X3_ramp : GoodIn wsL_law wsX3_ramp := goodIn_r _ [161, 49, 124, 43, 123, 48, 125, 126, 5, 127, 128, 129, 130, 131, 122, 44, 45, 46, 132, 133, 134, 481, 482, 483, 484, 485, 486, 487, 488, 489, 490, 491, 492, 493, 494, 495, 496, 497, 498, 499] (by decide +kernel) (by decide +kernel)
set_option maxRecDepth 20000 in
theorem gL_law_X3_ramp : GoodIn wsL_law (wsV RL 65 RX3 yX3_ramp wsX3_ramp) := goodIn_app (goodIn_of _ (by decide +kernel)) ggL_law_X3_ramp
set_option maxRecDepth 20000 in
theorem ggL_law_L_drive : GoodIn wsL_law wsL_drive := goodIn_ca (goodIn_ca (goodIn_ca (goodIn_r _ [164, 165, 60, 61, 166, 167, 168, 2, 169, 170, 171, 66, 67, 68, 69, 16, 172, 173, 174, 175, 176, 96, 97, 15, 98, 80, 177, 178, 179, 180, 71, 87, 88, 89, 90, 91, 92, 93, 94, 27, 29, 95, 99, 100, 181, 182, 183, 184, 25, 185, 186, 102, 103, 104, 105, 187, 188, 189, 190, 70, 191, 110, 111, 112, 113, 114, 115, 116, 117, 474, 475, 476, 477, 478, 479, 480, 500, 501, 502, 503, 504, 505] (by decide +kernel) (by decide +kernel)) (goodIn_sub (fun _ h => List.mem_append_right _ h) (by decide +kernel))) (goodIn_sub (fun _ h => List.mem_append_left _ (List.mem_append_left _ (List.mem_append_right _ h))) (by decide +kernel))) (goodIn_sub (fun _ h => List.mem_append_left _ (List.mem_append_right _ h)) (by decide +kernel))
set_option maxRecDepth 20000 in
theorem gL_law_L_drive : GoodIn wsL_law (va_wsS RL 66 yL_drive wsL_drive) := goodIn_app (goodIn_of _ (by decide +kernel)) ggL_law_L_drive
set_option maxRecDepth 20000 in
theorem ggL_law_X3_drive : GoodIn wsL_law wsX3_drive := goodIn_r _ [195, 123, 196, 197, 198, 5, 199, 122, 128, 129, 130, 131, 49, 43, 44, 45, 46, 132, 133, 134, 200, 201, 202, 203, 204, 205, 206, 207, 48, 125, 126, 127, 208, 209, 210, 211, 124, 212, 481, 482, 483, 484, 485, 486, 487, 488, 489, 490, 491, 492, 493, 494, 495, 496, 497, 498, 499] (by decide +kernel) (by decide +kernel)
set_option maxRecDepth 20000 in
theorem gL_law_X3_drive : GoodIn wsL_law (wsV RL 68 RX3 yX3_drive wsX3_drive) := goodIn_app (goodIn_of _ (by decide +kernel)) ggL_law_X3_drive
set_option maxRecDepth 20000 in
theorem ggL_law_L_driveOn : GoodIn wsL_law wsL_driveOn := goodIn_ca (goodIn_r _ [215, 165, 216, 217, 218, 2, 219, 170, 171, 16, 176, 96, 97, 15, 98, 80, 177, 178, 179, 180, 71, 87, 88, 89, 90, 91, 92, 93, 94, 27, 29, 95, 99, 100, 181, 182, 183, 184, 25, 185, 186, 102, 103, 104, 105, 187, 188, 189, 190, 70, 191, 172, 173, 174, 175, 110, 111, 112, 113, 114, 115, 116, 117, 474, 475, 476, 477, 478, 479, 480, 500, 501, 502, 503, 504, 505] (by decide +kernel) (by decide +kernel)) (goodIn_sub (fun _ h => List.mem_append_right _ h) (by decide +kernel))
set_option maxRecDepth 20000 in
theorem gL_law_L_driveOn : GoodIn wsL_law (va_wsS RL 69 yL_driveOn wsL_driveOn) := goodIn_app (goodIn_of _ (by decide +kernel)) ggL_law_L_driveOn
set_option maxRecDepth 20000 in
theorem ggL_law_X3_driveOn : GoodIn wsL_law wsX3_driveOn := goodIn_r _ [223, 196, 197, 198, 5, 199, 122, 123, 128, 129, 130, 131, 49, 43, 44, 45, 46, 132, 133, 134, 200, 201, 202, 203, 204, 205, 206, 207, 48, 125, 126, 127, 208, 209, 210, 211, 124, 212, 481, 482, 483, 484, 485, 486, 487, 488, 489, 490, 491, 492, 493, 494, 495, 496, 497, 498, 499] (by decide +kernel) (by decide +kernel)
set_option maxRecDepth 20000 in
theorem gL_law_X3_driveOn : GoodIn wsL_law (wsV RL 72 RX3 yX3_driveOn wsX3_driveOn) := goodIn_app (goodIn_of _ (by decide +kernel)) ggL_law_X3_driveOn
set_option maxRecDepth 20000 in
theorem ggL_law_X2_restart : GoodIn wsL_law wsX2_restart := goodIn_r _ [227, 72, 70, 191, 113, 114, 115, 2, 116, 71, 117, 474, 475, 476, 477, 478, 479, 480] (by decide +kernel) (by decide +kernel)
set_option maxRecDepth 20000 in
theorem gL_law_X2_restart : GoodIn wsL_law (wsV RL 73 RX2 yX2_restart wsX2_restart) := goodIn_app (goodIn_of _ (by decide +kernel)) ggL_law_X2_restart
set_option maxRecDepth 20000 in
theorem ggL_law_X3_restart : GoodIn wsL_law wsX3_restart := goodIn_r _ [231, 123, 122, 46, 47, 124, 212, 481, 482, 483, 484, 485, 486, 487, 488, 489, 490, 491, 492, 493, 494, 495, 496, 497, 498, 499] (by decide +kernel) (by decide +kernel)
set_option maxRecDepth 20000 in
theorem gL_law_X3_restart : GoodIn wsL_law (wsV RL 76 RX3 yX3_restart wsX3_restart) := goodIn_app (goodIn_of _ (by decide +kernel)) ggL_law_X3_restart
set_option maxRecDepth 20000 in
theorem ggL_law_X2_vehicles : GoodIn wsL_law wsX2_vehicles := goodIn_r _ [235, 16, 76, 77, 78, 15, 79, 80, 474, 475, 476, 477, 478, 479, 480, 500, 501, 502, 503, 504, 505] (by decide +kernel) (by decide +kernel)
set_option maxRecDepth 20000 in
theorem gL_law_X2_vehicles : GoodIn wsL_law (wsV RL 77 RX2 yX2_vehicles wsX2_vehicles) := goodIn_app (goodIn_of _ (by decide +kernel)) ggL_law_X2_vehicles
set_option maxRecDepth 20000 in
theorem ggL_law_X3_vehicles : GoodIn wsL_law wsX3_vehicles := goodIn_r _ [239, 123, 122, 481, 482, 483, 484, 485, 486, 487, 488, 489, 490, 491, 492, 493, 494, 495, 496, 497, 498, 499] (by decide +kernel) (by decide +kernel)
set_option maxRecDepth 20000 in
theorem gL_law_X3_vehicles : GoodIn wsL_law (wsV RL 80 RX3 yX3_vehicles wsX3_vehicles) := goodIn_app (goodIn_of _ (by decide +kernel)) ggL_law_X3_vehicles
set_option maxRecDepth 20000 in
theorem ggL_law_L_rowOf : GoodIn wsL_law wsL_rowOf := goodIn_ca (goodIn_r _ [242, 165, 243, 244, 245, 2, 246, 170, 171, 16, 71, 176, 96, 97, 15, 98, 80, 247, 248, 249, 250, 27, 95, 251, 252, 253, 254, 28, 255, 99, 100, 474, 475, 476, 477, 478, 479, 480, 500, 501, 502, 503, 504, 505] (by decide +kernel) (by decide +kernel)) (goodIn_sub (fun _ h => List.mem_append_right _ h) (by decide +kernel))
set_option maxRecDepth 20000 in
theorem gL_law_L_rowOf : GoodIn wsL_law (va_wsS RL 81 yL_rowOf wsL_rowOf) := goodIn_app (goodIn_of _ (by decide +kernel)) ggL_law_L_rowOf
set_option maxRecDepth 20000 in
theorem ggL_law_X3_rowOf : GoodIn wsL_law wsX3_rowOf := goodIn_r _ [259, 44, 45, 46, 196, 197, 198, 5, 199, 122, 123, 481, 482, 483, 484, 485, 486, 487, 488, 489, 490, 491, 492, 493, 494, 495, 496, 497, 498, 499] (by decide +kernel) (by decide +kernel)
set_option maxRecDepth 20000 in
theorem gL_law_X3_rowOf : GoodIn wsL_law (wsV RL 84 RX3 yX3_rowOf wsX3_rowOf) := goodIn_app (goodIn_of _ (by decide +kernel)) ggL_law_X3_rowOf
set_option maxRecDepth 20000 in
theorem ggL_law_L_columnOf : GoodIn wsL_law wsL_columnOf := goodIn_ca (goodIn_r _ [262, 165, 263, 264, 265, 2, 266, 170, 171, 16, 71, 176, 96, 97, 15, 98, 80, 247, 248, 249, 250, 27, 95, 255, 99, 100, 251, 252, 253, 254, 28, 474, 475, 476, 477, 478, 479, 480, 500, 501, 502, 503, 504, 505] (by decide +kernel) (by decide +kernel)) (goodIn_sub (fun _ h => List.mem_append_right _ h) (by decide +kernel))
set_option maxRecDepth 20000 in
theorem gL_law_L_columnOf : GoodIn wsL_law (va_wsS RL 85 yL_columnOf wsL_columnOf) := goodIn_app (goodIn_of _ (by decide +kernel)) ggL_law_L_columnOf
set_option maxRecDepth 20000 in
theorem ggL_law_X3_columnOf : GoodIn wsL_law wsX3_columnOf := goodIn_r _ [270, 44, 46, 45, 196, 197, 198, 5, 199, 122, 123, 481, 482, 483, 484, 485, 486, 487, 488, 489, 490, 491, 492, 493, 494, 495, 496, 497, 498, 499] (by decide +kernel) (by decide +kernel)
set_option maxRecDepth 20000 in
theorem gL_law_X3_columnOf : GoodIn wsL_law (wsV RL 87 RX3 yX3_columnOf wsX3_columnOf) := goodIn_app (goodIn_of _ (by decide +kernel)) ggL_law_X3_columnOf
set_option maxRecDepth 20000 in
theorem ggL_law_L_at : GoodIn wsL_law wsL_at := goodIn_ca (goodIn_r _ [273, 60, 274, 275, 276, 2, 277, 66, 67, 16, 71, 73, 74, 75, 84, 85, 86, 146, 147, 148, 15, 149, 80, 91, 92, 93, 94, 27, 29, 95, 96, 97, 98, 99, 100, 474, 475, 476, 477, 478, 479, 480, 500, 501, 502, 503, 504, 505] (by decide +kernel) (by decide +kernel)) (goodIn_sub (fun _ h => List.mem_append_left _ (List.mem_append_left _ (List.mem_append_right _ h))) (by decide +kernel))
set_option maxRecDepth 20000 in
theorem gL_law_L_at : GoodIn wsL_law (va_wsS RL 88 yL_at wsL_at) := goodIn_app (goodIn_of _ (by decide +kernel)) ggL_law_L_at
set_option maxRecDepth 20000 in
theorem ggL_law_X3_at : GoodIn wsL_law wsX3_at := goodIn_r _ [281, 123, 49, 125, 126, 5, 127, 128, 129, 130, 131, 122, 43, 44, 45, 46, 132, 133, 134, 481, 482, 483, 484, 485, 486, 487, 488, 489, 490, 491, 492, 493, 494, 495, 496, 497, 498, 499] (by decide +kernel) (by decide +kernel)
set_option maxRecDepth 20000 in
theorem gL_law_X3_at : GoodIn wsL_law (wsV RL 91 RX3 yX3_at wsX3_at) := goodIn_app (goodIn_of _ (by decide +kernel)) ggL_law_X3_at
set_option maxRecDepth 20000 in
theorem ggL_law_L_freeWay : GoodIn wsL_law wsL_freeWay := goodIn_ca (goodIn_r _ [284, 165, 285, 286, 287, 2, 288, 170, 171, 16, 176, 96, 97, 15, 98, 80, 177, 178, 179, 180, 71, 87, 88, 89, 90, 91, 92, 93, 94, 27, 29, 95, 99, 100, 181, 182, 183, 184, 25, 185, 186, 102, 103, 104, 105, 474, 475, 476, 477, 478, 479, 480, 500, 501, 502, 503, 504, 505] (by decide +kernel) (by decide +kernel)) (goodIn_sub (fun _ h => List.mem_append_right _ h) (by decide +kernel))
set_option maxRecDepth 20000 in
theorem gL_law_L_freeWay : GoodIn wsL_law (va_wsS RL 92 yL_freeWay wsL_freeWay) := goodIn_app (goodIn_of _ (by decide +kernel)) ggL_law_L_freeWay
set_option maxRecDepth 20000 in
theorem ggL_law_X3_freeWay : GoodIn wsL_law wsX3_freeWay := goodIn_r _ [292, 128, 129, 130, 5, 131, 49, 122, 43, 44, 45, 46, 132, 133, 134, 196, 197, 198, 199, 123, 200, 201, 202, 203, 204, 205, 206, 207, 48, 125, 126, 127, 481, 482, 483, 484, 485, 486, 487, 488, 489, 490, 491, 492, 493, 494, 495, 496, 497, 498, 499] (by decide +kernel) (by decide +kernel)
set_option maxRecDepth 20000 in
theorem gL_law_X3_freeWay : GoodIn wsL_law (wsV RL 94 RX3 yX3_freeWay wsX3_freeWay) := goodIn_app (goodIn_of _ (by decide +kernel)) ggL_law_X3_freeWay
set_option maxRecDepth 20000 in
theorem ggL_law_X2_inTheWay : GoodIn wsL_law wsX2_inTheWay := goodIn_r _ [296, 71, 16, 255, 99, 2, 100, 84, 85, 86, 76, 77, 78, 15, 79, 80, 297, 92, 93, 94, 27, 29, 95, 96, 97, 98, 474, 475, 476, 477, 478, 479, 480, 500, 501, 502, 503, 504, 505] (by decide +kernel) (by decide +kernel)
set_option maxRecDepth 20000 in
theorem gL_law_X2_inTheWay : GoodIn wsL_law (wsV RL 95 RX2 yX2_inTheWay wsX2_inTheWay) := goodIn_app (goodIn_of _ (by decide +kernel)) ggL_law_X2_inTheWay
set_option maxRecDepth 20000 in
theorem ggL_law_X3_inTheWay : GoodIn wsL_law wsX3_inTheWay := goodIn_r _ [301, 123, 122, 46, 49, 128, 129, 130, 5, 131, 43, 44, 45, 132, 133, 134, 481, 482, 483, 484, 485, 486, 487, 488, 489, 490, 491, 492, 493, 494, 495, 496, 497, 498, 499] (by decide +kernel) (by decide +kernel)
set_option maxRecDepth 20000 in
theorem gL_law_X3_inTheWay : GoodIn wsL_law (wsV RL 98 RX3 yX3_inTheWay wsX3_inTheWay) := goodIn_app (goodIn_of _ (by decide +kernel)) ggL_law_X3_inTheWay
set_option maxRecDepth 20000 in
theorem ggL_law_X2_isSolved : GoodIn wsL_law wsX2_isSolved := goodIn_r _ [305, 71, 255, 99, 2, 100, 474, 475, 476, 477, 478, 479, 480] (by decide +kernel) (by decide +kernel)
set_option maxRecDepth 20000 in
theorem gL_law_X2_isSolved : GoodIn wsL_law (wsV RL 99 RX2 yX2_isSolved wsX2_isSolved) := goodIn_app (goodIn_of _ (by decide +kernel)) ggL_law_X2_isSolved
set_option maxRecDepth 20000 in
theorem ggL_law_X3_isSolved : GoodIn wsL_law wsX3_isSolved := goodIn_r _ [309, 123, 310, 311, 312, 5, 313, 122, 46, 481, 482, 483, 484, 485, 486, 487, 488, 489, 490, 491, 492, 493, 494, 495, 496, 497, 498, 499] (by decide +kernel) (by decide +kernel)
set_option maxRecDepth 20000 in
theorem gL_law_X3_isSolved : GoodIn wsL_law (wsV RL 103 RX3 yX3_isSolved wsX3_isSolved) := goodIn_app (goodIn_of _ (by decide +kernel)) ggL_law_X3_isSolved
set_option maxRecDepth 20000 in
theorem ggL_law_X2_moves : GoodIn wsL_law wsX2_moves := goodIn_r _ [317, 70, 474, 475, 476, 477, 478, 479, 480] (by decide +kernel) (by decide +kernel)
set_option maxRecDepth 20000 in
theorem gL_law_X2_moves : GoodIn wsL_law (wsV RL 104 RX2 yX2_moves wsX2_moves) := goodIn_app (goodIn_of _ (by decide +kernel)) ggL_law_X2_moves
set_option maxRecDepth 20000 in
theorem ggL_law_X3_moves : GoodIn wsL_law wsX3_moves := goodIn_r _ [321, 123, 124, 481, 482, 483, 484, 485, 486, 487, 488, 489, 490, 491, 492, 493, 494, 495, 496, 497, 498, 499] (by decide +kernel) (by decide +kernel)
set_option maxRecDepth 20000 in
theorem gL_law_X3_moves : GoodIn wsL_law (wsV RL 107 RX3 yX3_moves wsX3_moves) := goodIn_app (goodIn_of _ (by decide +kernel)) ggL_law_X3_moves
set_option maxRecDepth 20000 in
theorem ggL_law_X2_driven : GoodIn wsL_law wsX2_driven := goodIn_r _ [325, 191, 474, 475, 476, 477, 478, 479, 480] (by decide +kernel) (by decide +kernel)
set_option maxRecDepth 20000 in
theorem gL_law_X2_driven : GoodIn wsL_law (wsV RL 108 RX2 yX2_driven wsX2_driven) := goodIn_app (goodIn_of _ (by decide +kernel)) ggL_law_X2_driven
set_option maxRecDepth 20000 in
theorem ggL_law_X3_driven : GoodIn wsL_law wsX3_driven := goodIn_r _ [329, 123, 212, 481, 482, 483, 484, 485, 486, 487, 488, 489, 490, 491, 492, 493, 494, 495, 496, 497, 498, 499] (by decide +kernel) (by decide +kernel)
set_option maxRecDepth 20000 in
theorem gL_law_X3_driven : GoodIn wsL_law (wsV RL 111 RX3 yX3_driven wsX3_driven) := goodIn_app (goodIn_of _ (by decide +kernel)) ggL_law_X3_driven
set_option maxRecDepth 20000 in
theorem ggL_law_X2_positions : GoodIn wsL_law wsX2_positions := goodIn_r _ [333, 20, 334, 335, 336, 2, 337, 117, 71, 338, 339, 340, 19, 341, 37, 342, 343, 344, 345, 346, 347, 348, 349, 350, 351, 34, 35, 36, 352, 353, 354, 355, 356, 99, 100, 357, 358, 359, 360, 38, 361, 362, 363, 364, 365, 88, 89, 15, 90, 80, 91, 92, 93, 94, 27, 29, 95, 96, 97, 98, 366, 77, 78, 79, 367, 182, 183, 184, 25, 185, 186, 102, 103, 104, 105, 368, 369, 370, 371, 111, 112, 372, 373, 374, 375, 376, 377, 378, 379, 380, 381, 382, 173, 174, 175, 383, 384, 385, 386, 387, 388, 389, 474, 475, 476, 477, 478, 479, 480, 506, 507, 508, 509, 510, 511, 512, 513, 514, 515, 500, 501, 502, 503, 504, 505] (by decide +kernel) (by decide +kernel)
set_option maxRecDepth 20000 in
theorem gL_law_X2_positions : GoodIn wsL_law (wsV RL 112 RX2 yX2_positions wsX2_positions) := goodIn_app (goodIn_of _ (by decide +kernel)) ggL_law_X2_positions
set_option maxRecDepth 20000 in
theorem ggL_law_X3_positions : GoodIn wsL_law wsX3_positions := goodIn_r _ [393, 123, 394, 395, 396, 397, 5, 398, 54, 122, 55, 46, 399, 50, 400, 401, 402, 403, 51, 52, 53, 404, 405, 406, 407, 310, 311, 312, 313, 408, 409, 410, 128, 129, 130, 131, 49, 43, 44, 45, 132, 133, 134, 411, 412, 413, 414, 200, 201, 202, 203, 204, 205, 206, 207, 48, 125, 126, 127, 481, 482, 483, 484, 485, 486, 487, 488, 489, 490, 491, 492, 493, 494, 495, 496, 497, 498, 499] (by decide +kernel) (by decide +kernel)
set_option maxRecDepth 20000 in
theorem gL_law_X3_positions : GoodIn wsL_law (wsV RL 115 RX3 yX3_positions wsX3_positions) := goodIn_app (goodIn_of _ (by decide +kernel)) ggL_law_X3_positions
set_option maxRecDepth 20000 in
theorem ggL_law_X2_fewestMoves : GoodIn wsL_law wsX2_fewestMoves := goodIn_r _ [418, 20, 334, 335, 336, 2, 337, 117, 71, 338, 339, 340, 19, 341, 37, 342, 343, 344, 345, 346, 347, 348, 349, 350, 351, 34, 35, 36, 352, 353, 354, 355, 356, 99, 100, 357, 358, 359, 360, 38, 361, 362, 363, 364, 365, 88, 89, 15, 90, 80, 91, 92, 93, 94, 27, 29, 95, 96, 97, 98, 366, 77, 78, 79, 367, 182, 183, 184, 25, 185, 186, 102, 103, 104, 105, 368, 369, 370, 371, 111, 112, 372, 373, 374, 375, 376, 377, 378, 379, 380, 381, 382, 173, 174, 175, 383, 384, 385, 419, 420, 421, 422, 474, 475, 476, 477, 478, 479, 480, 506, 507, 508, 509, 510, 511, 512, 513, 514, 515, 500, 501, 502, 503, 504, 505] (by decide +kernel) (by decide +kernel)
set_option maxRecDepth 20000 in
theorem gL_law_X2_fewestMoves : GoodIn wsL_law (wsV RL 116 RX2 yX2_fewestMoves wsX2_fewestMoves) := goodIn_app (goodIn_of _ (by decide +kernel)) ggL_law_X2_fewestMoves
set_option maxRecDepth 20000 in
theorem ggL_law_X3_fewestMoves : GoodIn wsL_law wsX3_fewestMoves := goodIn_r _ [426, 123, 399, 53, 395, 396, 397, 5, 398, 54, 122, 55, 46, 394, 50, 400, 401, 402, 403, 51, 52, 404, 405, 406, 407, 310, 311, 312, 313, 408, 409, 410, 128, 129, 130, 131, 49, 43, 44, 45, 132, 133, 134, 411, 412, 413, 414, 200, 201, 202, 203, 204, 205, 206, 207, 48, 125, 126, 127, 481, 482, 483, 484, 485, 486, 487, 488, 489, 490, 491, 492, 493, 494, 495, 496, 497, 498, 499] (by decide +kernel) (by decide +kernel)
set_option maxRecDepth 20000 in
theorem gL_law_X3_fewestMoves : GoodIn wsL_law (wsV RL 119 RX3 yX3_fewestMoves wsX3_fewestMoves) := goodIn_app (goodIn_of _ (by decide +kernel)) ggL_law_X3_fewestMoves
set_option maxRecDepth 20000 in
theorem ggL_law_X2_hint : GoodIn wsL_law wsX2_hint := goodIn_r _ [430, 20, 334, 335, 336, 2, 337, 117, 71, 338, 339, 340, 19, 341, 37, 342, 343, 344, 345, 346, 347, 348, 349, 350, 351, 34, 35, 36, 352, 353, 354, 355, 356, 99, 100, 357, 358, 359, 360, 38, 361, 362, 363, 364, 365, 88, 89, 15, 90, 80, 91, 92, 93, 94, 27, 29, 95, 96, 97, 98, 366, 77, 78, 79, 367, 182, 183, 184, 25, 185, 186, 102, 103, 104, 105, 368, 369, 370, 371, 111, 112, 372, 373, 374, 375, 376, 377, 378, 379, 380, 381, 382, 173, 174, 175, 383, 384, 385, 431, 432, 433, 434, 474, 475, 476, 477, 478, 479, 480, 506, 507, 508, 509, 510, 511, 512, 513, 514, 515, 500, 501, 502, 503, 504, 505] (by decide +kernel) (by decide +kernel)
set_option maxRecDepth 20000 in
theorem gL_law_X2_hint : GoodIn wsL_law (wsV RL 120 RX2 yX2_hint wsX2_hint) := goodIn_app (goodIn_of _ (by decide +kernel)) ggL_law_X2_hint
set_option maxRecDepth 20000 in
theorem ggL_law_X3_hint : GoodIn wsL_law wsX3_hint := goodIn_r _ [438, 123, 399, 395, 396, 397, 5, 398, 54, 122, 55, 46, 394, 50, 400, 401, 402, 403, 51, 52, 53, 404, 405, 406, 407, 310, 311, 312, 313, 408, 409, 410, 128, 129, 130, 131, 49, 43, 44, 45, 132, 133, 134, 411, 412, 413, 414, 200, 201, 202, 203, 204, 205, 206, 207, 48, 125, 126, 127, 439, 440, 441, 442, 481, 482, 483, 484, 485, 486, 487, 488, 489, 490, 491, 492, 493, 494, 495, 496, 497, 498, 499] (by decide +kernel) (by decide +kernel)
set_option maxRecDepth 20000 in
theorem gL_law_X3_hint : GoodIn wsL_law (wsV RL 123 RX3 yX3_hint wsX3_hint) := goodIn_app (goodIn_of _ (by decide +kernel)) ggL_law_X3_hint
set_option maxRecDepth 20000 in
theorem ggL_law_X2_solve : GoodIn wsL_law wsX2_solve := goodIn_r _ [446, 20, 70, 191, 334, 335, 336, 2, 337, 117, 71, 338, 339, 340, 19, 341, 37, 342, 343, 344, 345, 346, 347, 348, 349, 350, 351, 34, 35, 36, 352, 353, 354, 355, 356, 99, 100, 357, 358, 359, 360, 38, 361, 362, 363, 364, 365, 88, 89, 15, 90, 80, 91, 92, 93, 94, 27, 29, 95, 96, 97, 98, 366, 77, 78, 79, 367, 182, 183, 184, 25, 185, 186, 102, 103, 104, 105, 368, 369, 370, 371, 111, 112, 372, 373, 374, 375, 376, 377, 378, 379, 380, 381, 382, 173, 174, 175, 383, 384, 385, 419, 420, 421, 422, 447, 448, 449, 450, 451, 452, 453, 454, 113, 114, 115, 116, 474, 475, 476, 477, 478, 479, 480, 506, 507, 508, 509, 510, 511, 512, 513, 514, 515, 500, 501, 502, 503, 504, 505] (by decide +kernel) (by decide +kernel)
set_option maxRecDepth 20000 in
theorem gL_law_X2_solve : GoodIn wsL_law (wsV RL 124 RX2 yX2_solve wsX2_solve) := goodIn_app (goodIn_of _ (by decide +kernel)) ggL_law_X2_solve
set_option maxRecDepth 20000 in
theorem ggL_law_X3_solve : GoodIn wsL_law wsX3_solve := goodIn_r _ [458, 123, 399, 53, 51, 52, 395, 396, 397, 5, 398, 54, 122, 55, 46, 394, 50, 400, 401, 402, 403, 404, 405, 406, 407, 310, 311, 312, 313, 408, 409, 410, 128, 129, 130, 131, 49, 43, 44, 45, 132, 133, 134, 411, 412, 413, 414, 200, 201, 202, 203, 204, 205, 206, 207, 48, 125, 126, 127, 208, 209, 210, 211, 124, 212, 481, 482, 483, 484, 485, 486, 487, 488, 489, 490, 491, 492, 493, 494, 495, 496, 497, 498, 499] (by decide +kernel) (by decide +kernel)
set_option maxRecDepth 20000 in
theorem gL_law_X3_solve : GoodIn wsL_law (wsV RL 127 RX3 yX3_solve wsX3_solve) := goodIn_app (goodIn_of _ (by decide +kernel)) ggL_law_X3_solve
set_option maxRecDepth 20000 in
theorem ggL_law_L_canReach : GoodIn wsL_law wsL_canReach := goodIn_ca (goodIn_ca (goodIn_r _ [461, 165, 60, 462, 463, 464, 2, 465, 170, 171, 66, 67, 16, 20, 176, 96, 97, 15, 98, 80, 334, 335, 336, 337, 117, 71, 338, 339, 340, 19, 341, 37, 342, 343, 344, 345, 346, 347, 348, 349, 350, 351, 34, 35, 36, 352, 353, 354, 355, 356, 99, 100, 357, 358, 359, 360, 38, 361, 362, 363, 364, 365, 88, 89, 90, 91, 92, 93, 94, 27, 29, 95, 366, 77, 78, 79, 367, 182, 183, 184, 25, 185, 186, 102, 103, 104, 105, 368, 369, 370, 371, 111, 112, 372, 373, 374, 375, 376, 377, 378, 379, 380, 381, 382, 173, 174, 175, 383, 384, 385, 466, 467, 468, 469, 474, 475, 476, 477, 478, 479, 480, 500, 501, 502, 503, 504, 505, 506, 507, 508, 509, 510, 511, 512, 513, 514, 515] (by decide +kernel) (by decide +kernel)) (goodIn_sub (fun _ h => List.mem_append_right _ h) (by decide +kernel))) (goodIn_sub (fun _ h => List.mem_append_left _ (List.mem_append_left _ (List.mem_append_right _ h))) (by decide +kernel))
set_option maxRecDepth 20000 in
theorem gL_law_L_canReach : GoodIn wsL_law (va_wsS RL 128 yL_canReach wsL_canReach) := goodIn_app (goodIn_of _ (by decide +kernel)) ggL_law_L_canReach
set_option maxRecDepth 20000 in
theorem ggL_law_X3_canReach : GoodIn wsL_law wsX3_canReach := goodIn_r _ [473, 123, 394, 50, 196, 197, 198, 5, 199, 122, 125, 126, 127, 395, 396, 397, 398, 54, 55, 46, 399, 400, 401, 402, 403, 51, 52, 53, 404, 405, 406, 407, 310, 311, 312, 313, 408, 409, 410, 128, 129, 130, 131, 49, 43, 44, 45, 132, 133, 134, 411, 412, 413, 414, 200, 201, 202, 203, 204, 205, 206, 207, 48, 481, 482, 483, 484, 485, 486, 487, 488, 489, 490, 491, 492, 493, 494, 495, 496, 497, 498, 499] (by decide +kernel) (by decide +kernel)
set_option maxRecDepth 20000 in
theorem gL_law_X3_canReach : GoodIn wsL_law (wsV RL 130 RX3 yX3_canReach wsX3_canReach) := goodIn_app (goodIn_of _ (by decide +kernel)) ggL_law_X3_canReach
theorem dL_law_0 : decode cL_law 0 = .ok (.new 8, 3) := by decide +kernel
theorem dL_law_3 : decode cL_law 3 = .ok (.dup, 1) := by decide +kernel
theorem dL_law_4 : decode cL_law 4 = .ok (.invokespecial 48, 3) := by decide +kernel
theorem dL_law_7 : decode cL_law 7 = .ok (.astore_n 1, 1) := by decide +kernel
theorem dL_law_8 : decode cL_law 8 = .ok (.new 49, 3) := by decide +kernel
theorem dL_law_11 : decode cL_law 11 = .ok (.dup, 1) := by decide +kernel
theorem dL_law_12 : decode cL_law 12 = .ok (.invokespecial 51, 3) := by decide +kernel
theorem dL_law_15 : decode cL_law 15 = .ok (.astore_n 2, 1) := by decide +kernel
theorem dL_law_16 : decode cL_law 16 = .ok (.iconst 1, 1) := by decide +kernel
theorem dL_law_17 : decode cL_law 17 = .ok (.newarray .long, 2) := by decide +kernel
theorem dL_law_19 : decode cL_law 19 = .ok (.astore_n 3, 1) := by decide +kernel
theorem dL_law_20 : decode cL_law 20 = .ok (.iconst 0, 1) := by decide +kernel
theorem dL_law_21 : decode cL_law 21 = .ok (.istore 4, 2) := by decide +kernel
theorem dL_law_23 : decode cL_law 23 = .ok (.iload 4, 2) := by decide +kernel
theorem dL_law_25 : decode cL_law 25 = .ok (.aload_n 0, 1) := by decide +kernel
theorem dL_law_26 : decode cL_law 26 = .ok (.arraylength, 1) := by decide +kernel
theorem dL_law_27 : decode cL_law 27 = .ok (.iconst 5, 1) := by decide +kernel
theorem dL_law_28 : decode cL_law 28 = .ok (.isub, 1) := by decide +kernel
theorem dL_law_29 : decode cL_law 29 = .ok (.if_icmp .gt 860, 3) := by decide +kernel
theorem dL_law_32 : decode cL_law 32 = .ok (.aload_n 0, 1) := by decide +kernel
theorem dL_law_33 : decode cL_law 33 = .ok (.iload 4, 2) := by decide +kernel
theorem dL_law_35 : decode cL_law 35 = .ok (.iaload, 1) := by decide +kernel
theorem dL_law_36 : decode cL_law 36 = .ok (.bipush 31, 2) := by decide +kernel
theorem dL_law_38 : decode cL_law 38 = .ok (.iand, 1) := by decide +kernel
theorem dL_law_39 : decode cL_law 39 = .ok (.tableswitch 844 0 18 #[89, 197, 245, 293, 377, 388, 401, 457, 513, 581, 665, 678, 691, 704, 717, 730, 743, 756, 769], 89) := by decide +kernel
theorem dL_law_128 : decode cL_law 128 = .ok (.aload_n 1, 1) := by decide +kernel
theorem dL_law_129 : decode cL_law 129 = .ok (.aload_n 0, 1) := by decide +kernel
theorem dL_law_130 : decode cL_law 130 = .ok (.iload 4, 2) := by decide +kernel
theorem dL_law_132 : decode cL_law 132 = .ok (.iconst 1, 1) := by decide +kernel
theorem dL_law_133 : decode cL_law 133 = .ok (.iadd, 1) := by decide +kernel
theorem dL_law_134 : decode cL_law 134 = .ok (.iaload, 1) := by decide +kernel
theorem dL_law_135 : decode cL_law 135 = .ok (.aload_n 0, 1) := by decide +kernel
theorem dL_law_136 : decode cL_law 136 = .ok (.iload 4, 2) := by decide +kernel
theorem dL_law_138 : decode cL_law 138 = .ok (.iconst 2, 1) := by decide +kernel
theorem dL_law_139 : decode cL_law 139 = .ok (.iadd, 1) := by decide +kernel
theorem dL_law_140 : decode cL_law 140 = .ok (.iaload, 1) := by decide +kernel
theorem dL_law_141 : decode cL_law 141 = .ok (.ifCond .eq 7, 3) := by decide +kernel
theorem dL_law_144 : decode cL_law 144 = .ok (.iconst 1, 1) := by decide +kernel
theorem dL_law_145 : decode cL_law 145 = .ok (.goto 4, 3) := by decide +kernel
theorem dL_law_148 : decode cL_law 148 = .ok (.iconst 0, 1) := by decide +kernel
theorem dL_law_149 : decode cL_law 149 = .ok (.aload_n 0, 1) := by decide +kernel
theorem dL_law_150 : decode cL_law 150 = .ok (.iload 4, 2) := by decide +kernel
theorem dL_law_152 : decode cL_law 152 = .ok (.iconst 3, 1) := by decide +kernel
theorem dL_law_153 : decode cL_law 153 = .ok (.iadd, 1) := by decide +kernel
theorem dL_law_154 : decode cL_law 154 = .ok (.iaload, 1) := by decide +kernel
theorem dL_law_155 : decode cL_law 155 = .ok (.aload_n 0, 1) := by decide +kernel
theorem dL_law_156 : decode cL_law 156 = .ok (.iload 4, 2) := by decide +kernel
theorem dL_law_158 : decode cL_law 158 = .ok (.iconst 4, 1) := by decide +kernel
theorem dL_law_159 : decode cL_law 159 = .ok (.iadd, 1) := by decide +kernel
theorem dL_law_160 : decode cL_law 160 = .ok (.iaload, 1) := by decide +kernel
theorem dL_law_161 : decode cL_law 161 = .ok (.aload_n 3, 1) := by decide +kernel
theorem dL_law_162 : decode cL_law 162 = .ok (.invokestatic 52, 3) := by decide +kernel
theorem dL_law_165 : decode cL_law 165 = .ok (.istore 5, 2) := by decide +kernel
theorem dL_law_167 : decode cL_law 167 = .ok (.aload_n 2, 1) := by decide +kernel
theorem dL_law_168 : decode cL_law 168 = .ok (.aload_n 0, 1) := by decide +kernel
theorem dL_law_169 : decode cL_law 169 = .ok (.iload 4, 2) := by decide +kernel
theorem dL_law_171 : decode cL_law 171 = .ok (.iconst 1, 1) := by decide +kernel
theorem dL_law_172 : decode cL_law 172 = .ok (.iadd, 1) := by decide +kernel
theorem dL_law_173 : decode cL_law 173 = .ok (.iaload, 1) := by decide +kernel
theorem dL_law_174 : decode cL_law 174 = .ok (.aload_n 0, 1) := by decide +kernel
theorem dL_law_175 : decode cL_law 175 = .ok (.iload 4, 2) := by decide +kernel
theorem dL_law_177 : decode cL_law 177 = .ok (.iconst 2, 1) := by decide +kernel
theorem dL_law_178 : decode cL_law 178 = .ok (.iadd, 1) := by decide +kernel
theorem dL_law_179 : decode cL_law 179 = .ok (.iaload, 1) := by decide +kernel
theorem dL_law_180 : decode cL_law 180 = .ok (.ifCond .eq 7, 3) := by decide +kernel
theorem dL_law_183 : decode cL_law 183 = .ok (.iconst 1, 1) := by decide +kernel
theorem dL_law_184 : decode cL_law 184 = .ok (.goto 4, 3) := by decide +kernel
theorem dL_law_187 : decode cL_law 187 = .ok (.iconst 0, 1) := by decide +kernel
theorem dL_law_188 : decode cL_law 188 = .ok (.aload_n 0, 1) := by decide +kernel
theorem dL_law_189 : decode cL_law 189 = .ok (.iload 4, 2) := by decide +kernel
theorem dL_law_191 : decode cL_law 191 = .ok (.iconst 3, 1) := by decide +kernel
theorem dL_law_192 : decode cL_law 192 = .ok (.iadd, 1) := by decide +kernel
theorem dL_law_193 : decode cL_law 193 = .ok (.iaload, 1) := by decide +kernel
theorem dL_law_194 : decode cL_law 194 = .ok (.aload_n 0, 1) := by decide +kernel
theorem dL_law_195 : decode cL_law 195 = .ok (.iload 4, 2) := by decide +kernel
theorem dL_law_197 : decode cL_law 197 = .ok (.iconst 4, 1) := by decide +kernel
theorem dL_law_198 : decode cL_law 198 = .ok (.iadd, 1) := by decide +kernel
theorem dL_law_199 : decode cL_law 199 = .ok (.iaload, 1) := by decide +kernel
theorem dL_law_200 : decode cL_law 200 = .ok (.invokevirtual 57, 3) := by decide +kernel
theorem dL_law_203 : decode cL_law 203 = .ok (.istore 6, 2) := by decide +kernel
theorem dL_law_205 : decode cL_law 205 = .ok (.aload_n 2, 1) := by decide +kernel
theorem dL_law_206 : decode cL_law 206 = .ok (.invokevirtual 58, 3) := by decide +kernel
theorem dL_law_209 : decode cL_law 209 = .ok (.iload 5, 2) := by decide +kernel
theorem dL_law_211 : decode cL_law 211 = .ok (.if_icmp .eq 5, 3) := by decide +kernel
theorem dL_law_214 : decode cL_law 214 = .ok (.iconst 0, 1) := by decide +kernel
theorem dL_law_215 : decode cL_law 215 = .ok (.ireturn, 1) := by decide +kernel
theorem dL_law_216 : decode cL_law 216 = .ok (.iload 5, 2) := by decide +kernel
theorem dL_law_218 : decode cL_law 218 = .ok (.ifCond .ne 15, 3) := by decide +kernel
theorem dL_law_221 : decode cL_law 221 = .ok (.aload_n 3, 1) := by decide +kernel
theorem dL_law_222 : decode cL_law 222 = .ok (.iconst 0, 1) := by decide +kernel
theorem dL_law_223 : decode cL_law 223 = .ok (.laload, 1) := by decide +kernel
theorem dL_law_224 : decode cL_law 224 = .ok (.iload 6, 2) := by decide +kernel
theorem dL_law_226 : decode cL_law 226 = .ok (.i2l, 1) := by decide +kernel
theorem dL_law_227 : decode cL_law 227 = .ok (.lcmp, 1) := by decide +kernel
theorem dL_law_228 : decode cL_law 228 = .ok (.ifCond .eq 5, 3) := by decide +kernel
theorem dL_law_231 : decode cL_law 231 = .ok (.iconst 0, 1) := by decide +kernel
theorem dL_law_232 : decode cL_law 232 = .ok (.ireturn, 1) := by decide +kernel
theorem dL_law_233 : decode cL_law 233 = .ok (.goto 650, 3) := by decide +kernel
theorem dL_law_236 : decode cL_law 236 = .ok (.aload_n 1, 1) := by decide +kernel
theorem dL_law_237 : decode cL_law 237 = .ok (.aload_n 0, 1) := by decide +kernel
theorem dL_law_238 : decode cL_law 238 = .ok (.iload 4, 2) := by decide +kernel
theorem dL_law_240 : decode cL_law 240 = .ok (.iconst 1, 1) := by decide +kernel
theorem dL_law_241 : decode cL_law 241 = .ok (.iadd, 1) := by decide +kernel
theorem dL_law_242 : decode cL_law 242 = .ok (.iaload, 1) := by decide +kernel
theorem dL_law_243 : decode cL_law 243 = .ok (.aload_n 0, 1) := by decide +kernel
theorem dL_law_244 : decode cL_law 244 = .ok (.iload 4, 2) := by decide +kernel
theorem dL_law_246 : decode cL_law 246 = .ok (.iconst 2, 1) := by decide +kernel
theorem dL_law_247 : decode cL_law 247 = .ok (.iadd, 1) := by decide +kernel
theorem dL_law_248 : decode cL_law 248 = .ok (.iaload, 1) := by decide +kernel
theorem dL_law_249 : decode cL_law 249 = .ok (.invokestatic 62, 3) := by decide +kernel
theorem dL_law_252 : decode cL_law 252 = .ok (.istore 5, 2) := by decide +kernel
theorem dL_law_254 : decode cL_law 254 = .ok (.aload_n 2, 1) := by decide +kernel
theorem dL_law_255 : decode cL_law 255 = .ok (.aload_n 0, 1) := by decide +kernel
theorem dL_law_256 : decode cL_law 256 = .ok (.iload 4, 2) := by decide +kernel
theorem dL_law_258 : decode cL_law 258 = .ok (.iconst 1, 1) := by decide +kernel
theorem dL_law_259 : decode cL_law 259 = .ok (.iadd, 1) := by decide +kernel
theorem dL_law_260 : decode cL_law 260 = .ok (.iaload, 1) := by decide +kernel
theorem dL_law_261 : decode cL_law 261 = .ok (.aload_n 0, 1) := by decide +kernel
theorem dL_law_262 : decode cL_law 262 = .ok (.iload 4, 2) := by decide +kernel
theorem dL_law_264 : decode cL_law 264 = .ok (.iconst 2, 1) := by decide +kernel
theorem dL_law_265 : decode cL_law 265 = .ok (.iadd, 1) := by decide +kernel
theorem dL_law_266 : decode cL_law 266 = .ok (.iaload, 1) := by decide +kernel
theorem dL_law_267 : decode cL_law 267 = .ok (.invokevirtual 65, 3) := by decide +kernel
theorem dL_law_270 : decode cL_law 270 = .ok (.aload_n 2, 1) := by decide +kernel
theorem dL_law_271 : decode cL_law 271 = .ok (.invokevirtual 58, 3) := by decide +kernel
theorem dL_law_274 : decode cL_law 274 = .ok (.iload 5, 2) := by decide +kernel
theorem dL_law_276 : decode cL_law 276 = .ok (.if_icmp .eq 5, 3) := by decide +kernel
theorem dL_law_279 : decode cL_law 279 = .ok (.iconst 0, 1) := by decide +kernel
theorem dL_law_280 : decode cL_law 280 = .ok (.ireturn, 1) := by decide +kernel
theorem dL_law_281 : decode cL_law 281 = .ok (.goto 602, 3) := by decide +kernel
theorem dL_law_284 : decode cL_law 284 = .ok (.aload_n 1, 1) := by decide +kernel
theorem dL_law_285 : decode cL_law 285 = .ok (.aload_n 0, 1) := by decide +kernel
theorem dL_law_286 : decode cL_law 286 = .ok (.iload 4, 2) := by decide +kernel
theorem dL_law_288 : decode cL_law 288 = .ok (.iconst 1, 1) := by decide +kernel
theorem dL_law_289 : decode cL_law 289 = .ok (.iadd, 1) := by decide +kernel
theorem dL_law_290 : decode cL_law 290 = .ok (.iaload, 1) := by decide +kernel
theorem dL_law_291 : decode cL_law 291 = .ok (.aload_n 0, 1) := by decide +kernel
theorem dL_law_292 : decode cL_law 292 = .ok (.iload 4, 2) := by decide +kernel
theorem dL_law_294 : decode cL_law 294 = .ok (.iconst 2, 1) := by decide +kernel
theorem dL_law_295 : decode cL_law 295 = .ok (.iadd, 1) := by decide +kernel
theorem dL_law_296 : decode cL_law 296 = .ok (.iaload, 1) := by decide +kernel
theorem dL_law_297 : decode cL_law 297 = .ok (.invokestatic 66, 3) := by decide +kernel
theorem dL_law_300 : decode cL_law 300 = .ok (.istore 5, 2) := by decide +kernel
theorem dL_law_302 : decode cL_law 302 = .ok (.aload_n 2, 1) := by decide +kernel
theorem dL_law_303 : decode cL_law 303 = .ok (.aload_n 0, 1) := by decide +kernel
theorem dL_law_304 : decode cL_law 304 = .ok (.iload 4, 2) := by decide +kernel
theorem dL_law_306 : decode cL_law 306 = .ok (.iconst 1, 1) := by decide +kernel
theorem dL_law_307 : decode cL_law 307 = .ok (.iadd, 1) := by decide +kernel
theorem dL_law_308 : decode cL_law 308 = .ok (.iaload, 1) := by decide +kernel
theorem dL_law_309 : decode cL_law 309 = .ok (.aload_n 0, 1) := by decide +kernel
theorem dL_law_310 : decode cL_law 310 = .ok (.iload 4, 2) := by decide +kernel
theorem dL_law_312 : decode cL_law 312 = .ok (.iconst 2, 1) := by decide +kernel
theorem dL_law_313 : decode cL_law 313 = .ok (.iadd, 1) := by decide +kernel
theorem dL_law_314 : decode cL_law 314 = .ok (.iaload, 1) := by decide +kernel
theorem dL_law_315 : decode cL_law 315 = .ok (.invokevirtual 68, 3) := by decide +kernel
theorem dL_law_318 : decode cL_law 318 = .ok (.aload_n 2, 1) := by decide +kernel
theorem dL_law_319 : decode cL_law 319 = .ok (.invokevirtual 58, 3) := by decide +kernel
theorem dL_law_322 : decode cL_law 322 = .ok (.iload 5, 2) := by decide +kernel
theorem dL_law_324 : decode cL_law 324 = .ok (.if_icmp .eq 5, 3) := by decide +kernel
theorem dL_law_327 : decode cL_law 327 = .ok (.iconst 0, 1) := by decide +kernel
theorem dL_law_328 : decode cL_law 328 = .ok (.ireturn, 1) := by decide +kernel
theorem dL_law_329 : decode cL_law 329 = .ok (.goto 554, 3) := by decide +kernel
theorem dL_law_332 : decode cL_law 332 = .ok (.aload_n 1, 1) := by decide +kernel
theorem dL_law_333 : decode cL_law 333 = .ok (.aload_n 0, 1) := by decide +kernel
theorem dL_law_334 : decode cL_law 334 = .ok (.iload 4, 2) := by decide +kernel
theorem dL_law_336 : decode cL_law 336 = .ok (.iconst 1, 1) := by decide +kernel
theorem dL_law_337 : decode cL_law 337 = .ok (.iadd, 1) := by decide +kernel
theorem dL_law_338 : decode cL_law 338 = .ok (.iaload, 1) := by decide +kernel
theorem dL_law_339 : decode cL_law 339 = .ok (.aload_n 0, 1) := by decide +kernel
theorem dL_law_340 : decode cL_law 340 = .ok (.iload 4, 2) := by decide +kernel
theorem dL_law_342 : decode cL_law 342 = .ok (.iconst 2, 1) := by decide +kernel
theorem dL_law_343 : decode cL_law 343 = .ok (.iadd, 1) := by decide +kernel
theorem dL_law_344 : decode cL_law 344 = .ok (.iaload, 1) := by decide +kernel
theorem dL_law_345 : decode cL_law 345 = .ok (.ifCond .eq 7, 3) := by decide +kernel
theorem dL_law_348 : decode cL_law 348 = .ok (.iconst 1, 1) := by decide +kernel
theorem dL_law_349 : decode cL_law 349 = .ok (.goto 4, 3) := by decide +kernel
theorem dL_law_352 : decode cL_law 352 = .ok (.iconst 0, 1) := by decide +kernel
theorem dL_law_353 : decode cL_law 353 = .ok (.aload_n 3, 1) := by decide +kernel
theorem dL_law_354 : decode cL_law 354 = .ok (.invokestatic 69, 3) := by decide +kernel
theorem dL_law_357 : decode cL_law 357 = .ok (.istore 5, 2) := by decide +kernel
theorem dL_law_359 : decode cL_law 359 = .ok (.aload_n 2, 1) := by decide +kernel
theorem dL_law_360 : decode cL_law 360 = .ok (.aload_n 0, 1) := by decide +kernel
theorem dL_law_361 : decode cL_law 361 = .ok (.iload 4, 2) := by decide +kernel
theorem dL_law_363 : decode cL_law 363 = .ok (.iconst 1, 1) := by decide +kernel
theorem dL_law_364 : decode cL_law 364 = .ok (.iadd, 1) := by decide +kernel
theorem dL_law_365 : decode cL_law 365 = .ok (.iaload, 1) := by decide +kernel
theorem dL_law_366 : decode cL_law 366 = .ok (.aload_n 0, 1) := by decide +kernel
theorem dL_law_367 : decode cL_law 367 = .ok (.iload 4, 2) := by decide +kernel
theorem dL_law_369 : decode cL_law 369 = .ok (.iconst 2, 1) := by decide +kernel
theorem dL_law_370 : decode cL_law 370 = .ok (.iadd, 1) := by decide +kernel
theorem dL_law_371 : decode cL_law 371 = .ok (.iaload, 1) := by decide +kernel
theorem dL_law_372 : decode cL_law 372 = .ok (.ifCond .eq 7, 3) := by decide +kernel
theorem dL_law_375 : decode cL_law 375 = .ok (.iconst 1, 1) := by decide +kernel
theorem dL_law_376 : decode cL_law 376 = .ok (.goto 4, 3) := by decide +kernel
theorem dL_law_379 : decode cL_law 379 = .ok (.iconst 0, 1) := by decide +kernel
theorem dL_law_380 : decode cL_law 380 = .ok (.invokevirtual 72, 3) := by decide +kernel
theorem dL_law_383 : decode cL_law 383 = .ok (.istore 6, 2) := by decide +kernel
theorem dL_law_385 : decode cL_law 385 = .ok (.aload_n 2, 1) := by decide +kernel
theorem dL_law_386 : decode cL_law 386 = .ok (.invokevirtual 58, 3) := by decide +kernel
theorem dL_law_389 : decode cL_law 389 = .ok (.iload 5, 2) := by decide +kernel
theorem dL_law_391 : decode cL_law 391 = .ok (.if_icmp .eq 5, 3) := by decide +kernel
theorem dL_law_394 : decode cL_law 394 = .ok (.iconst 0, 1) := by decide +kernel
theorem dL_law_395 : decode cL_law 395 = .ok (.ireturn, 1) := by decide +kernel
theorem dL_law_396 : decode cL_law 396 = .ok (.iload 5, 2) := by decide +kernel
theorem dL_law_398 : decode cL_law 398 = .ok (.ifCond .ne 15, 3) := by decide +kernel
theorem dL_law_401 : decode cL_law 401 = .ok (.aload_n 3, 1) := by decide +kernel
theorem dL_law_402 : decode cL_law 402 = .ok (.iconst 0, 1) := by decide +kernel
theorem dL_law_403 : decode cL_law 403 = .ok (.laload, 1) := by decide +kernel
theorem dL_law_404 : decode cL_law 404 = .ok (.iload 6, 2) := by decide +kernel
theorem dL_law_406 : decode cL_law 406 = .ok (.i2l, 1) := by decide +kernel
theorem dL_law_407 : decode cL_law 407 = .ok (.lcmp, 1) := by decide +kernel
theorem dL_law_408 : decode cL_law 408 = .ok (.ifCond .eq 5, 3) := by decide +kernel
theorem dL_law_411 : decode cL_law 411 = .ok (.iconst 0, 1) := by decide +kernel
theorem dL_law_412 : decode cL_law 412 = .ok (.ireturn, 1) := by decide +kernel
theorem dL_law_413 : decode cL_law 413 = .ok (.goto 470, 3) := by decide +kernel
theorem dL_law_416 : decode cL_law 416 = .ok (.aload_n 1, 1) := by decide +kernel
theorem dL_law_417 : decode cL_law 417 = .ok (.invokevirtual 73, 3) := by decide +kernel
theorem dL_law_420 : decode cL_law 420 = .ok (.aload_n 2, 1) := by decide +kernel
theorem dL_law_421 : decode cL_law 421 = .ok (.invokevirtual 76, 3) := by decide +kernel
theorem dL_law_424 : decode cL_law 424 = .ok (.goto 459, 3) := by decide +kernel
theorem dL_law_427 : decode cL_law 427 = .ok (.aload_n 1, 1) := by decide +kernel
theorem dL_law_428 : decode cL_law 428 = .ok (.invokevirtual 77, 3) := by decide +kernel
theorem dL_law_431 : decode cL_law 431 = .ok (.aload_n 2, 1) := by decide +kernel
theorem dL_law_432 : decode cL_law 432 = .ok (.invokevirtual 80, 3) := by decide +kernel
theorem dL_law_435 : decode cL_law 435 = .ok (.if_icmp .eq 448, 3) := by decide +kernel
theorem dL_law_438 : decode cL_law 438 = .ok (.iconst 0, 1) := by decide +kernel
theorem dL_law_439 : decode cL_law 439 = .ok (.ireturn, 1) := by decide +kernel
theorem dL_law_440 : decode cL_law 440 = .ok (.aload_n 1, 1) := by decide +kernel
theorem dL_law_441 : decode cL_law 441 = .ok (.aload_n 0, 1) := by decide +kernel
theorem dL_law_442 : decode cL_law 442 = .ok (.iload 4, 2) := by decide +kernel
theorem dL_law_444 : decode cL_law 444 = .ok (.iconst 1, 1) := by decide +kernel
theorem dL_law_445 : decode cL_law 445 = .ok (.iadd, 1) := by decide +kernel
theorem dL_law_446 : decode cL_law 446 = .ok (.iaload, 1) := by decide +kernel
theorem dL_law_447 : decode cL_law 447 = .ok (.aload_n 3, 1) := by decide +kernel
theorem dL_law_448 : decode cL_law 448 = .ok (.invokestatic 81, 3) := by decide +kernel
theorem dL_law_451 : decode cL_law 451 = .ok (.istore 5, 2) := by decide +kernel
theorem dL_law_453 : decode cL_law 453 = .ok (.aload_n 2, 1) := by decide +kernel
theorem dL_law_454 : decode cL_law 454 = .ok (.aload_n 0, 1) := by decide +kernel
theorem dL_law_455 : decode cL_law 455 = .ok (.iload 4, 2) := by decide +kernel
theorem dL_law_457 : decode cL_law 457 = .ok (.iconst 1, 1) := by decide +kernel
theorem dL_law_458 : decode cL_law 458 = .ok (.iadd, 1) := by decide +kernel
theorem dL_law_459 : decode cL_law 459 = .ok (.iaload, 1) := by decide +kernel
theorem dL_law_460 : decode cL_law 460 = .ok (.invokevirtual 84, 3) := by decide +kernel
theorem dL_law_463 : decode cL_law 463 = .ok (.istore 6, 2) := by decide +kernel
theorem dL_law_465 : decode cL_law 465 = .ok (.aload_n 2, 1) := by decide +kernel
theorem dL_law_466 : decode cL_law 466 = .ok (.invokevirtual 58, 3) := by decide +kernel
theorem dL_law_469 : decode cL_law 469 = .ok (.iload 5, 2) := by decide +kernel
theorem dL_law_471 : decode cL_law 471 = .ok (.if_icmp .eq 5, 3) := by decide +kernel
theorem dL_law_474 : decode cL_law 474 = .ok (.iconst 0, 1) := by decide +kernel
theorem dL_law_475 : decode cL_law 475 = .ok (.ireturn, 1) := by decide +kernel
theorem dL_law_476 : decode cL_law 476 = .ok (.iload 5, 2) := by decide +kernel
theorem dL_law_478 : decode cL_law 478 = .ok (.ifCond .ne 15, 3) := by decide +kernel
theorem dL_law_481 : decode cL_law 481 = .ok (.aload_n 3, 1) := by decide +kernel
theorem dL_law_482 : decode cL_law 482 = .ok (.iconst 0, 1) := by decide +kernel
theorem dL_law_483 : decode cL_law 483 = .ok (.laload, 1) := by decide +kernel
theorem dL_law_484 : decode cL_law 484 = .ok (.iload 6, 2) := by decide +kernel
theorem dL_law_486 : decode cL_law 486 = .ok (.i2l, 1) := by decide +kernel
theorem dL_law_487 : decode cL_law 487 = .ok (.lcmp, 1) := by decide +kernel
theorem dL_law_488 : decode cL_law 488 = .ok (.ifCond .eq 5, 3) := by decide +kernel
theorem dL_law_491 : decode cL_law 491 = .ok (.iconst 0, 1) := by decide +kernel
theorem dL_law_492 : decode cL_law 492 = .ok (.ireturn, 1) := by decide +kernel
theorem dL_law_493 : decode cL_law 493 = .ok (.goto 390, 3) := by decide +kernel
theorem dL_law_496 : decode cL_law 496 = .ok (.aload_n 1, 1) := by decide +kernel
theorem dL_law_497 : decode cL_law 497 = .ok (.aload_n 0, 1) := by decide +kernel
theorem dL_law_498 : decode cL_law 498 = .ok (.iload 4, 2) := by decide +kernel
theorem dL_law_500 : decode cL_law 500 = .ok (.iconst 1, 1) := by decide +kernel
theorem dL_law_501 : decode cL_law 501 = .ok (.iadd, 1) := by decide +kernel
theorem dL_law_502 : decode cL_law 502 = .ok (.iaload, 1) := by decide +kernel
theorem dL_law_503 : decode cL_law 503 = .ok (.aload_n 3, 1) := by decide +kernel
theorem dL_law_504 : decode cL_law 504 = .ok (.invokestatic 85, 3) := by decide +kernel
theorem dL_law_507 : decode cL_law 507 = .ok (.istore 5, 2) := by decide +kernel
theorem dL_law_509 : decode cL_law 509 = .ok (.aload_n 2, 1) := by decide +kernel
theorem dL_law_510 : decode cL_law 510 = .ok (.aload_n 0, 1) := by decide +kernel
theorem dL_law_511 : decode cL_law 511 = .ok (.iload 4, 2) := by decide +kernel
theorem dL_law_513 : decode cL_law 513 = .ok (.iconst 1, 1) := by decide +kernel
theorem dL_law_514 : decode cL_law 514 = .ok (.iadd, 1) := by decide +kernel
theorem dL_law_515 : decode cL_law 515 = .ok (.iaload, 1) := by decide +kernel
theorem dL_law_516 : decode cL_law 516 = .ok (.invokevirtual 87, 3) := by decide +kernel
theorem dL_law_519 : decode cL_law 519 = .ok (.istore 6, 2) := by decide +kernel
theorem dL_law_521 : decode cL_law 521 = .ok (.aload_n 2, 1) := by decide +kernel
theorem dL_law_522 : decode cL_law 522 = .ok (.invokevirtual 58, 3) := by decide +kernel
theorem dL_law_525 : decode cL_law 525 = .ok (.iload 5, 2) := by decide +kernel
theorem dL_law_527 : decode cL_law 527 = .ok (.if_icmp .eq 5, 3) := by decide +kernel
theorem dL_law_530 : decode cL_law 530 = .ok (.iconst 0, 1) := by decide +kernel
theorem dL_law_531 : decode cL_law 531 = .ok (.ireturn, 1) := by decide +kernel
theorem dL_law_532 : decode cL_law 532 = .ok (.iload 5, 2) := by decide +kernel
theorem dL_law_534 : decode cL_law 534 = .ok (.ifCond .ne 15, 3) := by decide +kernel
theorem dL_law_537 : decode cL_law 537 = .ok (.aload_n 3, 1) := by decide +kernel
theorem dL_law_538 : decode cL_law 538 = .ok (.iconst 0, 1) := by decide +kernel
theorem dL_law_539 : decode cL_law 539 = .ok (.laload, 1) := by decide +kernel
theorem dL_law_540 : decode cL_law 540 = .ok (.iload 6, 2) := by decide +kernel
theorem dL_law_542 : decode cL_law 542 = .ok (.i2l, 1) := by decide +kernel
theorem dL_law_543 : decode cL_law 543 = .ok (.lcmp, 1) := by decide +kernel
theorem dL_law_544 : decode cL_law 544 = .ok (.ifCond .eq 5, 3) := by decide +kernel
theorem dL_law_547 : decode cL_law 547 = .ok (.iconst 0, 1) := by decide +kernel
theorem dL_law_548 : decode cL_law 548 = .ok (.ireturn, 1) := by decide +kernel
theorem dL_law_549 : decode cL_law 549 = .ok (.goto 334, 3) := by decide +kernel
theorem dL_law_552 : decode cL_law 552 = .ok (.aload_n 1, 1) := by decide +kernel
theorem dL_law_553 : decode cL_law 553 = .ok (.aload_n 0, 1) := by decide +kernel
theorem dL_law_554 : decode cL_law 554 = .ok (.iload 4, 2) := by decide +kernel
theorem dL_law_556 : decode cL_law 556 = .ok (.iconst 1, 1) := by decide +kernel
theorem dL_law_557 : decode cL_law 557 = .ok (.iadd, 1) := by decide +kernel
theorem dL_law_558 : decode cL_law 558 = .ok (.iaload, 1) := by decide +kernel
theorem dL_law_559 : decode cL_law 559 = .ok (.aload_n 0, 1) := by decide +kernel
theorem dL_law_560 : decode cL_law 560 = .ok (.iload 4, 2) := by decide +kernel
theorem dL_law_562 : decode cL_law 562 = .ok (.iconst 2, 1) := by decide +kernel
theorem dL_law_563 : decode cL_law 563 = .ok (.iadd, 1) := by decide +kernel
theorem dL_law_564 : decode cL_law 564 = .ok (.iaload, 1) := by decide +kernel
theorem dL_law_565 : decode cL_law 565 = .ok (.aload_n 3, 1) := by decide +kernel
theorem dL_law_566 : decode cL_law 566 = .ok (.invokestatic 88, 3) := by decide +kernel
theorem dL_law_569 : decode cL_law 569 = .ok (.istore 5, 2) := by decide +kernel
theorem dL_law_571 : decode cL_law 571 = .ok (.aload_n 2, 1) := by decide +kernel
theorem dL_law_572 : decode cL_law 572 = .ok (.aload_n 0, 1) := by decide +kernel
theorem dL_law_573 : decode cL_law 573 = .ok (.iload 4, 2) := by decide +kernel
theorem dL_law_575 : decode cL_law 575 = .ok (.iconst 1, 1) := by decide +kernel
theorem dL_law_576 : decode cL_law 576 = .ok (.iadd, 1) := by decide +kernel
theorem dL_law_577 : decode cL_law 577 = .ok (.iaload, 1) := by decide +kernel
theorem dL_law_578 : decode cL_law 578 = .ok (.aload_n 0, 1) := by decide +kernel
theorem dL_law_579 : decode cL_law 579 = .ok (.iload 4, 2) := by decide +kernel
theorem dL_law_581 : decode cL_law 581 = .ok (.iconst 2, 1) := by decide +kernel
theorem dL_law_582 : decode cL_law 582 = .ok (.iadd, 1) := by decide +kernel
theorem dL_law_583 : decode cL_law 583 = .ok (.iaload, 1) := by decide +kernel
theorem dL_law_584 : decode cL_law 584 = .ok (.invokevirtual 91, 3) := by decide +kernel
theorem dL_law_587 : decode cL_law 587 = .ok (.istore 6, 2) := by decide +kernel
theorem dL_law_589 : decode cL_law 589 = .ok (.aload_n 2, 1) := by decide +kernel
theorem dL_law_590 : decode cL_law 590 = .ok (.invokevirtual 58, 3) := by decide +kernel
theorem dL_law_593 : decode cL_law 593 = .ok (.iload 5, 2) := by decide +kernel
theorem dL_law_595 : decode cL_law 595 = .ok (.if_icmp .eq 5, 3) := by decide +kernel
theorem dL_law_598 : decode cL_law 598 = .ok (.iconst 0, 1) := by decide +kernel
theorem dL_law_599 : decode cL_law 599 = .ok (.ireturn, 1) := by decide +kernel
theorem dL_law_600 : decode cL_law 600 = .ok (.iload 5, 2) := by decide +kernel
theorem dL_law_602 : decode cL_law 602 = .ok (.ifCond .ne 15, 3) := by decide +kernel
theorem dL_law_605 : decode cL_law 605 = .ok (.aload_n 3, 1) := by decide +kernel
theorem dL_law_606 : decode cL_law 606 = .ok (.iconst 0, 1) := by decide +kernel
theorem dL_law_607 : decode cL_law 607 = .ok (.laload, 1) := by decide +kernel
theorem dL_law_608 : decode cL_law 608 = .ok (.iload 6, 2) := by decide +kernel
theorem dL_law_610 : decode cL_law 610 = .ok (.i2l, 1) := by decide +kernel
theorem dL_law_611 : decode cL_law 611 = .ok (.lcmp, 1) := by decide +kernel
theorem dL_law_612 : decode cL_law 612 = .ok (.ifCond .eq 5, 3) := by decide +kernel
theorem dL_law_615 : decode cL_law 615 = .ok (.iconst 0, 1) := by decide +kernel
theorem dL_law_616 : decode cL_law 616 = .ok (.ireturn, 1) := by decide +kernel
theorem dL_law_617 : decode cL_law 617 = .ok (.goto 266, 3) := by decide +kernel
theorem dL_law_620 : decode cL_law 620 = .ok (.aload_n 1, 1) := by decide +kernel
theorem dL_law_621 : decode cL_law 621 = .ok (.aload_n 0, 1) := by decide +kernel
theorem dL_law_622 : decode cL_law 622 = .ok (.iload 4, 2) := by decide +kernel
theorem dL_law_624 : decode cL_law 624 = .ok (.iconst 1, 1) := by decide +kernel
theorem dL_law_625 : decode cL_law 625 = .ok (.iadd, 1) := by decide +kernel
theorem dL_law_626 : decode cL_law 626 = .ok (.iaload, 1) := by decide +kernel
theorem dL_law_627 : decode cL_law 627 = .ok (.aload_n 0, 1) := by decide +kernel
theorem dL_law_628 : decode cL_law 628 = .ok (.iload 4, 2) := by decide +kernel
theorem dL_law_630 : decode cL_law 630 = .ok (.iconst 2, 1) := by decide +kernel
theorem dL_law_631 : decode cL_law 631 = .ok (.iadd, 1) := by decide +kernel
theorem dL_law_632 : decode cL_law 632 = .ok (.iaload, 1) := by decide +kernel
theorem dL_law_633 : decode cL_law 633 = .ok (.ifCond .eq 7, 3) := by decide +kernel
theorem dL_law_636 : decode cL_law 636 = .ok (.iconst 1, 1) := by decide +kernel
theorem dL_law_637 : decode cL_law 637 = .ok (.goto 4, 3) := by decide +kernel
theorem dL_law_640 : decode cL_law 640 = .ok (.iconst 0, 1) := by decide +kernel
theorem dL_law_641 : decode cL_law 641 = .ok (.aload_n 3, 1) := by decide +kernel
theorem dL_law_642 : decode cL_law 642 = .ok (.invokestatic 92, 3) := by decide +kernel
theorem dL_law_645 : decode cL_law 645 = .ok (.istore 5, 2) := by decide +kernel
theorem dL_law_647 : decode cL_law 647 = .ok (.aload_n 2, 1) := by decide +kernel
theorem dL_law_648 : decode cL_law 648 = .ok (.aload_n 0, 1) := by decide +kernel
theorem dL_law_649 : decode cL_law 649 = .ok (.iload 4, 2) := by decide +kernel
theorem dL_law_651 : decode cL_law 651 = .ok (.iconst 1, 1) := by decide +kernel
theorem dL_law_652 : decode cL_law 652 = .ok (.iadd, 1) := by decide +kernel
theorem dL_law_653 : decode cL_law 653 = .ok (.iaload, 1) := by decide +kernel
theorem dL_law_654 : decode cL_law 654 = .ok (.aload_n 0, 1) := by decide +kernel
theorem dL_law_655 : decode cL_law 655 = .ok (.iload 4, 2) := by decide +kernel
theorem dL_law_657 : decode cL_law 657 = .ok (.iconst 2, 1) := by decide +kernel
theorem dL_law_658 : decode cL_law 658 = .ok (.iadd, 1) := by decide +kernel
theorem dL_law_659 : decode cL_law 659 = .ok (.iaload, 1) := by decide +kernel
theorem dL_law_660 : decode cL_law 660 = .ok (.ifCond .eq 7, 3) := by decide +kernel
theorem dL_law_663 : decode cL_law 663 = .ok (.iconst 1, 1) := by decide +kernel
theorem dL_law_664 : decode cL_law 664 = .ok (.goto 4, 3) := by decide +kernel
theorem dL_law_667 : decode cL_law 667 = .ok (.iconst 0, 1) := by decide +kernel
theorem dL_law_668 : decode cL_law 668 = .ok (.invokevirtual 94, 3) := by decide +kernel
theorem dL_law_671 : decode cL_law 671 = .ok (.istore 6, 2) := by decide +kernel
theorem dL_law_673 : decode cL_law 673 = .ok (.aload_n 2, 1) := by decide +kernel
theorem dL_law_674 : decode cL_law 674 = .ok (.invokevirtual 58, 3) := by decide +kernel
theorem dL_law_677 : decode cL_law 677 = .ok (.iload 5, 2) := by decide +kernel
theorem dL_law_679 : decode cL_law 679 = .ok (.if_icmp .eq 5, 3) := by decide +kernel
theorem dL_law_682 : decode cL_law 682 = .ok (.iconst 0, 1) := by decide +kernel
theorem dL_law_683 : decode cL_law 683 = .ok (.ireturn, 1) := by decide +kernel
theorem dL_law_684 : decode cL_law 684 = .ok (.iload 5, 2) := by decide +kernel
theorem dL_law_686 : decode cL_law 686 = .ok (.ifCond .ne 15, 3) := by decide +kernel
theorem dL_law_689 : decode cL_law 689 = .ok (.aload_n 3, 1) := by decide +kernel
theorem dL_law_690 : decode cL_law 690 = .ok (.iconst 0, 1) := by decide +kernel
theorem dL_law_691 : decode cL_law 691 = .ok (.laload, 1) := by decide +kernel
theorem dL_law_692 : decode cL_law 692 = .ok (.iload 6, 2) := by decide +kernel
theorem dL_law_694 : decode cL_law 694 = .ok (.i2l, 1) := by decide +kernel
theorem dL_law_695 : decode cL_law 695 = .ok (.lcmp, 1) := by decide +kernel
theorem dL_law_696 : decode cL_law 696 = .ok (.ifCond .eq 5, 3) := by decide +kernel
theorem dL_law_699 : decode cL_law 699 = .ok (.iconst 0, 1) := by decide +kernel
theorem dL_law_700 : decode cL_law 700 = .ok (.ireturn, 1) := by decide +kernel
theorem dL_law_701 : decode cL_law 701 = .ok (.goto 182, 3) := by decide +kernel
theorem dL_law_704 : decode cL_law 704 = .ok (.aload_n 1, 1) := by decide +kernel
theorem dL_law_705 : decode cL_law 705 = .ok (.invokevirtual 95, 3) := by decide +kernel
theorem dL_law_708 : decode cL_law 708 = .ok (.aload_n 2, 1) := by decide +kernel
theorem dL_law_709 : decode cL_law 709 = .ok (.invokevirtual 98, 3) := by decide +kernel
theorem dL_law_712 : decode cL_law 712 = .ok (.if_icmp .eq 171, 3) := by decide +kernel
theorem dL_law_715 : decode cL_law 715 = .ok (.iconst 0, 1) := by decide +kernel
theorem dL_law_716 : decode cL_law 716 = .ok (.ireturn, 1) := by decide +kernel
theorem dL_law_717 : decode cL_law 717 = .ok (.aload_n 1, 1) := by decide +kernel
theorem dL_law_718 : decode cL_law 718 = .ok (.invokevirtual 99, 3) := by decide +kernel
theorem dL_law_721 : decode cL_law 721 = .ok (.aload_n 2, 1) := by decide +kernel
theorem dL_law_722 : decode cL_law 722 = .ok (.invokevirtual 103, 3) := by decide +kernel
theorem dL_law_725 : decode cL_law 725 = .ok (.if_icmp .eq 158, 3) := by decide +kernel
theorem dL_law_728 : decode cL_law 728 = .ok (.iconst 0, 1) := by decide +kernel
theorem dL_law_729 : decode cL_law 729 = .ok (.ireturn, 1) := by decide +kernel
theorem dL_law_730 : decode cL_law 730 = .ok (.aload_n 1, 1) := by decide +kernel
theorem dL_law_731 : decode cL_law 731 = .ok (.invokevirtual 104, 3) := by decide +kernel
theorem dL_law_734 : decode cL_law 734 = .ok (.aload_n 2, 1) := by decide +kernel
theorem dL_law_735 : decode cL_law 735 = .ok (.invokevirtual 107, 3) := by decide +kernel
theorem dL_law_738 : decode cL_law 738 = .ok (.if_icmp .eq 145, 3) := by decide +kernel
theorem dL_law_741 : decode cL_law 741 = .ok (.iconst 0, 1) := by decide +kernel
theorem dL_law_742 : decode cL_law 742 = .ok (.ireturn, 1) := by decide +kernel
theorem dL_law_743 : decode cL_law 743 = .ok (.aload_n 1, 1) := by decide +kernel
theorem dL_law_744 : decode cL_law 744 = .ok (.invokevirtual 108, 3) := by decide +kernel
theorem dL_law_747 : decode cL_law 747 = .ok (.aload_n 2, 1) := by decide +kernel
theorem dL_law_748 : decode cL_law 748 = .ok (.invokevirtual 111, 3) := by decide +kernel
theorem dL_law_751 : decode cL_law 751 = .ok (.if_icmp .eq 132, 3) := by decide +kernel
theorem dL_law_754 : decode cL_law 754 = .ok (.iconst 0, 1) := by decide +kernel
theorem dL_law_755 : decode cL_law 755 = .ok (.ireturn, 1) := by decide +kernel
theorem dL_law_756 : decode cL_law 756 = .ok (.aload_n 1, 1) := by decide +kernel
theorem dL_law_757 : decode cL_law 757 = .ok (.invokevirtual 112, 3) := by decide +kernel
theorem dL_law_760 : decode cL_law 760 = .ok (.aload_n 2, 1) := by decide +kernel
theorem dL_law_761 : decode cL_law 761 = .ok (.invokevirtual 115, 3) := by decide +kernel
theorem dL_law_764 : decode cL_law 764 = .ok (.if_icmp .eq 119, 3) := by decide +kernel
theorem dL_law_767 : decode cL_law 767 = .ok (.iconst 0, 1) := by decide +kernel
theorem dL_law_768 : decode cL_law 768 = .ok (.ireturn, 1) := by decide +kernel
theorem dL_law_769 : decode cL_law 769 = .ok (.aload_n 1, 1) := by decide +kernel
theorem dL_law_770 : decode cL_law 770 = .ok (.invokevirtual 116, 3) := by decide +kernel
theorem dL_law_773 : decode cL_law 773 = .ok (.aload_n 2, 1) := by decide +kernel
theorem dL_law_774 : decode cL_law 774 = .ok (.invokevirtual 119, 3) := by decide +kernel
theorem dL_law_777 : decode cL_law 777 = .ok (.if_icmp .eq 106, 3) := by decide +kernel
theorem dL_law_780 : decode cL_law 780 = .ok (.iconst 0, 1) := by decide +kernel
theorem dL_law_781 : decode cL_law 781 = .ok (.ireturn, 1) := by decide +kernel
theorem dL_law_782 : decode cL_law 782 = .ok (.aload_n 1, 1) := by decide +kernel
theorem dL_law_783 : decode cL_law 783 = .ok (.invokevirtual 120, 3) := by decide +kernel
theorem dL_law_786 : decode cL_law 786 = .ok (.aload_n 2, 1) := by decide +kernel
theorem dL_law_787 : decode cL_law 787 = .ok (.invokevirtual 123, 3) := by decide +kernel
theorem dL_law_790 : decode cL_law 790 = .ok (.if_icmp .eq 93, 3) := by decide +kernel
theorem dL_law_793 : decode cL_law 793 = .ok (.iconst 0, 1) := by decide +kernel
theorem dL_law_794 : decode cL_law 794 = .ok (.ireturn, 1) := by decide +kernel
theorem dL_law_795 : decode cL_law 795 = .ok (.aload_n 1, 1) := by decide +kernel
theorem dL_law_796 : decode cL_law 796 = .ok (.invokevirtual 124, 3) := by decide +kernel
theorem dL_law_799 : decode cL_law 799 = .ok (.aload_n 2, 1) := by decide +kernel
theorem dL_law_800 : decode cL_law 800 = .ok (.invokevirtual 127, 3) := by decide +kernel
theorem dL_law_803 : decode cL_law 803 = .ok (.if_icmp .eq 80, 3) := by decide +kernel
theorem dL_law_806 : decode cL_law 806 = .ok (.iconst 0, 1) := by decide +kernel
theorem dL_law_807 : decode cL_law 807 = .ok (.ireturn, 1) := by decide +kernel
theorem dL_law_808 : decode cL_law 808 = .ok (.aload_n 1, 1) := by decide +kernel
theorem dL_law_809 : decode cL_law 809 = .ok (.aload_n 0, 1) := by decide +kernel
theorem dL_law_810 : decode cL_law 810 = .ok (.iload 4, 2) := by decide +kernel
theorem dL_law_812 : decode cL_law 812 = .ok (.iconst 1, 1) := by decide +kernel
theorem dL_law_813 : decode cL_law 813 = .ok (.iadd, 1) := by decide +kernel
theorem dL_law_814 : decode cL_law 814 = .ok (.iaload, 1) := by decide +kernel
theorem dL_law_815 : decode cL_law 815 = .ok (.aload_n 0, 1) := by decide +kernel
theorem dL_law_816 : decode cL_law 816 = .ok (.iload 4, 2) := by decide +kernel
theorem dL_law_818 : decode cL_law 818 = .ok (.iconst 2, 1) := by decide +kernel
theorem dL_law_819 : decode cL_law 819 = .ok (.iadd, 1) := by decide +kernel
theorem dL_law_820 : decode cL_law 820 = .ok (.iaload, 1) := by decide +kernel
theorem dL_law_821 : decode cL_law 821 = .ok (.aload_n 3, 1) := by decide +kernel
theorem dL_law_822 : decode cL_law 822 = .ok (.invokestatic 128, 3) := by decide +kernel
theorem dL_law_825 : decode cL_law 825 = .ok (.istore 5, 2) := by decide +kernel
theorem dL_law_827 : decode cL_law 827 = .ok (.aload_n 2, 1) := by decide +kernel
theorem dL_law_828 : decode cL_law 828 = .ok (.aload_n 0, 1) := by decide +kernel
theorem dL_law_829 : decode cL_law 829 = .ok (.iload 4, 2) := by decide +kernel
theorem dL_law_831 : decode cL_law 831 = .ok (.iconst 1, 1) := by decide +kernel
theorem dL_law_832 : decode cL_law 832 = .ok (.iadd, 1) := by decide +kernel
theorem dL_law_833 : decode cL_law 833 = .ok (.iaload, 1) := by decide +kernel
theorem dL_law_834 : decode cL_law 834 = .ok (.aload_n 0, 1) := by decide +kernel
theorem dL_law_835 : decode cL_law 835 = .ok (.iload 4, 2) := by decide +kernel
theorem dL_law_837 : decode cL_law 837 = .ok (.iconst 2, 1) := by decide +kernel
theorem dL_law_838 : decode cL_law 838 = .ok (.iadd, 1) := by decide +kernel
theorem dL_law_839 : decode cL_law 839 = .ok (.iaload, 1) := by decide +kernel
theorem dL_law_840 : decode cL_law 840 = .ok (.invokevirtual 130, 3) := by decide +kernel
theorem dL_law_843 : decode cL_law 843 = .ok (.istore 6, 2) := by decide +kernel
theorem dL_law_845 : decode cL_law 845 = .ok (.aload_n 2, 1) := by decide +kernel
theorem dL_law_846 : decode cL_law 846 = .ok (.invokevirtual 58, 3) := by decide +kernel
theorem dL_law_849 : decode cL_law 849 = .ok (.iload 5, 2) := by decide +kernel
theorem dL_law_851 : decode cL_law 851 = .ok (.if_icmp .eq 5, 3) := by decide +kernel
theorem dL_law_854 : decode cL_law 854 = .ok (.iconst 0, 1) := by decide +kernel
theorem dL_law_855 : decode cL_law 855 = .ok (.ireturn, 1) := by decide +kernel
theorem dL_law_856 : decode cL_law 856 = .ok (.iload 5, 2) := by decide +kernel
theorem dL_law_858 : decode cL_law 858 = .ok (.ifCond .ne 22, 3) := by decide +kernel
theorem dL_law_861 : decode cL_law 861 = .ok (.aload_n 3, 1) := by decide +kernel
theorem dL_law_862 : decode cL_law 862 = .ok (.iconst 0, 1) := by decide +kernel
theorem dL_law_863 : decode cL_law 863 = .ok (.laload, 1) := by decide +kernel
theorem dL_law_864 : decode cL_law 864 = .ok (.iload 6, 2) := by decide +kernel
theorem dL_law_866 : decode cL_law 866 = .ok (.ifCond .eq 7, 3) := by decide +kernel
theorem dL_law_869 : decode cL_law 869 = .ok (.lconst 1, 1) := by decide +kernel
theorem dL_law_870 : decode cL_law 870 = .ok (.goto 4, 3) := by decide +kernel
theorem dL_law_873 : decode cL_law 873 = .ok (.lconst 0, 1) := by decide +kernel
theorem dL_law_874 : decode cL_law 874 = .ok (.lcmp, 1) := by decide +kernel
theorem dL_law_875 : decode cL_law 875 = .ok (.ifCond .eq 5, 3) := by decide +kernel
theorem dL_law_878 : decode cL_law 878 = .ok (.iconst 0, 1) := by decide +kernel
theorem dL_law_879 : decode cL_law 879 = .ok (.ireturn, 1) := by decide +kernel
theorem dL_law_880 : decode cL_law 880 = .ok (.goto 3, 3) := by decide +kernel
theorem dL_law_883 : decode cL_law 883 = .ok (.iinc 4 5, 3) := by decide +kernel
theorem dL_law_886 : decode cL_law 886 = .ok (.goto (-863), 3) := by decide +kernel
theorem dL_law_889 : decode cL_law 889 = .ok (.iconst 1, 1) := by decide +kernel
theorem dL_law_890 : decode cL_law 890 = .ok (.ireturn, 1) := by decide +kernel
/-! ===== END printed: names ===== -/
