theorem dL_drawn_0 : decode cL_drawn 0 = .ok (.iload_n 1, 1) := by decide +kernel
theorem dL_drawn_1 : decode cL_drawn 1 = .ok (.aload_n 0, 1) := by decide +kernel
theorem dL_drawn_2 : decode cL_drawn 2 = .ok (.arraylength, 1) := by decide +kernel
theorem dL_drawn_3 : decode cL_drawn 3 = .ok (.if_icmp .ge 9, 3) := by decide +kernel
theorem dL_drawn_6 : decode cL_drawn 6 = .ok (.aload_n 0, 1) := by decide +kernel
theorem dL_drawn_7 : decode cL_drawn 7 = .ok (.iload_n 1, 1) := by decide +kernel
theorem dL_drawn_8 : decode cL_drawn 8 = .ok (.iaload, 1) := by decide +kernel
theorem dL_drawn_9 : decode cL_drawn 9 = .ok (.goto 11, 3) := by decide +kernel
theorem dL_drawn_12 : decode cL_drawn 12 = .ok (.ldc 7, 2) := by decide +kernel
theorem dL_drawn_14 : decode cL_drawn 14 = .ok (.iload_n 1, 1) := by decide +kernel
theorem dL_drawn_15 : decode cL_drawn 15 = .ok (.imul, 1) := by decide +kernel
theorem dL_drawn_16 : decode cL_drawn 16 = .ok (.sipush 18457, 3) := by decide +kernel
theorem dL_drawn_19 : decode cL_drawn 19 = .ok (.iadd, 1) := by decide +kernel
theorem dL_drawn_20 : decode cL_drawn 20 = .ok (.istore_n 3, 1) := by decide +kernel
theorem dL_drawn_21 : decode cL_drawn 21 = .ok (.iload_n 3, 1) := by decide +kernel
theorem dL_drawn_22 : decode cL_drawn 22 = .ok (.iconst 1, 1) := by decide +kernel
theorem dL_drawn_23 : decode cL_drawn 23 = .ok (.iushr, 1) := by decide +kernel
theorem dL_drawn_24 : decode cL_drawn 24 = .ok (.iload_n 2, 1) := by decide +kernel
theorem dL_drawn_25 : decode cL_drawn 25 = .ok (.irem, 1) := by decide +kernel
theorem dL_drawn_26 : decode cL_drawn 26 = .ok (.ireturn, 1) := by decide +kernel
set_option maxRecDepth 20000 in
theorem ggL_filled_X2_at : GoodIn wsL_filled wsX2_at := goodIn_ca (goodIn_r _ [5, 6, 7, 8, 9, 10, 11, 4, 12, 13, 14, 15, 16, 17, 18, 19, 20, 21, 22, 23, 24, 25, 26, 27, 28, 29, 30, 31, 32, 33, 34, 35, 36, 37, 38, 39, 40, 41, 42, 43, 44, 45, 46] (by decide +kernel) (by decide +kernel)) (goodIn_sub (fun _ h => List.mem_cons_of_mem _ (List.mem_append_right _ h)) (by decide +kernel))
set_option maxRecDepth 20000 in
theorem gL_filled_X2_at : GoodIn wsL_filled (wsV RL 8 RX2 yX2_at wsX2_at) := goodIn_app (goodIn_of _ (by decide +kernel)) ggL_filled_X2_at
theorem dL_filled_0 : decode cL_filled 0 = .ok (.iconst 0, 1) := by decide +kernel
theorem dL_filled_1 : decode cL_filled 1 = .ok (.istore_n 2, 1) := by decide +kernel
theorem dL_filled_2 : decode cL_filled 2 = .ok (.iconst 0, 1) := by decide +kernel
theorem dL_filled_3 : decode cL_filled 3 = .ok (.istore_n 3, 1) := by decide +kernel
theorem dL_filled_4 : decode cL_filled 4 = .ok (.iload_n 3, 1) := by decide +kernel
theorem dL_filled_5 : decode cL_filled 5 = .ok (.bipush 36, 2) := by decide +kernel
theorem dL_filled_7 : decode cL_filled 7 = .ok (.if_icmp .ge 33, 3) := by decide +kernel
theorem dL_filled_10 : decode cL_filled 10 = .ok (.iload_n 2, 1) := by decide +kernel
theorem dL_filled_11 : decode cL_filled 11 = .ok (.aload_n 0, 1) := by decide +kernel
theorem dL_filled_12 : decode cL_filled 12 = .ok (.iload_n 3, 1) := by decide +kernel
theorem dL_filled_13 : decode cL_filled 13 = .ok (.bipush 6, 2) := by decide +kernel
theorem dL_filled_15 : decode cL_filled 15 = .ok (.idiv, 1) := by decide +kernel
theorem dL_filled_16 : decode cL_filled 16 = .ok (.iload_n 3, 1) := by decide +kernel
theorem dL_filled_17 : decode cL_filled 17 = .ok (.bipush 6, 2) := by decide +kernel
theorem dL_filled_19 : decode cL_filled 19 = .ok (.irem, 1) := by decide +kernel
theorem dL_filled_20 : decode cL_filled 20 = .ok (.invokevirtual 8, 3) := by decide +kernel
theorem dL_filled_23 : decode cL_filled 23 = .ok (.iload_n 1, 1) := by decide +kernel
theorem dL_filled_24 : decode cL_filled 24 = .ok (.if_icmp .ne 7, 3) := by decide +kernel
theorem dL_filled_27 : decode cL_filled 27 = .ok (.iconst 1, 1) := by decide +kernel
theorem dL_filled_28 : decode cL_filled 28 = .ok (.goto 4, 3) := by decide +kernel
theorem dL_filled_31 : decode cL_filled 31 = .ok (.iconst 0, 1) := by decide +kernel
theorem dL_filled_32 : decode cL_filled 32 = .ok (.iadd, 1) := by decide +kernel
theorem dL_filled_33 : decode cL_filled 33 = .ok (.istore_n 2, 1) := by decide +kernel
theorem dL_filled_34 : decode cL_filled 34 = .ok (.iinc 3 1, 3) := by decide +kernel
theorem dL_filled_37 : decode cL_filled 37 = .ok (.goto (-33), 3) := by decide +kernel
theorem dL_filled_40 : decode cL_filled 40 = .ok (.iload_n 2, 1) := by decide +kernel
theorem dL_filled_41 : decode cL_filled 41 = .ok (.ireturn, 1) := by decide +kernel
set_option maxRecDepth 20000 in
theorem ggL_isWhole_X2_vehicles : GoodIn wsL_isWhole wsX2_vehicles := goodIn_r _ [5, 6, 7, 8, 9, 10, 11, 12, 99, 100, 101, 102, 103, 104, 105, 106, 107, 108, 109, 110, 111] (by decide +kernel) (by decide +kernel)
set_option maxRecDepth 20000 in
theorem gL_isWhole_X2_vehicles : GoodIn wsL_isWhole (wsV RL 14 RX2 yX2_vehicles wsX2_vehicles) := goodIn_app (goodIn_of _ (by decide +kernel)) ggL_isWhole_X2_vehicles
set_option maxRecDepth 20000 in
theorem ggL_isWhole_L_filled : GoodIn wsL_isWhole wsL_filled := goodIn_ca (goodIn_r _ [16, 17, 18, 19, 4, 20, 21, 22, 6, 23, 24, 25, 26, 27, 28, 29, 30, 31, 32, 10, 33, 12, 34, 35, 36, 37, 38, 39, 40, 41, 42, 43, 44, 45, 99, 100, 101, 102, 103, 104, 105, 106, 107, 108, 109, 110, 111] (by decide +kernel) (by decide +kernel)) (goodIn_sub (fun _ h => List.mem_cons_of_mem _ (List.mem_append_left _ (List.mem_append_right _ h))) (by decide +kernel))
set_option maxRecDepth 20000 in
theorem gL_isWhole_L_filled : GoodIn wsL_isWhole (va_wsS RL 18 yL_filled wsL_filled) := goodIn_app (goodIn_of _ (by decide +kernel)) ggL_isWhole_L_filled
set_option maxRecDepth 20000 in
theorem ggL_isWhole_X2_rowOf : GoodIn wsL_isWhole wsX2_rowOf := goodIn_ca (goodIn_r _ [49, 50, 51, 6, 23, 52, 41, 42, 10, 43, 12, 53, 54, 55, 56, 38, 40, 57, 58, 59, 60, 61, 62, 44, 4, 45, 99, 100, 101, 102, 103, 104, 105, 106, 107, 108, 109, 110, 111] (by decide +kernel) (by decide +kernel)) (goodIn_sub (fun _ h => List.mem_cons_of_mem _ (List.mem_append_right _ h)) (by decide +kernel))
set_option maxRecDepth 20000 in
theorem gL_isWhole_X2_rowOf : GoodIn wsL_isWhole (wsV RL 24 RX2 yX2_rowOf wsX2_rowOf) := goodIn_app (goodIn_of _ (by decide +kernel)) ggL_isWhole_X2_rowOf
set_option maxRecDepth 20000 in
theorem ggL_isWhole_X2_columnOf : GoodIn wsL_isWhole wsX2_columnOf := goodIn_ca (goodIn_r _ [66, 50, 51, 6, 23, 52, 41, 42, 10, 43, 12, 53, 54, 55, 56, 38, 40, 62, 44, 4, 45, 57, 58, 59, 60, 61, 99, 100, 101, 102, 103, 104, 105, 106, 107, 108, 109, 110, 111] (by decide +kernel) (by decide +kernel)) (goodIn_sub (fun _ h => List.mem_cons_of_mem _ (List.mem_append_right _ h)) (by decide +kernel))
set_option maxRecDepth 20000 in
theorem gL_isWhole_X2_columnOf : GoodIn wsL_isWhole (wsV RL 28 RX2 yX2_columnOf wsX2_columnOf) := goodIn_app (goodIn_of _ (by decide +kernel)) ggL_isWhole_X2_columnOf
set_option maxRecDepth 20000 in
theorem ggL_isWhole_X2_freeWay : GoodIn wsL_isWhole wsX2_freeWay := goodIn_ca (goodIn_r _ [70, 50, 51, 6, 52, 41, 42, 10, 43, 12, 71, 72, 73, 4, 74, 23, 75, 76, 77, 78, 34, 35, 36, 37, 38, 39, 40, 44, 45, 79, 80, 81, 82, 83, 84, 85, 86, 87, 88, 89, 99, 100, 101, 102, 103, 104, 105, 106, 107, 108, 109, 110, 111] (by decide +kernel) (by decide +kernel)) (goodIn_sub (fun _ h => List.mem_cons_of_mem _ (List.mem_append_right _ h)) (by decide +kernel))
set_option maxRecDepth 20000 in
theorem gL_isWhole_X2_freeWay : GoodIn wsL_isWhole (wsV RL 31 RX2 yX2_freeWay wsX2_freeWay) := goodIn_app (goodIn_of _ (by decide +kernel)) ggL_isWhole_X2_freeWay
set_option maxRecDepth 20000 in
theorem ggL_isWhole_X2_at : GoodIn wsL_isWhole wsX2_at := goodIn_ca (goodIn_r _ [20, 21, 22, 6, 23, 24, 25, 4, 26, 27, 28, 29, 30, 31, 32, 10, 33, 12, 34, 35, 36, 37, 38, 39, 40, 41, 42, 43, 44, 45, 99, 100, 101, 102, 103, 104, 105, 106, 107, 108, 109, 110, 111] (by decide +kernel) (by decide +kernel)) (goodIn_sub (fun _ h => List.mem_cons_of_mem _ (List.mem_append_left _ (List.mem_append_right _ h))) (by decide +kernel))
set_option maxRecDepth 20000 in
theorem gL_isWhole_X2_at : GoodIn wsL_isWhole (wsV RL 8 RX2 yX2_at wsX2_at) := goodIn_app (goodIn_of _ (by decide +kernel)) ggL_isWhole_X2_at
set_option maxRecDepth 20000 in
theorem ggL_isWhole_X2_isSolved : GoodIn wsL_isWhole wsX2_isSolved := goodIn_r _ [93, 23, 62, 44, 4, 45, 99, 100, 101, 102, 103, 104, 105] (by decide +kernel) (by decide +kernel)
set_option maxRecDepth 20000 in
theorem gL_isWhole_X2_isSolved : GoodIn wsL_isWhole (wsV RL 35 RX2 yX2_isSolved wsX2_isSolved) := goodIn_app (goodIn_of _ (by decide +kernel)) ggL_isWhole_X2_isSolved
set_option maxRecDepth 20000 in
theorem ggL_isWhole_X2_inTheWay : GoodIn wsL_isWhole wsX2_inTheWay := goodIn_r _ [97, 23, 6, 62, 44, 4, 45, 27, 28, 29, 7, 8, 9, 10, 11, 12, 98, 35, 36, 37, 38, 39, 40, 41, 42, 43, 99, 100, 101, 102, 103, 104, 105, 106, 107, 108, 109, 110, 111] (by decide +kernel) (by decide +kernel)
set_option maxRecDepth 20000 in
theorem gL_isWhole_X2_inTheWay : GoodIn wsL_isWhole (wsV RL 39 RX2 yX2_inTheWay wsX2_inTheWay) := goodIn_app (goodIn_of _ (by decide +kernel)) ggL_isWhole_X2_inTheWay
theorem dL_isWhole_0 : decode cL_isWhole 0 = .ok (.aload_n 0, 1) := by decide +kernel
theorem dL_isWhole_1 : decode cL_isWhole 1 = .ok (.aload_n 0, 1) := by decide +kernel
theorem dL_isWhole_2 : decode cL_isWhole 2 = .ok (.invokevirtual 14, 3) := by decide +kernel
theorem dL_isWhole_5 : decode cL_isWhole 5 = .ok (.invokestatic 18, 3) := by decide +kernel
theorem dL_isWhole_8 : decode cL_isWhole 8 = .ok (.ifCond .ne 7, 3) := by decide +kernel
theorem dL_isWhole_11 : decode cL_isWhole 11 = .ok (.iconst 1, 1) := by decide +kernel
theorem dL_isWhole_12 : decode cL_isWhole 12 = .ok (.goto 4, 3) := by decide +kernel
theorem dL_isWhole_15 : decode cL_isWhole 15 = .ok (.iconst 0, 1) := by decide +kernel
theorem dL_isWhole_16 : decode cL_isWhole 16 = .ok (.istore 4, 2) := by decide +kernel
theorem dL_isWhole_18 : decode cL_isWhole 18 = .ok (.iconst 0, 1) := by decide +kernel
theorem dL_isWhole_19 : decode cL_isWhole 19 = .ok (.istore 5, 2) := by decide +kernel
theorem dL_isWhole_21 : decode cL_isWhole 21 = .ok (.iload 5, 2) := by decide +kernel
theorem dL_isWhole_23 : decode cL_isWhole 23 = .ok (.aload_n 0, 1) := by decide +kernel
theorem dL_isWhole_24 : decode cL_isWhole 24 = .ok (.invokevirtual 14, 3) := by decide +kernel
theorem dL_isWhole_27 : decode cL_isWhole 27 = .ok (.if_icmp .ge 227, 3) := by decide +kernel
theorem dL_isWhole_30 : decode cL_isWhole 30 = .ok (.aload_n 0, 1) := by decide +kernel
theorem dL_isWhole_31 : decode cL_isWhole 31 = .ok (.iload 5, 2) := by decide +kernel
theorem dL_isWhole_33 : decode cL_isWhole 33 = .ok (.invokevirtual 24, 3) := by decide +kernel
theorem dL_isWhole_36 : decode cL_isWhole 36 = .ok (.istore 6, 2) := by decide +kernel
theorem dL_isWhole_38 : decode cL_isWhole 38 = .ok (.aload_n 0, 1) := by decide +kernel
theorem dL_isWhole_39 : decode cL_isWhole 39 = .ok (.iload 5, 2) := by decide +kernel
theorem dL_isWhole_41 : decode cL_isWhole 41 = .ok (.invokevirtual 28, 3) := by decide +kernel
theorem dL_isWhole_44 : decode cL_isWhole 44 = .ok (.istore 7, 2) := by decide +kernel
theorem dL_isWhole_46 : decode cL_isWhole 46 = .ok (.aload_n 0, 1) := by decide +kernel
theorem dL_isWhole_47 : decode cL_isWhole 47 = .ok (.iload 5, 2) := by decide +kernel
theorem dL_isWhole_49 : decode cL_isWhole 49 = .ok (.iconst 1, 1) := by decide +kernel
theorem dL_isWhole_50 : decode cL_isWhole 50 = .ok (.invokevirtual 31, 3) := by decide +kernel
theorem dL_isWhole_53 : decode cL_isWhole 53 = .ok (.istore 8, 2) := by decide +kernel
theorem dL_isWhole_55 : decode cL_isWhole 55 = .ok (.aload_n 0, 1) := by decide +kernel
theorem dL_isWhole_56 : decode cL_isWhole 56 = .ok (.iload 5, 2) := by decide +kernel
theorem dL_isWhole_58 : decode cL_isWhole 58 = .ok (.iconst 0, 1) := by decide +kernel
theorem dL_isWhole_59 : decode cL_isWhole 59 = .ok (.invokevirtual 31, 3) := by decide +kernel
theorem dL_isWhole_62 : decode cL_isWhole 62 = .ok (.istore 9, 2) := by decide +kernel
theorem dL_isWhole_64 : decode cL_isWhole 64 = .ok (.iload 4, 2) := by decide +kernel
theorem dL_isWhole_66 : decode cL_isWhole 66 = .ok (.ifCond .eq 35, 3) := by decide +kernel
theorem dL_isWhole_69 : decode cL_isWhole 69 = .ok (.aload_n 0, 1) := by decide +kernel
theorem dL_isWhole_70 : decode cL_isWhole 70 = .ok (.iload 5, 2) := by decide +kernel
theorem dL_isWhole_72 : decode cL_isWhole 72 = .ok (.invokestatic 18, 3) := by decide +kernel
theorem dL_isWhole_75 : decode cL_isWhole 75 = .ok (.aload_n 1, 1) := by decide +kernel
theorem dL_isWhole_76 : decode cL_isWhole 76 = .ok (.iload 5, 2) := by decide +kernel
theorem dL_isWhole_78 : decode cL_isWhole 78 = .ok (.iaload, 1) := by decide +kernel
theorem dL_isWhole_79 : decode cL_isWhole 79 = .ok (.if_icmp .ne 22, 3) := by decide +kernel
theorem dL_isWhole_82 : decode cL_isWhole 82 = .ok (.iload 8, 2) := by decide +kernel
theorem dL_isWhole_84 : decode cL_isWhole 84 = .ok (.iload 9, 2) := by decide +kernel
theorem dL_isWhole_86 : decode cL_isWhole 86 = .ok (.iadd, 1) := by decide +kernel
theorem dL_isWhole_87 : decode cL_isWhole 87 = .ok (.aload_n 1, 1) := by decide +kernel
theorem dL_isWhole_88 : decode cL_isWhole 88 = .ok (.iload 5, 2) := by decide +kernel
theorem dL_isWhole_90 : decode cL_isWhole 90 = .ok (.iaload, 1) := by decide +kernel
theorem dL_isWhole_91 : decode cL_isWhole 91 = .ok (.iadd, 1) := by decide +kernel
theorem dL_isWhole_92 : decode cL_isWhole 92 = .ok (.bipush 6, 2) := by decide +kernel
theorem dL_isWhole_94 : decode cL_isWhole 94 = .ok (.if_icmp .gt 7, 3) := by decide +kernel
theorem dL_isWhole_97 : decode cL_isWhole 97 = .ok (.iconst 1, 1) := by decide +kernel
theorem dL_isWhole_98 : decode cL_isWhole 98 = .ok (.goto 4, 3) := by decide +kernel
theorem dL_isWhole_101 : decode cL_isWhole 101 = .ok (.iconst 0, 1) := by decide +kernel
theorem dL_isWhole_102 : decode cL_isWhole 102 = .ok (.istore 4, 2) := by decide +kernel
theorem dL_isWhole_104 : decode cL_isWhole 104 = .ok (.iload 9, 2) := by decide +kernel
theorem dL_isWhole_106 : decode cL_isWhole 106 = .ok (.ineg, 1) := by decide +kernel
theorem dL_isWhole_107 : decode cL_isWhole 107 = .ok (.istore 10, 2) := by decide +kernel
theorem dL_isWhole_109 : decode cL_isWhole 109 = .ok (.iload 10, 2) := by decide +kernel
theorem dL_isWhole_111 : decode cL_isWhole 111 = .ok (.aload_n 1, 1) := by decide +kernel
theorem dL_isWhole_112 : decode cL_isWhole 112 = .ok (.iload 5, 2) := by decide +kernel
theorem dL_isWhole_114 : decode cL_isWhole 114 = .ok (.iaload, 1) := by decide +kernel
theorem dL_isWhole_115 : decode cL_isWhole 115 = .ok (.iload 8, 2) := by decide +kernel
theorem dL_isWhole_117 : decode cL_isWhole 117 = .ok (.iadd, 1) := by decide +kernel
theorem dL_isWhole_118 : decode cL_isWhole 118 = .ok (.if_icmp .ge 130, 3) := by decide +kernel
theorem dL_isWhole_121 : decode cL_isWhole 121 = .ok (.aload_n 2, 1) := by decide +kernel
theorem dL_isWhole_122 : decode cL_isWhole 122 = .ok (.iload 5, 2) := by decide +kernel
theorem dL_isWhole_124 : decode cL_isWhole 124 = .ok (.iaload, 1) := by decide +kernel
theorem dL_isWhole_125 : decode cL_isWhole 125 = .ok (.iconst 1, 1) := by decide +kernel
theorem dL_isWhole_126 : decode cL_isWhole 126 = .ok (.if_icmp .ne 17, 3) := by decide +kernel
theorem dL_isWhole_129 : decode cL_isWhole 129 = .ok (.aload_n 0, 1) := by decide +kernel
theorem dL_isWhole_130 : decode cL_isWhole 130 = .ok (.iload 6, 2) := by decide +kernel
theorem dL_isWhole_132 : decode cL_isWhole 132 = .ok (.iload 7, 2) := by decide +kernel
theorem dL_isWhole_134 : decode cL_isWhole 134 = .ok (.iload 10, 2) := by decide +kernel
theorem dL_isWhole_136 : decode cL_isWhole 136 = .ok (.iadd, 1) := by decide +kernel
theorem dL_isWhole_137 : decode cL_isWhole 137 = .ok (.invokevirtual 8, 3) := by decide +kernel
theorem dL_isWhole_140 : decode cL_isWhole 140 = .ok (.goto 14, 3) := by decide +kernel
theorem dL_isWhole_143 : decode cL_isWhole 143 = .ok (.aload_n 0, 1) := by decide +kernel
theorem dL_isWhole_144 : decode cL_isWhole 144 = .ok (.iload 6, 2) := by decide +kernel
theorem dL_isWhole_146 : decode cL_isWhole 146 = .ok (.iload 10, 2) := by decide +kernel
theorem dL_isWhole_148 : decode cL_isWhole 148 = .ok (.iadd, 1) := by decide +kernel
theorem dL_isWhole_149 : decode cL_isWhole 149 = .ok (.iload 7, 2) := by decide +kernel
theorem dL_isWhole_151 : decode cL_isWhole 151 = .ok (.invokevirtual 8, 3) := by decide +kernel
theorem dL_isWhole_154 : decode cL_isWhole 154 = .ok (.istore 11, 2) := by decide +kernel
theorem dL_isWhole_156 : decode cL_isWhole 156 = .ok (.aload_n 2, 1) := by decide +kernel
theorem dL_isWhole_157 : decode cL_isWhole 157 = .ok (.iload 5, 2) := by decide +kernel
theorem dL_isWhole_159 : decode cL_isWhole 159 = .ok (.iaload, 1) := by decide +kernel
theorem dL_isWhole_160 : decode cL_isWhole 160 = .ok (.iconst 1, 1) := by decide +kernel
theorem dL_isWhole_161 : decode cL_isWhole 161 = .ok (.if_icmp .ne 17, 3) := by decide +kernel
theorem dL_isWhole_164 : decode cL_isWhole 164 = .ok (.bipush 6, 2) := by decide +kernel
theorem dL_isWhole_166 : decode cL_isWhole 166 = .ok (.iload 6, 2) := by decide +kernel
theorem dL_isWhole_168 : decode cL_isWhole 168 = .ok (.imul, 1) := by decide +kernel
theorem dL_isWhole_169 : decode cL_isWhole 169 = .ok (.iload 7, 2) := by decide +kernel
theorem dL_isWhole_171 : decode cL_isWhole 171 = .ok (.iadd, 1) := by decide +kernel
theorem dL_isWhole_172 : decode cL_isWhole 172 = .ok (.iload 10, 2) := by decide +kernel
theorem dL_isWhole_174 : decode cL_isWhole 174 = .ok (.iadd, 1) := by decide +kernel
theorem dL_isWhole_175 : decode cL_isWhole 175 = .ok (.goto 14, 3) := by decide +kernel
theorem dL_isWhole_178 : decode cL_isWhole 178 = .ok (.bipush 6, 2) := by decide +kernel
theorem dL_isWhole_180 : decode cL_isWhole 180 = .ok (.iload 6, 2) := by decide +kernel
theorem dL_isWhole_182 : decode cL_isWhole 182 = .ok (.iload 10, 2) := by decide +kernel
theorem dL_isWhole_184 : decode cL_isWhole 184 = .ok (.iadd, 1) := by decide +kernel
theorem dL_isWhole_185 : decode cL_isWhole 185 = .ok (.imul, 1) := by decide +kernel
theorem dL_isWhole_186 : decode cL_isWhole 186 = .ok (.iload 7, 2) := by decide +kernel
theorem dL_isWhole_188 : decode cL_isWhole 188 = .ok (.iadd, 1) := by decide +kernel
theorem dL_isWhole_189 : decode cL_isWhole 189 = .ok (.istore 12, 2) := by decide +kernel
theorem dL_isWhole_191 : decode cL_isWhole 191 = .ok (.iload 4, 2) := by decide +kernel
theorem dL_isWhole_193 : decode cL_isWhole 193 = .ok (.ifCond .eq 46, 3) := by decide +kernel
theorem dL_isWhole_196 : decode cL_isWhole 196 = .ok (.iload 11, 2) := by decide +kernel
theorem dL_isWhole_198 : decode cL_isWhole 198 = .ok (.iload 10, 2) := by decide +kernel
theorem dL_isWhole_200 : decode cL_isWhole 200 = .ok (.ifCond .lt 12, 3) := by decide +kernel
theorem dL_isWhole_203 : decode cL_isWhole 203 = .ok (.iload 10, 2) := by decide +kernel
theorem dL_isWhole_205 : decode cL_isWhole 205 = .ok (.aload_n 1, 1) := by decide +kernel
theorem dL_isWhole_206 : decode cL_isWhole 206 = .ok (.iload 5, 2) := by decide +kernel
theorem dL_isWhole_208 : decode cL_isWhole 208 = .ok (.iaload, 1) := by decide +kernel
theorem dL_isWhole_209 : decode cL_isWhole 209 = .ok (.if_icmp .lt 7, 3) := by decide +kernel
theorem dL_isWhole_212 : decode cL_isWhole 212 = .ok (.iconst (-1), 1) := by decide +kernel
theorem dL_isWhole_213 : decode cL_isWhole 213 = .ok (.goto 5, 3) := by decide +kernel
theorem dL_isWhole_216 : decode cL_isWhole 216 = .ok (.iload 5, 2) := by decide +kernel
theorem dL_isWhole_218 : decode cL_isWhole 218 = .ok (.if_icmp .ne 21, 3) := by decide +kernel
theorem dL_isWhole_221 : decode cL_isWhole 221 = .ok (.aload_n 1, 1) := by decide +kernel
theorem dL_isWhole_222 : decode cL_isWhole 222 = .ok (.iload 5, 2) := by decide +kernel
theorem dL_isWhole_224 : decode cL_isWhole 224 = .ok (.iaload, 1) := by decide +kernel
theorem dL_isWhole_225 : decode cL_isWhole 225 = .ok (.iconst 2, 1) := by decide +kernel
theorem dL_isWhole_226 : decode cL_isWhole 226 = .ok (.if_icmp .eq 9, 3) := by decide +kernel
theorem dL_isWhole_229 : decode cL_isWhole 229 = .ok (.iload 12, 2) := by decide +kernel
theorem dL_isWhole_231 : decode cL_isWhole 231 = .ok (.iload_n 3, 1) := by decide +kernel
theorem dL_isWhole_232 : decode cL_isWhole 232 = .ok (.if_icmp .eq 7, 3) := by decide +kernel
theorem dL_isWhole_235 : decode cL_isWhole 235 = .ok (.iconst 1, 1) := by decide +kernel
theorem dL_isWhole_236 : decode cL_isWhole 236 = .ok (.goto 4, 3) := by decide +kernel
theorem dL_isWhole_239 : decode cL_isWhole 239 = .ok (.iconst 0, 1) := by decide +kernel
theorem dL_isWhole_240 : decode cL_isWhole 240 = .ok (.istore 4, 2) := by decide +kernel
theorem dL_isWhole_242 : decode cL_isWhole 242 = .ok (.iinc 10 1, 3) := by decide +kernel
theorem dL_isWhole_245 : decode cL_isWhole 245 = .ok (.goto (-136), 3) := by decide +kernel
theorem dL_isWhole_248 : decode cL_isWhole 248 = .ok (.iinc 5 1, 3) := by decide +kernel
theorem dL_isWhole_251 : decode cL_isWhole 251 = .ok (.goto (-230), 3) := by decide +kernel
theorem dL_isWhole_254 : decode cL_isWhole 254 = .ok (.iload 4, 2) := by decide +kernel
theorem dL_isWhole_256 : decode cL_isWhole 256 = .ok (.ifCond .eq 62, 3) := by decide +kernel
theorem dL_isWhole_259 : decode cL_isWhole 259 = .ok (.aload_n 0, 1) := by decide +kernel
theorem dL_isWhole_260 : decode cL_isWhole 260 = .ok (.invokevirtual 35, 3) := by decide +kernel
theorem dL_isWhole_263 : decode cL_isWhole 263 = .ok (.aload_n 0, 1) := by decide +kernel
theorem dL_isWhole_264 : decode cL_isWhole 264 = .ok (.iconst 0, 1) := by decide +kernel
theorem dL_isWhole_265 : decode cL_isWhole 265 = .ok (.invokevirtual 28, 3) := by decide +kernel
theorem dL_isWhole_268 : decode cL_isWhole 268 = .ok (.iconst 4, 1) := by decide +kernel
theorem dL_isWhole_269 : decode cL_isWhole 269 = .ok (.if_icmp .ne 7, 3) := by decide +kernel
theorem dL_isWhole_272 : decode cL_isWhole 272 = .ok (.iconst 1, 1) := by decide +kernel
theorem dL_isWhole_273 : decode cL_isWhole 273 = .ok (.goto 4, 3) := by decide +kernel
theorem dL_isWhole_276 : decode cL_isWhole 276 = .ok (.iconst 0, 1) := by decide +kernel
theorem dL_isWhole_277 : decode cL_isWhole 277 = .ok (.if_icmp .ne 41, 3) := by decide +kernel
theorem dL_isWhole_280 : decode cL_isWhole 280 = .ok (.aload_n 0, 1) := by decide +kernel
theorem dL_isWhole_281 : decode cL_isWhole 281 = .ok (.iconst 0, 1) := by decide +kernel
theorem dL_isWhole_282 : decode cL_isWhole 282 = .ok (.invokevirtual 24, 3) := by decide +kernel
theorem dL_isWhole_285 : decode cL_isWhole 285 = .ok (.iconst 2, 1) := by decide +kernel
theorem dL_isWhole_286 : decode cL_isWhole 286 = .ok (.if_icmp .ne 32, 3) := by decide +kernel
theorem dL_isWhole_289 : decode cL_isWhole 289 = .ok (.aload_n 0, 1) := by decide +kernel
theorem dL_isWhole_290 : decode cL_isWhole 290 = .ok (.invokevirtual 39, 3) := by decide +kernel
theorem dL_isWhole_293 : decode cL_isWhole 293 = .ok (.aload_n 0, 1) := by decide +kernel
theorem dL_isWhole_294 : decode cL_isWhole 294 = .ok (.invokevirtual 14, 3) := by decide +kernel
theorem dL_isWhole_297 : decode cL_isWhole 297 = .ok (.if_icmp .ge 21, 3) := by decide +kernel
theorem dL_isWhole_300 : decode cL_isWhole 300 = .ok (.aload_n 0, 1) := by decide +kernel
theorem dL_isWhole_301 : decode cL_isWhole 301 = .ok (.invokevirtual 35, 3) := by decide +kernel
theorem dL_isWhole_304 : decode cL_isWhole 304 = .ok (.ifCond .eq 10, 3) := by decide +kernel
theorem dL_isWhole_307 : decode cL_isWhole 307 = .ok (.aload_n 0, 1) := by decide +kernel
theorem dL_isWhole_308 : decode cL_isWhole 308 = .ok (.invokevirtual 39, 3) := by decide +kernel
theorem dL_isWhole_311 : decode cL_isWhole 311 = .ok (.ifCond .ne 7, 3) := by decide +kernel
theorem dL_isWhole_314 : decode cL_isWhole 314 = .ok (.iconst 1, 1) := by decide +kernel
theorem dL_isWhole_315 : decode cL_isWhole 315 = .ok (.goto 4, 3) := by decide +kernel
theorem dL_isWhole_318 : decode cL_isWhole 318 = .ok (.iconst 0, 1) := by decide +kernel
theorem dL_isWhole_319 : decode cL_isWhole 319 = .ok (.ireturn, 1) := by decide +kernel
set_option maxRecDepth 20000 in
theorem ggL_isStep_X2_fewestMoves : GoodIn wsL_isStep wsX2_fewestMoves := goodIn_r _ [5, 6, 7, 8, 9, 4, 10, 11, 12, 13, 14, 15, 16, 17, 18, 19, 20, 21, 22, 23, 24, 25, 26, 27, 28, 29, 30, 31, 32, 33, 34, 35, 36, 37, 38, 39, 40, 41, 42, 43, 44, 45, 46, 47, 48, 49, 50, 51, 52, 53, 54, 55, 56, 57, 58, 59, 60, 61, 62, 63, 64, 65, 66, 67, 68, 69, 70, 71, 72, 73, 74, 75, 76, 77, 78, 79, 80, 81, 82, 83, 84, 85, 86, 87, 88, 89, 90, 91, 92, 93, 94, 95, 96, 97, 98, 99, 100, 101, 102, 103, 104, 105, 165, 166, 167, 168, 169, 170, 171, 172, 173, 174, 175, 176, 177, 178, 179, 180, 181, 182, 183, 184, 185, 186, 187] (by decide +kernel) (by decide +kernel)
set_option maxRecDepth 20000 in
theorem gL_isStep_X2_fewestMoves : GoodIn wsL_isStep (wsV RL 42 RX2 yX2_fewestMoves wsX2_fewestMoves) := goodIn_app (goodIn_of _ (by decide +kernel)) ggL_isStep_X2_fewestMoves
set_option maxRecDepth 20000 in
theorem ggL_isStep_X2_moves : GoodIn wsL_isStep wsX2_moves := goodIn_r _ [109, 110, 165, 166, 167, 168, 169, 170, 171] (by decide +kernel) (by decide +kernel)
set_option maxRecDepth 20000 in
theorem gL_isStep_X2_moves : GoodIn wsL_isStep (wsV RL 45 RX2 yX2_moves wsX2_moves) := goodIn_app (goodIn_of _ (by decide +kernel)) ggL_isStep_X2_moves
set_option maxRecDepth 20000 in
theorem ggL_isStep_X2_driven : GoodIn wsL_isStep wsX2_driven := goodIn_r _ [114, 115, 165, 166, 167, 168, 169, 170, 171] (by decide +kernel) (by decide +kernel)
set_option maxRecDepth 20000 in
theorem gL_isStep_X2_driven : GoodIn wsL_isStep (wsV RL 48 RX2 yX2_driven wsX2_driven) := goodIn_app (goodIn_of _ (by decide +kernel)) ggL_isStep_X2_driven
set_option maxRecDepth 20000 in
theorem ggL_isStep_X2_drive : GoodIn wsL_isStep wsX2_drive := goodIn_ca (goodIn_ca (goodIn_ca (goodIn_r _ [119, 120, 121, 122, 123, 124, 125, 126, 127, 96, 97, 98, 128, 61, 62, 51, 63, 53, 129, 130, 131, 4, 132, 12, 133, 49, 50, 52, 54, 55, 56, 57, 58, 59, 60, 37, 38, 134, 69, 70, 71, 72, 73, 74, 75, 76, 77, 78, 135, 136, 137, 138, 110, 115, 139, 83, 84, 140, 141, 142, 143, 11, 165, 166, 167, 168, 169, 170, 171, 182, 183, 184, 185, 186, 187] (by decide +kernel) (by decide +kernel)) (goodIn_sub (fun _ h => List.mem_cons_of_mem _ (List.mem_append_left _ (List.mem_append_left _ (List.mem_append_right _ h)))) (by decide +kernel))) (goodIn_sub (fun _ h => List.mem_cons_of_mem _ (List.mem_append_left _ (List.mem_append_right _ h))) (by decide +kernel))) (goodIn_sub (fun _ h => List.mem_cons_of_mem _ (List.mem_append_right _ h)) (by decide +kernel))
set_option maxRecDepth 20000 in
theorem gL_isStep_X2_drive : GoodIn wsL_isStep (wsV RL 51 RX2 yX2_drive wsX2_drive) := goodIn_app (goodIn_of _ (by decide +kernel)) ggL_isStep_X2_drive
set_option maxRecDepth 20000 in
theorem ggL_isStep_X2_positions : GoodIn wsL_isStep wsX2_positions := goodIn_r _ [147, 6, 7, 8, 9, 4, 10, 11, 12, 13, 14, 15, 16, 17, 18, 19, 20, 21, 22, 23, 24, 25, 26, 27, 28, 29, 30, 31, 32, 33, 34, 35, 36, 37, 38, 39, 40, 41, 42, 43, 44, 45, 46, 47, 48, 49, 50, 51, 52, 53, 54, 55, 56, 57, 58, 59, 60, 61, 62, 63, 64, 65, 66, 67, 68, 69, 70, 71, 72, 73, 74, 75, 76, 77, 78, 79, 80, 81, 82, 83, 84, 85, 86, 87, 88, 89, 90, 91, 92, 93, 94, 95, 96, 97, 98, 99, 100, 101, 148, 149, 150, 151, 165, 166, 167, 168, 169, 170, 171, 172, 173, 174, 175, 176, 177, 178, 179, 180, 181, 182, 183, 184, 185, 186, 187] (by decide +kernel) (by decide +kernel)
set_option maxRecDepth 20000 in
theorem gL_isStep_X2_positions : GoodIn wsL_isStep (wsV RL 55 RX2 yX2_positions wsX2_positions) := goodIn_app (goodIn_of _ (by decide +kernel)) ggL_isStep_X2_positions
set_option maxRecDepth 20000 in
theorem ggL_isStep_X2_isSolved : GoodIn wsL_isStep wsX2_isSolved := goodIn_r _ [155, 12, 156, 37, 4, 38, 165, 166, 167, 168, 169, 170, 171] (by decide +kernel) (by decide +kernel)
set_option maxRecDepth 20000 in
theorem gL_isStep_X2_isSolved : GoodIn wsL_isStep (wsV RL 35 RX2 yX2_isSolved wsX2_isSolved) := goodIn_app (goodIn_of _ (by decide +kernel)) ggL_isStep_X2_isSolved
set_option maxRecDepth 20000 in
theorem ggL_isStep_X2_hint : GoodIn wsL_isStep wsX2_hint := goodIn_r _ [160, 6, 7, 8, 9, 4, 10, 11, 12, 13, 14, 15, 16, 17, 18, 19, 20, 21, 22, 23, 24, 25, 26, 27, 28, 29, 30, 31, 32, 33, 34, 35, 36, 37, 38, 39, 40, 41, 42, 43, 44, 45, 46, 47, 48, 49, 50, 51, 52, 53, 54, 55, 56, 57, 58, 59, 60, 61, 62, 63, 64, 65, 66, 67, 68, 69, 70, 71, 72, 73, 74, 75, 76, 77, 78, 79, 80, 81, 82, 83, 84, 85, 86, 87, 88, 89, 90, 91, 92, 93, 94, 95, 96, 97, 98, 99, 100, 101, 161, 162, 163, 164, 165, 166, 167, 168, 169, 170, 171, 172, 173, 174, 175, 176, 177, 178, 179, 180, 181, 182, 183, 184, 185, 186, 187] (by decide +kernel) (by decide +kernel)
set_option maxRecDepth 20000 in
theorem gL_isStep_X2_hint : GoodIn wsL_isStep (wsV RL 58 RX2 yX2_hint wsX2_hint) := goodIn_app (goodIn_of _ (by decide +kernel)) ggL_isStep_X2_hint
theorem dL_isStep_0 : decode cL_isStep 0 = .ok (.aload_n 0, 1) := by decide +kernel
theorem dL_isStep_1 : decode cL_isStep 1 = .ok (.invokevirtual 42, 3) := by decide +kernel
theorem dL_isStep_4 : decode cL_isStep 4 = .ok (.istore 4, 2) := by decide +kernel
theorem dL_isStep_6 : decode cL_isStep 6 = .ok (.aload_n 0, 1) := by decide +kernel
theorem dL_isStep_7 : decode cL_isStep 7 = .ok (.invokevirtual 45, 3) := by decide +kernel
theorem dL_isStep_10 : decode cL_isStep 10 = .ok (.istore 5, 2) := by decide +kernel
theorem dL_isStep_12 : decode cL_isStep 12 = .ok (.aload_n 0, 1) := by decide +kernel
theorem dL_isStep_13 : decode cL_isStep 13 = .ok (.invokevirtual 48, 3) := by decide +kernel
theorem dL_isStep_16 : decode cL_isStep 16 = .ok (.istore 6, 2) := by decide +kernel
theorem dL_isStep_18 : decode cL_isStep 18 = .ok (.aload_n 0, 1) := by decide +kernel
theorem dL_isStep_19 : decode cL_isStep 19 = .ok (.iload_n 1, 1) := by decide +kernel
theorem dL_isStep_20 : decode cL_isStep 20 = .ok (.iload_n 2, 1) := by decide +kernel
theorem dL_isStep_21 : decode cL_isStep 21 = .ok (.invokevirtual 51, 3) := by decide +kernel
theorem dL_isStep_24 : decode cL_isStep 24 = .ok (.aload_n 0, 1) := by decide +kernel
theorem dL_isStep_25 : decode cL_isStep 25 = .ok (.invokevirtual 42, 3) := by decide +kernel
theorem dL_isStep_28 : decode cL_isStep 28 = .ok (.istore 7, 2) := by decide +kernel
theorem dL_isStep_30 : decode cL_isStep 30 = .ok (.iload 7, 2) := by decide +kernel
theorem dL_isStep_32 : decode cL_isStep 32 = .ok (.iload 4, 2) := by decide +kernel
theorem dL_isStep_34 : decode cL_isStep 34 = .ok (.if_icmp .le 11, 3) := by decide +kernel
theorem dL_isStep_37 : decode cL_isStep 37 = .ok (.iload 7, 2) := by decide +kernel
theorem dL_isStep_39 : decode cL_isStep 39 = .ok (.iload 4, 2) := by decide +kernel
theorem dL_isStep_41 : decode cL_isStep 41 = .ok (.isub, 1) := by decide +kernel
theorem dL_isStep_42 : decode cL_isStep 42 = .ok (.goto 8, 3) := by decide +kernel
theorem dL_isStep_45 : decode cL_isStep 45 = .ok (.iload 4, 2) := by decide +kernel
theorem dL_isStep_47 : decode cL_isStep 47 = .ok (.iload 7, 2) := by decide +kernel
theorem dL_isStep_49 : decode cL_isStep 49 = .ok (.isub, 1) := by decide +kernel
theorem dL_isStep_50 : decode cL_isStep 50 = .ok (.istore 8, 2) := by decide +kernel
theorem dL_isStep_52 : decode cL_isStep 52 = .ok (.aload_n 0, 1) := by decide +kernel
theorem dL_isStep_53 : decode cL_isStep 53 = .ok (.invokevirtual 45, 3) := by decide +kernel
theorem dL_isStep_56 : decode cL_isStep 56 = .ok (.iload 5, 2) := by decide +kernel
theorem dL_isStep_58 : decode cL_isStep 58 = .ok (.iconst 1, 1) := by decide +kernel
theorem dL_isStep_59 : decode cL_isStep 59 = .ok (.iadd, 1) := by decide +kernel
theorem dL_isStep_60 : decode cL_isStep 60 = .ok (.if_icmp .ne 116, 3) := by decide +kernel
theorem dL_isStep_63 : decode cL_isStep 63 = .ok (.aload_n 0, 1) := by decide +kernel
theorem dL_isStep_64 : decode cL_isStep 64 = .ok (.invokevirtual 48, 3) := by decide +kernel
theorem dL_isStep_67 : decode cL_isStep 67 = .ok (.iload 6, 2) := by decide +kernel
theorem dL_isStep_69 : decode cL_isStep 69 = .ok (.iload_n 2, 1) := by decide +kernel
theorem dL_isStep_70 : decode cL_isStep 70 = .ok (.ifCond .ge 8, 3) := by decide +kernel
theorem dL_isStep_73 : decode cL_isStep 73 = .ok (.iload_n 2, 1) := by decide +kernel
theorem dL_isStep_74 : decode cL_isStep 74 = .ok (.ineg, 1) := by decide +kernel
theorem dL_isStep_75 : decode cL_isStep 75 = .ok (.goto 4, 3) := by decide +kernel
theorem dL_isStep_78 : decode cL_isStep 78 = .ok (.iload_n 2, 1) := by decide +kernel
theorem dL_isStep_79 : decode cL_isStep 79 = .ok (.iadd, 1) := by decide +kernel
theorem dL_isStep_80 : decode cL_isStep 80 = .ok (.if_icmp .ne 96, 3) := by decide +kernel
theorem dL_isStep_83 : decode cL_isStep 83 = .ok (.iload_n 3, 1) := by decide +kernel
theorem dL_isStep_84 : decode cL_isStep 84 = .ok (.sipush 800, 3) := by decide +kernel
theorem dL_isStep_87 : decode cL_isStep 87 = .ok (.if_icmp .eq 40, 3) := by decide +kernel
theorem dL_isStep_90 : decode cL_isStep 90 = .ok (.aload_n 0, 1) := by decide +kernel
theorem dL_isStep_91 : decode cL_isStep 91 = .ok (.invokevirtual 55, 3) := by decide +kernel
theorem dL_isStep_94 : decode cL_isStep 94 = .ok (.iload_n 3, 1) := by decide +kernel
theorem dL_isStep_95 : decode cL_isStep 95 = .ok (.if_icmp .ne 81, 3) := by decide +kernel
theorem dL_isStep_98 : decode cL_isStep 98 = .ok (.iload 8, 2) := by decide +kernel
theorem dL_isStep_100 : decode cL_isStep 100 = .ok (.iconst 1, 1) := by decide +kernel
theorem dL_isStep_101 : decode cL_isStep 101 = .ok (.if_icmp .gt 75, 3) := by decide +kernel
theorem dL_isStep_104 : decode cL_isStep 104 = .ok (.iload 4, 2) := by decide +kernel
theorem dL_isStep_106 : decode cL_isStep 106 = .ok (.ifCond .ge 7, 3) := by decide +kernel
theorem dL_isStep_109 : decode cL_isStep 109 = .ok (.iconst 1, 1) := by decide +kernel
theorem dL_isStep_110 : decode cL_isStep 110 = .ok (.goto 4, 3) := by decide +kernel
theorem dL_isStep_113 : decode cL_isStep 113 = .ok (.iconst 0, 1) := by decide +kernel
theorem dL_isStep_114 : decode cL_isStep 114 = .ok (.iload 7, 2) := by decide +kernel
theorem dL_isStep_116 : decode cL_isStep 116 = .ok (.ifCond .ge 7, 3) := by decide +kernel
theorem dL_isStep_119 : decode cL_isStep 119 = .ok (.iconst 1, 1) := by decide +kernel
theorem dL_isStep_120 : decode cL_isStep 120 = .ok (.goto 4, 3) := by decide +kernel
theorem dL_isStep_123 : decode cL_isStep 123 = .ok (.iconst 0, 1) := by decide +kernel
theorem dL_isStep_124 : decode cL_isStep 124 = .ok (.if_icmp .ne 52, 3) := by decide +kernel
theorem dL_isStep_127 : decode cL_isStep 127 = .ok (.iload 7, 2) := by decide +kernel
theorem dL_isStep_129 : decode cL_isStep 129 = .ok (.ifCond .ne 18, 3) := by decide +kernel
theorem dL_isStep_132 : decode cL_isStep 132 = .ok (.aload_n 0, 1) := by decide +kernel
theorem dL_isStep_133 : decode cL_isStep 133 = .ok (.invokevirtual 35, 3) := by decide +kernel
theorem dL_isStep_136 : decode cL_isStep 136 = .ok (.ifCond .eq 40, 3) := by decide +kernel
theorem dL_isStep_139 : decode cL_isStep 139 = .ok (.aload_n 0, 1) := by decide +kernel
theorem dL_isStep_140 : decode cL_isStep 140 = .ok (.invokevirtual 58, 3) := by decide +kernel
theorem dL_isStep_143 : decode cL_isStep 143 = .ok (.iconst (-1), 1) := by decide +kernel
theorem dL_isStep_144 : decode cL_isStep 144 = .ok (.if_icmp .ne 32, 3) := by decide +kernel
theorem dL_isStep_147 : decode cL_isStep 147 = .ok (.iload 7, 2) := by decide +kernel
theorem dL_isStep_149 : decode cL_isStep 149 = .ok (.ifCond .gt 7, 3) := by decide +kernel
theorem dL_isStep_152 : decode cL_isStep 152 = .ok (.iconst 1, 1) := by decide +kernel
theorem dL_isStep_153 : decode cL_isStep 153 = .ok (.goto 4, 3) := by decide +kernel
theorem dL_isStep_156 : decode cL_isStep 156 = .ok (.iconst 0, 1) := by decide +kernel
theorem dL_isStep_157 : decode cL_isStep 157 = .ok (.aload_n 0, 1) := by decide +kernel
theorem dL_isStep_158 : decode cL_isStep 158 = .ok (.invokevirtual 58, 3) := by decide +kernel
theorem dL_isStep_161 : decode cL_isStep 161 = .ok (.ifCond .ge 7, 3) := by decide +kernel
theorem dL_isStep_164 : decode cL_isStep 164 = .ok (.iconst 1, 1) := by decide +kernel
theorem dL_isStep_165 : decode cL_isStep 165 = .ok (.goto 4, 3) := by decide +kernel
theorem dL_isStep_168 : decode cL_isStep 168 = .ok (.iconst 0, 1) := by decide +kernel
theorem dL_isStep_169 : decode cL_isStep 169 = .ok (.if_icmp .ne 7, 3) := by decide +kernel
theorem dL_isStep_172 : decode cL_isStep 172 = .ok (.iconst 1, 1) := by decide +kernel
theorem dL_isStep_173 : decode cL_isStep 173 = .ok (.goto 4, 3) := by decide +kernel
theorem dL_isStep_176 : decode cL_isStep 176 = .ok (.iconst 0, 1) := by decide +kernel
theorem dL_isStep_177 : decode cL_isStep 177 = .ok (.ireturn, 1) := by decide +kernel
set_option maxRecDepth 20000 in
theorem ggL_law_X2_init : GoodIn wsL_law wsX2_init := goodIn_r _ [6, 7, 8, 9, 10, 11, 12, 13, 14, 15, 16, 17, 18, 19, 20, 3, 21, 22, 23, 24, 25, 26, 27, 28, 29, 30, 31, 32, 33, 34, 35, 281, 282, 283, 284, 285, 286, 274, 275, 276, 277, 278, 279, 280, 287, 288, 289, 290, 291, 292, 293, 294, 295, 296] (by decide +kernel) (by decide +kernel)
set_option maxRecDepth 20000 in
theorem gL_law_X2_init : GoodIn wsL_law (wsX2_init) := ggL_law_X2_init
set_option maxRecDepth 20000 in
theorem ggL_law_L_drawn : GoodIn wsL_law wsL_drawn := goodIn_r _ [39, 40] (by decide +kernel) (by decide +kernel)
set_option maxRecDepth 20000 in
theorem gL_law_L_drawn : GoodIn wsL_law (va_wsS RL 62 yL_drawn wsL_drawn) := goodIn_app (goodIn_of _ (by decide +kernel)) ggL_law_L_drawn
set_option maxRecDepth 20000 in
theorem ggL_law_X2_park : GoodIn wsL_law wsX2_park := goodIn_ca (goodIn_ca (goodIn_r _ [44, 45, 46, 47, 48, 13, 49, 50, 51, 52, 53, 2, 54, 55, 56, 57, 12, 58, 59, 60, 61, 62, 63, 64, 65, 66, 67, 68, 69, 70, 71, 72, 73, 23, 26, 74, 75, 76, 77, 78, 79, 80, 81, 82, 83, 84, 85, 86, 87, 88, 21, 24, 89, 90, 91, 92, 93, 94, 95, 96, 274, 275, 276, 277, 278, 279, 280, 281, 282, 283, 284, 285, 286] (by decide +kernel) (by decide +kernel)) (goodIn_sub (fun _ h => List.mem_append_left _ (List.mem_append_left _ (List.mem_append_right _ h))) (by decide +kernel))) (goodIn_sub (fun _ h => List.mem_append_left _ (List.mem_append_right _ h)) (by decide +kernel))
set_option maxRecDepth 20000 in
theorem gL_law_X2_park : GoodIn wsL_law (wsV RL 66 RX2 yX2_park wsX2_park) := goodIn_app (goodIn_of _ (by decide +kernel)) ggL_law_X2_park
set_option maxRecDepth 20000 in
theorem ggL_law_X2_vehicles : GoodIn wsL_law wsX2_vehicles := goodIn_r _ [100, 13, 55, 56, 57, 12, 58, 59, 274, 275, 276, 277, 278, 279, 280, 281, 282, 283, 284, 285, 286] (by decide +kernel) (by decide +kernel)
set_option maxRecDepth 20000 in
theorem gL_law_X2_vehicles : GoodIn wsL_law (wsV RL 14 RX2 yX2_vehicles wsX2_vehicles) := goodIn_app (goodIn_of _ (by decide +kernel)) ggL_law_X2_vehicles
set_option maxRecDepth 20000 in
theorem ggL_law_X2_at : GoodIn wsL_law wsX2_at := goodIn_ca (goodIn_r _ [104, 45, 46, 13, 50, 52, 53, 2, 54, 63, 64, 65, 105, 106, 107, 12, 108, 59, 70, 71, 72, 73, 23, 26, 74, 75, 76, 77, 78, 79, 274, 275, 276, 277, 278, 279, 280, 281, 282, 283, 284, 285, 286] (by decide +kernel) (by decide +kernel)) (goodIn_sub (fun _ h => List.mem_append_left _ (List.mem_append_left _ (List.mem_append_right _ h))) (by decide +kernel))
set_option maxRecDepth 20000 in
theorem gL_law_X2_at : GoodIn wsL_law (wsV RL 8 RX2 yX2_at wsX2_at) := goodIn_app (goodIn_of _ (by decide +kernel)) ggL_law_X2_at
set_option maxRecDepth 20000 in
theorem ggL_law_X2_ramp : GoodIn wsL_law wsX2_ramp := goodIn_ca (goodIn_ca (goodIn_r _ [112, 45, 46, 47, 48, 49, 13, 50, 96, 52, 53, 2, 54, 63, 64, 65, 105, 106, 107, 12, 108, 59, 70, 71, 72, 73, 23, 26, 74, 75, 76, 77, 78, 79, 113, 114, 115, 116, 21, 117, 118, 119, 120, 84, 274, 275, 276, 277, 278, 279, 280, 281, 282, 283, 284, 285, 286] (by decide +kernel) (by decide +kernel)) (goodIn_sub (fun _ h => List.mem_append_left _ (List.mem_append_left _ (List.mem_append_right _ h))) (by decide +kernel))) (goodIn_sub (fun _ h => List.mem_append_left _ (List.mem_append_right _ h)) (by decide +kernel))
set_option maxRecDepth 20000 in
theorem gL_law_X2_ramp : GoodIn wsL_law (wsV RL 70 RX2 yX2_ramp wsX2_ramp) := goodIn_app (goodIn_of _ (by decide +kernel)) ggL_law_X2_ramp
set_option maxRecDepth 20000 in
theorem ggL_law_X2_positions : GoodIn wsL_law wsX2_positions := goodIn_r _ [124, 17, 125, 126, 127, 2, 128, 96, 50, 129, 130, 131, 16, 132, 34, 133, 134, 135, 136, 137, 138, 139, 140, 141, 142, 31, 32, 33, 143, 144, 145, 146, 147, 78, 79, 148, 149, 150, 151, 35, 152, 153, 154, 155, 156, 67, 68, 12, 69, 59, 70, 71, 72, 73, 23, 26, 74, 75, 76, 77, 157, 56, 57, 58, 158, 159, 160, 161, 21, 162, 163, 81, 82, 83, 84, 164, 165, 166, 167, 90, 91, 168, 169, 170, 171, 172, 173, 174, 175, 176, 177, 178, 179, 180, 181, 182, 183, 184, 185, 186, 187, 188, 274, 275, 276, 277, 278, 279, 280, 287, 288, 289, 290, 291, 292, 293, 294, 295, 296, 281, 282, 283, 284, 285, 286] (by decide +kernel) (by decide +kernel)
set_option maxRecDepth 20000 in
theorem gL_law_X2_positions : GoodIn wsL_law (wsV RL 55 RX2 yX2_positions wsX2_positions) := goodIn_app (goodIn_of _ (by decide +kernel)) ggL_law_X2_positions
set_option maxRecDepth 20000 in
theorem ggL_law_X2_rowOf : GoodIn wsL_law wsX2_rowOf := goodIn_ca (goodIn_r _ [192, 193, 194, 13, 50, 195, 75, 76, 12, 77, 59, 196, 197, 198, 199, 23, 74, 200, 201, 202, 203, 24, 204, 78, 2, 79, 274, 275, 276, 277, 278, 279, 280, 281, 282, 283, 284, 285, 286] (by decide +kernel) (by decide +kernel)) (goodIn_sub (fun _ h => List.mem_append_right _ h) (by decide +kernel))
set_option maxRecDepth 20000 in
theorem gL_law_X2_rowOf : GoodIn wsL_law (wsV RL 24 RX2 yX2_rowOf wsX2_rowOf) := goodIn_app (goodIn_of _ (by decide +kernel)) ggL_law_X2_rowOf
set_option maxRecDepth 20000 in
theorem ggL_law_X2_columnOf : GoodIn wsL_law wsX2_columnOf := goodIn_ca (goodIn_r _ [208, 193, 194, 13, 50, 195, 75, 76, 12, 77, 59, 196, 197, 198, 199, 23, 74, 204, 78, 2, 79, 200, 201, 202, 203, 24, 274, 275, 276, 277, 278, 279, 280, 281, 282, 283, 284, 285, 286] (by decide +kernel) (by decide +kernel)) (goodIn_sub (fun _ h => List.mem_append_right _ h) (by decide +kernel))
set_option maxRecDepth 20000 in
theorem gL_law_X2_columnOf : GoodIn wsL_law (wsV RL 28 RX2 yX2_columnOf wsX2_columnOf) := goodIn_app (goodIn_of _ (by decide +kernel)) ggL_law_X2_columnOf
set_option maxRecDepth 20000 in
theorem ggL_law_L_isWhole : GoodIn wsL_law wsL_isWhole := goodIn_ca (goodIn_ca (goodIn_r _ [211, 97, 98, 99, 2, 100, 13, 55, 56, 57, 12, 58, 59, 212, 213, 38, 214, 101, 102, 103, 104, 45, 46, 50, 52, 53, 54, 63, 64, 65, 105, 106, 107, 108, 70, 71, 72, 73, 23, 26, 74, 75, 76, 77, 78, 79, 189, 190, 191, 192, 193, 194, 195, 196, 197, 198, 199, 200, 201, 202, 203, 24, 204, 205, 206, 207, 208, 215, 216, 217, 218, 219, 220, 221, 222, 66, 67, 68, 69, 223, 159, 160, 161, 21, 162, 163, 81, 82, 83, 84, 224, 225, 226, 227, 228, 229, 230, 231, 232, 274, 275, 276, 277, 278, 279, 280, 281, 282, 283, 284, 285, 286] (by decide +kernel) (by decide +kernel)) (goodIn_sub (fun _ h => List.mem_append_left _ (List.mem_append_left _ (List.mem_append_right _ h))) (by decide +kernel))) (goodIn_sub (fun _ h => List.mem_append_right _ h) (by decide +kernel))
set_option maxRecDepth 20000 in
theorem gL_law_L_isWhole : GoodIn wsL_law (va_wsS RL 73 yL_isWhole wsL_isWhole) := goodIn_app (goodIn_of _ (by decide +kernel)) ggL_law_L_isWhole
set_option maxRecDepth 20000 in
theorem ggL_law_X2_freeWay : GoodIn wsL_law wsX2_freeWay := goodIn_ca (goodIn_r _ [218, 193, 194, 13, 195, 75, 76, 12, 77, 59, 219, 220, 221, 2, 222, 50, 66, 67, 68, 69, 70, 71, 72, 73, 23, 26, 74, 78, 79, 223, 159, 160, 161, 21, 162, 163, 81, 82, 83, 84, 274, 275, 276, 277, 278, 279, 280, 281, 282, 283, 284, 285, 286] (by decide +kernel) (by decide +kernel)) (goodIn_sub (fun _ h => List.mem_append_right _ h) (by decide +kernel))
set_option maxRecDepth 20000 in
theorem gL_law_X2_freeWay : GoodIn wsL_law (wsV RL 31 RX2 yX2_freeWay wsX2_freeWay) := goodIn_app (goodIn_of _ (by decide +kernel)) ggL_law_X2_freeWay
set_option maxRecDepth 20000 in
theorem ggL_law_L_isStep : GoodIn wsL_law wsL_isStep := goodIn_ca (goodIn_ca (goodIn_ca (goodIn_r _ [235, 236, 237, 238, 2, 239, 17, 125, 126, 127, 128, 96, 50, 129, 130, 131, 16, 132, 34, 133, 134, 135, 136, 137, 138, 139, 140, 141, 142, 31, 32, 33, 143, 144, 145, 146, 147, 78, 79, 148, 149, 150, 151, 35, 152, 153, 154, 155, 156, 67, 68, 12, 69, 59, 70, 71, 72, 73, 23, 26, 74, 75, 76, 77, 157, 56, 57, 58, 158, 159, 160, 161, 21, 162, 163, 81, 82, 83, 84, 164, 165, 166, 167, 90, 91, 168, 169, 170, 171, 172, 173, 174, 175, 176, 177, 178, 179, 180, 181, 182, 183, 184, 240, 241, 242, 243, 244, 245, 246, 247, 49, 248, 249, 250, 251, 252, 253, 254, 255, 256, 193, 194, 45, 46, 47, 48, 13, 257, 195, 219, 220, 221, 222, 66, 223, 258, 259, 260, 261, 89, 92, 93, 94, 95, 121, 122, 123, 124, 185, 186, 187, 188, 224, 225, 226, 227, 204, 262, 263, 264, 265, 266, 267, 268, 269, 274, 275, 276, 277, 278, 279, 280, 287, 288, 289, 290, 291, 292, 293, 294, 295, 296, 281, 282, 283, 284, 285, 286] (by decide +kernel) (by decide +kernel)) (goodIn_sub (fun _ h => List.mem_append_right _ h) (by decide +kernel))) (goodIn_sub (fun _ h => List.mem_append_left _ (List.mem_append_left _ (List.mem_append_right _ h))) (by decide +kernel))) (goodIn_sub (fun _ h => List.mem_append_left _ (List.mem_append_right _ h)) (by decide +kernel))
set_option maxRecDepth 20000 in
theorem gL_law_L_isStep : GoodIn wsL_law (va_wsS RL 77 yL_isStep wsL_isStep) := goodIn_app (goodIn_of _ (by decide +kernel)) ggL_law_L_isStep
set_option maxRecDepth 20000 in
theorem ggL_law_X2_driven : GoodIn wsL_law wsX2_driven := goodIn_r _ [251, 252, 274, 275, 276, 277, 278, 279, 280] (by decide +kernel) (by decide +kernel)
set_option maxRecDepth 20000 in
theorem gL_law_X2_driven : GoodIn wsL_law (wsV RL 48 RX2 yX2_driven wsX2_driven) := goodIn_app (goodIn_of _ (by decide +kernel)) ggL_law_X2_driven
set_option maxRecDepth 20000 in
theorem ggL_law_X2_moves : GoodIn wsL_law wsX2_moves := goodIn_r _ [247, 49, 274, 275, 276, 277, 278, 279, 280] (by decide +kernel) (by decide +kernel)
set_option maxRecDepth 20000 in
theorem gL_law_X2_moves : GoodIn wsL_law (wsV RL 45 RX2 yX2_moves wsX2_moves) := goodIn_app (goodIn_of _ (by decide +kernel)) ggL_law_X2_moves
set_option maxRecDepth 20000 in
theorem ggL_law_X2_restart : GoodIn wsL_law wsX2_restart := goodIn_r _ [273, 51, 49, 252, 92, 93, 94, 2, 95, 50, 96, 274, 275, 276, 277, 278, 279, 280] (by decide +kernel) (by decide +kernel)
set_option maxRecDepth 20000 in
theorem gL_law_X2_restart : GoodIn wsL_law (wsV RL 81 RX2 yX2_restart wsX2_restart) := goodIn_app (goodIn_of _ (by decide +kernel)) ggL_law_X2_restart
theorem dL_law_0 : decode cL_law 0 = .ok (.new 9, 3) := by decide +kernel
theorem dL_law_3 : decode cL_law 3 = .ok (.dup, 1) := by decide +kernel
theorem dL_law_4 : decode cL_law 4 = .ok (.invokespecial 61, 3) := by decide +kernel
theorem dL_law_7 : decode cL_law 7 = .ok (.astore_n 1, 1) := by decide +kernel
theorem dL_law_8 : decode cL_law 8 = .ok (.bipush 9, 2) := by decide +kernel
theorem dL_law_10 : decode cL_law 10 = .ok (.newarray .int, 2) := by decide +kernel
theorem dL_law_12 : decode cL_law 12 = .ok (.astore_n 2, 1) := by decide +kernel
theorem dL_law_13 : decode cL_law 13 = .ok (.bipush 9, 2) := by decide +kernel
theorem dL_law_15 : decode cL_law 15 = .ok (.newarray .int, 2) := by decide +kernel
theorem dL_law_17 : decode cL_law 17 = .ok (.astore_n 3, 1) := by decide +kernel
theorem dL_law_18 : decode cL_law 18 = .ok (.bipush 8, 2) := by decide +kernel
theorem dL_law_20 : decode cL_law 20 = .ok (.newarray .int, 2) := by decide +kernel
theorem dL_law_22 : decode cL_law 22 = .ok (.astore 4, 2) := by decide +kernel
theorem dL_law_24 : decode cL_law 24 = .ok (.bipush 8, 2) := by decide +kernel
theorem dL_law_26 : decode cL_law 26 = .ok (.newarray .int, 2) := by decide +kernel
theorem dL_law_28 : decode cL_law 28 = .ok (.astore 5, 2) := by decide +kernel
theorem dL_law_30 : decode cL_law 30 = .ok (.aload_n 1, 1) := by decide +kernel
theorem dL_law_31 : decode cL_law 31 = .ok (.iconst 2, 1) := by decide +kernel
theorem dL_law_32 : decode cL_law 32 = .ok (.iconst 1, 1) := by decide +kernel
theorem dL_law_33 : decode cL_law 33 = .ok (.iconst 2, 1) := by decide +kernel
theorem dL_law_34 : decode cL_law 34 = .ok (.aload_n 0, 1) := by decide +kernel
theorem dL_law_35 : decode cL_law 35 = .ok (.iconst 0, 1) := by decide +kernel
theorem dL_law_36 : decode cL_law 36 = .ok (.iconst 4, 1) := by decide +kernel
theorem dL_law_37 : decode cL_law 37 = .ok (.invokestatic 62, 3) := by decide +kernel
theorem dL_law_40 : decode cL_law 40 = .ok (.invokevirtual 66, 3) := by decide +kernel
theorem dL_law_43 : decode cL_law 43 = .ok (.ifCond .ne 7, 3) := by decide +kernel
theorem dL_law_46 : decode cL_law 46 = .ok (.iconst 1, 1) := by decide +kernel
theorem dL_law_47 : decode cL_law 47 = .ok (.goto 4, 3) := by decide +kernel
theorem dL_law_50 : decode cL_law 50 = .ok (.iconst 0, 1) := by decide +kernel
theorem dL_law_51 : decode cL_law 51 = .ok (.istore 6, 2) := by decide +kernel
theorem dL_law_53 : decode cL_law 53 = .ok (.aload_n 2, 1) := by decide +kernel
theorem dL_law_54 : decode cL_law 54 = .ok (.iconst 0, 1) := by decide +kernel
theorem dL_law_55 : decode cL_law 55 = .ok (.iconst 2, 1) := by decide +kernel
theorem dL_law_56 : decode cL_law 56 = .ok (.iastore, 1) := by decide +kernel
theorem dL_law_57 : decode cL_law 57 = .ok (.aload_n 3, 1) := by decide +kernel
theorem dL_law_58 : decode cL_law 58 = .ok (.iconst 0, 1) := by decide +kernel
theorem dL_law_59 : decode cL_law 59 = .ok (.iconst 1, 1) := by decide +kernel
theorem dL_law_60 : decode cL_law 60 = .ok (.iastore, 1) := by decide +kernel
theorem dL_law_61 : decode cL_law 61 = .ok (.iconst 2, 1) := by decide +kernel
theorem dL_law_62 : decode cL_law 62 = .ok (.aload_n 0, 1) := by decide +kernel
theorem dL_law_63 : decode cL_law 63 = .ok (.iconst 1, 1) := by decide +kernel
theorem dL_law_64 : decode cL_law 64 = .ok (.bipush 8, 2) := by decide +kernel
theorem dL_law_66 : decode cL_law 66 = .ok (.invokestatic 62, 3) := by decide +kernel
theorem dL_law_69 : decode cL_law 69 = .ok (.iadd, 1) := by decide +kernel
theorem dL_law_70 : decode cL_law 70 = .ok (.istore 7, 2) := by decide +kernel
theorem dL_law_72 : decode cL_law 72 = .ok (.iconst 0, 1) := by decide +kernel
theorem dL_law_73 : decode cL_law 73 = .ok (.istore 8, 2) := by decide +kernel
theorem dL_law_75 : decode cL_law 75 = .ok (.iload 8, 2) := by decide +kernel
theorem dL_law_77 : decode cL_law 77 = .ok (.bipush 70, 2) := by decide +kernel
theorem dL_law_79 : decode cL_law 79 = .ok (.if_icmp .ge 231, 3) := by decide +kernel
theorem dL_law_82 : decode cL_law 82 = .ok (.aload_n 1, 1) := by decide +kernel
theorem dL_law_83 : decode cL_law 83 = .ok (.invokevirtual 14, 3) := by decide +kernel
theorem dL_law_86 : decode cL_law 86 = .ok (.iload 7, 2) := by decide +kernel
theorem dL_law_88 : decode cL_law 88 = .ok (.if_icmp .ge 222, 3) := by decide +kernel
theorem dL_law_91 : decode cL_law 91 = .ok (.iconst 2, 1) := by decide +kernel
theorem dL_law_92 : decode cL_law 92 = .ok (.aload_n 0, 1) := by decide +kernel
theorem dL_law_93 : decode cL_law 93 = .ok (.iconst 2, 1) := by decide +kernel
theorem dL_law_94 : decode cL_law 94 = .ok (.iload 8, 2) := by decide +kernel
theorem dL_law_96 : decode cL_law 96 = .ok (.iadd, 1) := by decide +kernel
theorem dL_law_97 : decode cL_law 97 = .ok (.iconst 3, 1) := by decide +kernel
theorem dL_law_98 : decode cL_law 98 = .ok (.invokestatic 62, 3) := by decide +kernel
theorem dL_law_101 : decode cL_law 101 = .ok (.iadd, 1) := by decide +kernel
theorem dL_law_102 : decode cL_law 102 = .ok (.istore 9, 2) := by decide +kernel
theorem dL_law_104 : decode cL_law 104 = .ok (.aload_n 0, 1) := by decide +kernel
theorem dL_law_105 : decode cL_law 105 = .ok (.iconst 3, 1) := by decide +kernel
theorem dL_law_106 : decode cL_law 106 = .ok (.iconst 2, 1) := by decide +kernel
theorem dL_law_107 : decode cL_law 107 = .ok (.iload 8, 2) := by decide +kernel
theorem dL_law_109 : decode cL_law 109 = .ok (.imul, 1) := by decide +kernel
theorem dL_law_110 : decode cL_law 110 = .ok (.iadd, 1) := by decide +kernel
theorem dL_law_111 : decode cL_law 111 = .ok (.iconst 2, 1) := by decide +kernel
theorem dL_law_112 : decode cL_law 112 = .ok (.invokestatic 62, 3) := by decide +kernel
theorem dL_law_115 : decode cL_law 115 = .ok (.istore 10, 2) := by decide +kernel
theorem dL_law_117 : decode cL_law 117 = .ok (.aload_n 0, 1) := by decide +kernel
theorem dL_law_118 : decode cL_law 118 = .ok (.iconst 4, 1) := by decide +kernel
theorem dL_law_119 : decode cL_law 119 = .ok (.iload 8, 2) := by decide +kernel
theorem dL_law_121 : decode cL_law 121 = .ok (.iadd, 1) := by decide +kernel
theorem dL_law_122 : decode cL_law 122 = .ok (.iload 10, 2) := by decide +kernel
theorem dL_law_124 : decode cL_law 124 = .ok (.iconst 1, 1) := by decide +kernel
theorem dL_law_125 : decode cL_law 125 = .ok (.if_icmp .ne 8, 3) := by decide +kernel
theorem dL_law_128 : decode cL_law 128 = .ok (.bipush 6, 2) := by decide +kernel
theorem dL_law_130 : decode cL_law 130 = .ok (.goto 8, 3) := by decide +kernel
theorem dL_law_133 : decode cL_law 133 = .ok (.bipush 7, 2) := by decide +kernel
theorem dL_law_135 : decode cL_law 135 = .ok (.iload 9, 2) := by decide +kernel
theorem dL_law_137 : decode cL_law 137 = .ok (.isub, 1) := by decide +kernel
theorem dL_law_138 : decode cL_law 138 = .ok (.invokestatic 62, 3) := by decide +kernel
theorem dL_law_141 : decode cL_law 141 = .ok (.istore 11, 2) := by decide +kernel
theorem dL_law_143 : decode cL_law 143 = .ok (.aload_n 0, 1) := by decide +kernel
theorem dL_law_144 : decode cL_law 144 = .ok (.iconst 5, 1) := by decide +kernel
theorem dL_law_145 : decode cL_law 145 = .ok (.iconst 3, 1) := by decide +kernel
theorem dL_law_146 : decode cL_law 146 = .ok (.iload 8, 2) := by decide +kernel
theorem dL_law_148 : decode cL_law 148 = .ok (.imul, 1) := by decide +kernel
theorem dL_law_149 : decode cL_law 149 = .ok (.iadd, 1) := by decide +kernel
theorem dL_law_150 : decode cL_law 150 = .ok (.iload 10, 2) := by decide +kernel
theorem dL_law_152 : decode cL_law 152 = .ok (.iconst 1, 1) := by decide +kernel
theorem dL_law_153 : decode cL_law 153 = .ok (.if_icmp .ne 11, 3) := by decide +kernel
theorem dL_law_156 : decode cL_law 156 = .ok (.bipush 7, 2) := by decide +kernel
theorem dL_law_158 : decode cL_law 158 = .ok (.iload 9, 2) := by decide +kernel
theorem dL_law_160 : decode cL_law 160 = .ok (.isub, 1) := by decide +kernel
theorem dL_law_161 : decode cL_law 161 = .ok (.goto 5, 3) := by decide +kernel
theorem dL_law_164 : decode cL_law 164 = .ok (.bipush 6, 2) := by decide +kernel
theorem dL_law_166 : decode cL_law 166 = .ok (.invokestatic 62, 3) := by decide +kernel
theorem dL_law_169 : decode cL_law 169 = .ok (.istore 12, 2) := by decide +kernel
theorem dL_law_171 : decode cL_law 171 = .ok (.iconst 1, 1) := by decide +kernel
theorem dL_law_172 : decode cL_law 172 = .ok (.istore 13, 2) := by decide +kernel
theorem dL_law_174 : decode cL_law 174 = .ok (.iconst 0, 1) := by decide +kernel
theorem dL_law_175 : decode cL_law 175 = .ok (.istore 14, 2) := by decide +kernel
theorem dL_law_177 : decode cL_law 177 = .ok (.iload 14, 2) := by decide +kernel
theorem dL_law_179 : decode cL_law 179 = .ok (.iload 9, 2) := by decide +kernel
theorem dL_law_181 : decode cL_law 181 = .ok (.if_icmp .ge 60, 3) := by decide +kernel
theorem dL_law_184 : decode cL_law 184 = .ok (.iload 13, 2) := by decide +kernel
theorem dL_law_186 : decode cL_law 186 = .ok (.ifCond .eq 46, 3) := by decide +kernel
theorem dL_law_189 : decode cL_law 189 = .ok (.aload_n 1, 1) := by decide +kernel
theorem dL_law_190 : decode cL_law 190 = .ok (.iload 10, 2) := by decide +kernel
theorem dL_law_192 : decode cL_law 192 = .ok (.iconst 1, 1) := by decide +kernel
theorem dL_law_193 : decode cL_law 193 = .ok (.if_icmp .ne 8, 3) := by decide +kernel
theorem dL_law_196 : decode cL_law 196 = .ok (.iload 11, 2) := by decide +kernel
theorem dL_law_198 : decode cL_law 198 = .ok (.goto 8, 3) := by decide +kernel
theorem dL_law_201 : decode cL_law 201 = .ok (.iload 11, 2) := by decide +kernel
theorem dL_law_203 : decode cL_law 203 = .ok (.iload 14, 2) := by decide +kernel
theorem dL_law_205 : decode cL_law 205 = .ok (.iadd, 1) := by decide +kernel
theorem dL_law_206 : decode cL_law 206 = .ok (.iload 10, 2) := by decide +kernel
theorem dL_law_208 : decode cL_law 208 = .ok (.iconst 1, 1) := by decide +kernel
theorem dL_law_209 : decode cL_law 209 = .ok (.if_icmp .ne 11, 3) := by decide +kernel
theorem dL_law_212 : decode cL_law 212 = .ok (.iload 12, 2) := by decide +kernel
theorem dL_law_214 : decode cL_law 214 = .ok (.iload 14, 2) := by decide +kernel
theorem dL_law_216 : decode cL_law 216 = .ok (.iadd, 1) := by decide +kernel
theorem dL_law_217 : decode cL_law 217 = .ok (.goto 5, 3) := by decide +kernel
theorem dL_law_220 : decode cL_law 220 = .ok (.iload 12, 2) := by decide +kernel
theorem dL_law_222 : decode cL_law 222 = .ok (.invokevirtual 8, 3) := by decide +kernel
theorem dL_law_225 : decode cL_law 225 = .ok (.ifCond .ge 7, 3) := by decide +kernel
theorem dL_law_228 : decode cL_law 228 = .ok (.iconst 1, 1) := by decide +kernel
theorem dL_law_229 : decode cL_law 229 = .ok (.goto 4, 3) := by decide +kernel
theorem dL_law_232 : decode cL_law 232 = .ok (.iconst 0, 1) := by decide +kernel
theorem dL_law_233 : decode cL_law 233 = .ok (.istore 13, 2) := by decide +kernel
theorem dL_law_235 : decode cL_law 235 = .ok (.iinc 14 1, 3) := by decide +kernel
theorem dL_law_238 : decode cL_law 238 = .ok (.goto (-61), 3) := by decide +kernel
theorem dL_law_241 : decode cL_law 241 = .ok (.iload 13, 2) := by decide +kernel
theorem dL_law_243 : decode cL_law 243 = .ok (.ifCond .eq 61, 3) := by decide +kernel
theorem dL_law_246 : decode cL_law 246 = .ok (.aload_n 2, 1) := by decide +kernel
theorem dL_law_247 : decode cL_law 247 = .ok (.aload_n 1, 1) := by decide +kernel
theorem dL_law_248 : decode cL_law 248 = .ok (.invokevirtual 14, 3) := by decide +kernel
theorem dL_law_251 : decode cL_law 251 = .ok (.iload 9, 2) := by decide +kernel
theorem dL_law_253 : decode cL_law 253 = .ok (.iastore, 1) := by decide +kernel
theorem dL_law_254 : decode cL_law 254 = .ok (.aload_n 3, 1) := by decide +kernel
theorem dL_law_255 : decode cL_law 255 = .ok (.aload_n 1, 1) := by decide +kernel
theorem dL_law_256 : decode cL_law 256 = .ok (.invokevirtual 14, 3) := by decide +kernel
theorem dL_law_259 : decode cL_law 259 = .ok (.iload 10, 2) := by decide +kernel
theorem dL_law_261 : decode cL_law 261 = .ok (.iastore, 1) := by decide +kernel
theorem dL_law_262 : decode cL_law 262 = .ok (.iload 6, 2) := by decide +kernel
theorem dL_law_264 : decode cL_law 264 = .ok (.ifCond .eq 37, 3) := by decide +kernel
theorem dL_law_267 : decode cL_law 267 = .ok (.aload_n 1, 1) := by decide +kernel
theorem dL_law_268 : decode cL_law 268 = .ok (.iload 9, 2) := by decide +kernel
theorem dL_law_270 : decode cL_law 270 = .ok (.iload 10, 2) := by decide +kernel
theorem dL_law_272 : decode cL_law 272 = .ok (.iconst 1, 1) := by decide +kernel
theorem dL_law_273 : decode cL_law 273 = .ok (.if_icmp .ne 7, 3) := by decide +kernel
theorem dL_law_276 : decode cL_law 276 = .ok (.iconst 1, 1) := by decide +kernel
theorem dL_law_277 : decode cL_law 277 = .ok (.goto 4, 3) := by decide +kernel
theorem dL_law_280 : decode cL_law 280 = .ok (.iconst 0, 1) := by decide +kernel
theorem dL_law_281 : decode cL_law 281 = .ok (.iload 11, 2) := by decide +kernel
theorem dL_law_283 : decode cL_law 283 = .ok (.iload 12, 2) := by decide +kernel
theorem dL_law_285 : decode cL_law 285 = .ok (.invokevirtual 66, 3) := by decide +kernel
theorem dL_law_288 : decode cL_law 288 = .ok (.aload_n 1, 1) := by decide +kernel
theorem dL_law_289 : decode cL_law 289 = .ok (.invokevirtual 14, 3) := by decide +kernel
theorem dL_law_292 : decode cL_law 292 = .ok (.iconst 1, 1) := by decide +kernel
theorem dL_law_293 : decode cL_law 293 = .ok (.isub, 1) := by decide +kernel
theorem dL_law_294 : decode cL_law 294 = .ok (.if_icmp .ne 7, 3) := by decide +kernel
theorem dL_law_297 : decode cL_law 297 = .ok (.iconst 1, 1) := by decide +kernel
theorem dL_law_298 : decode cL_law 298 = .ok (.goto 4, 3) := by decide +kernel
theorem dL_law_301 : decode cL_law 301 = .ok (.iconst 0, 1) := by decide +kernel
theorem dL_law_302 : decode cL_law 302 = .ok (.istore 6, 2) := by decide +kernel
theorem dL_law_304 : decode cL_law 304 = .ok (.iinc 8 1, 3) := by decide +kernel
theorem dL_law_307 : decode cL_law 307 = .ok (.goto (-232), 3) := by decide +kernel
theorem dL_law_310 : decode cL_law 310 = .ok (.aload_n 0, 1) := by decide +kernel
theorem dL_law_311 : decode cL_law 311 = .ok (.bipush 9, 2) := by decide +kernel
theorem dL_law_313 : decode cL_law 313 = .ok (.bipush 36, 2) := by decide +kernel
theorem dL_law_315 : decode cL_law 315 = .ok (.invokestatic 62, 3) := by decide +kernel
theorem dL_law_318 : decode cL_law 318 = .ok (.istore 8, 2) := by decide +kernel
theorem dL_law_320 : decode cL_law 320 = .ok (.aload_n 1, 1) := by decide +kernel
theorem dL_law_321 : decode cL_law 321 = .ok (.iload 8, 2) := by decide +kernel
theorem dL_law_323 : decode cL_law 323 = .ok (.bipush 6, 2) := by decide +kernel
theorem dL_law_325 : decode cL_law 325 = .ok (.idiv, 1) := by decide +kernel
theorem dL_law_326 : decode cL_law 326 = .ok (.iload 8, 2) := by decide +kernel
theorem dL_law_328 : decode cL_law 328 = .ok (.bipush 6, 2) := by decide +kernel
theorem dL_law_330 : decode cL_law 330 = .ok (.irem, 1) := by decide +kernel
theorem dL_law_331 : decode cL_law 331 = .ok (.invokevirtual 8, 3) := by decide +kernel
theorem dL_law_334 : decode cL_law 334 = .ok (.istore 9, 2) := by decide +kernel
theorem dL_law_336 : decode cL_law 336 = .ok (.iload 9, 2) := by decide +kernel
theorem dL_law_338 : decode cL_law 338 = .ok (.ifCond .lt 11, 3) := by decide +kernel
theorem dL_law_341 : decode cL_law 341 = .ok (.aload_n 2, 1) := by decide +kernel
theorem dL_law_342 : decode cL_law 342 = .ok (.iload 9, 2) := by decide +kernel
theorem dL_law_344 : decode cL_law 344 = .ok (.iaload, 1) := by decide +kernel
theorem dL_law_345 : decode cL_law 345 = .ok (.iconst 2, 1) := by decide +kernel
theorem dL_law_346 : decode cL_law 346 = .ok (.if_icmp .ne 20, 3) := by decide +kernel
theorem dL_law_349 : decode cL_law 349 = .ok (.aload_n 1, 1) := by decide +kernel
theorem dL_law_350 : decode cL_law 350 = .ok (.iload 8, 2) := by decide +kernel
theorem dL_law_352 : decode cL_law 352 = .ok (.bipush 6, 2) := by decide +kernel
theorem dL_law_354 : decode cL_law 354 = .ok (.idiv, 1) := by decide +kernel
theorem dL_law_355 : decode cL_law 355 = .ok (.iload 8, 2) := by decide +kernel
theorem dL_law_357 : decode cL_law 357 = .ok (.bipush 6, 2) := by decide +kernel
theorem dL_law_359 : decode cL_law 359 = .ok (.irem, 1) := by decide +kernel
theorem dL_law_360 : decode cL_law 360 = .ok (.invokevirtual 70, 3) := by decide +kernel
theorem dL_law_363 : decode cL_law 363 = .ok (.goto 6, 3) := by decide +kernel
theorem dL_law_366 : decode cL_law 366 = .ok (.iconst (-1), 1) := by decide +kernel
theorem dL_law_367 : decode cL_law 367 = .ok (.istore 8, 2) := by decide +kernel
theorem dL_law_369 : decode cL_law 369 = .ok (.aload_n 1, 1) := by decide +kernel
theorem dL_law_370 : decode cL_law 370 = .ok (.invokevirtual 55, 3) := by decide +kernel
theorem dL_law_373 : decode cL_law 373 = .ok (.istore 10, 2) := by decide +kernel
theorem dL_law_375 : decode cL_law 375 = .ok (.iconst 0, 1) := by decide +kernel
theorem dL_law_376 : decode cL_law 376 = .ok (.istore 11, 2) := by decide +kernel
theorem dL_law_378 : decode cL_law 378 = .ok (.iconst 0, 1) := by decide +kernel
theorem dL_law_379 : decode cL_law 379 = .ok (.istore 12, 2) := by decide +kernel
theorem dL_law_381 : decode cL_law 381 = .ok (.iload 12, 2) := by decide +kernel
theorem dL_law_383 : decode cL_law 383 = .ok (.aload_n 1, 1) := by decide +kernel
theorem dL_law_384 : decode cL_law 384 = .ok (.invokevirtual 14, 3) := by decide +kernel
theorem dL_law_387 : decode cL_law 387 = .ok (.if_icmp .ge 33, 3) := by decide +kernel
theorem dL_law_390 : decode cL_law 390 = .ok (.bipush 31, 2) := by decide +kernel
theorem dL_law_392 : decode cL_law 392 = .ok (.iload 11, 2) := by decide +kernel
theorem dL_law_394 : decode cL_law 394 = .ok (.imul, 1) := by decide +kernel
theorem dL_law_395 : decode cL_law 395 = .ok (.bipush 6, 2) := by decide +kernel
theorem dL_law_397 : decode cL_law 397 = .ok (.aload_n 1, 1) := by decide +kernel
theorem dL_law_398 : decode cL_law 398 = .ok (.iload 12, 2) := by decide +kernel
theorem dL_law_400 : decode cL_law 400 = .ok (.invokevirtual 24, 3) := by decide +kernel
theorem dL_law_403 : decode cL_law 403 = .ok (.imul, 1) := by decide +kernel
theorem dL_law_404 : decode cL_law 404 = .ok (.iadd, 1) := by decide +kernel
theorem dL_law_405 : decode cL_law 405 = .ok (.aload_n 1, 1) := by decide +kernel
theorem dL_law_406 : decode cL_law 406 = .ok (.iload 12, 2) := by decide +kernel
theorem dL_law_408 : decode cL_law 408 = .ok (.invokevirtual 28, 3) := by decide +kernel
theorem dL_law_411 : decode cL_law 411 = .ok (.iadd, 1) := by decide +kernel
theorem dL_law_412 : decode cL_law 412 = .ok (.istore 11, 2) := by decide +kernel
theorem dL_law_414 : decode cL_law 414 = .ok (.iinc 12 1, 3) := by decide +kernel
theorem dL_law_417 : decode cL_law 417 = .ok (.goto (-36), 3) := by decide +kernel
theorem dL_law_420 : decode cL_law 420 = .ok (.iload 6, 2) := by decide +kernel
theorem dL_law_422 : decode cL_law 422 = .ok (.ifCond .eq 18, 3) := by decide +kernel
theorem dL_law_425 : decode cL_law 425 = .ok (.aload_n 1, 1) := by decide +kernel
theorem dL_law_426 : decode cL_law 426 = .ok (.aload_n 2, 1) := by decide +kernel
theorem dL_law_427 : decode cL_law 427 = .ok (.aload_n 3, 1) := by decide +kernel
theorem dL_law_428 : decode cL_law 428 = .ok (.iload 8, 2) := by decide +kernel
theorem dL_law_430 : decode cL_law 430 = .ok (.invokestatic 73, 3) := by decide +kernel
theorem dL_law_433 : decode cL_law 433 = .ok (.ifCond .eq 7, 3) := by decide +kernel
theorem dL_law_436 : decode cL_law 436 = .ok (.iconst 1, 1) := by decide +kernel
theorem dL_law_437 : decode cL_law 437 = .ok (.goto 4, 3) := by decide +kernel
theorem dL_law_440 : decode cL_law 440 = .ok (.iconst 0, 1) := by decide +kernel
theorem dL_law_441 : decode cL_law 441 = .ok (.istore 6, 2) := by decide +kernel
theorem dL_law_443 : decode cL_law 443 = .ok (.iconst 0, 1) := by decide +kernel
theorem dL_law_444 : decode cL_law 444 = .ok (.istore 12, 2) := by decide +kernel
theorem dL_law_446 : decode cL_law 446 = .ok (.iconst 0, 1) := by decide +kernel
theorem dL_law_447 : decode cL_law 447 = .ok (.istore 13, 2) := by decide +kernel
theorem dL_law_449 : decode cL_law 449 = .ok (.iload 13, 2) := by decide +kernel
theorem dL_law_451 : decode cL_law 451 = .ok (.bipush 40, 2) := by decide +kernel
theorem dL_law_453 : decode cL_law 453 = .ok (.if_icmp .ge 150, 3) := by decide +kernel
theorem dL_law_456 : decode cL_law 456 = .ok (.iload 12, 2) := by decide +kernel
theorem dL_law_458 : decode cL_law 458 = .ok (.bipush 8, 2) := by decide +kernel
theorem dL_law_460 : decode cL_law 460 = .ok (.if_icmp .ge 143, 3) := by decide +kernel
theorem dL_law_463 : decode cL_law 463 = .ok (.iload 6, 2) := by decide +kernel
theorem dL_law_465 : decode cL_law 465 = .ok (.ifCond .eq 138, 3) := by decide +kernel
theorem dL_law_468 : decode cL_law 468 = .ok (.aload_n 0, 1) := by decide +kernel
theorem dL_law_469 : decode cL_law 469 = .ok (.bipush 11, 2) := by decide +kernel
theorem dL_law_471 : decode cL_law 471 = .ok (.iload 13, 2) := by decide +kernel
theorem dL_law_473 : decode cL_law 473 = .ok (.iadd, 1) := by decide +kernel
theorem dL_law_474 : decode cL_law 474 = .ok (.aload_n 1, 1) := by decide +kernel
theorem dL_law_475 : decode cL_law 475 = .ok (.invokevirtual 14, 3) := by decide +kernel
theorem dL_law_478 : decode cL_law 478 = .ok (.invokestatic 62, 3) := by decide +kernel
theorem dL_law_481 : decode cL_law 481 = .ok (.istore 14, 2) := by decide +kernel
theorem dL_law_483 : decode cL_law 483 = .ok (.aload_n 0, 1) := by decide +kernel
theorem dL_law_484 : decode cL_law 484 = .ok (.bipush 12, 2) := by decide +kernel
theorem dL_law_486 : decode cL_law 486 = .ok (.iconst 2, 1) := by decide +kernel
theorem dL_law_487 : decode cL_law 487 = .ok (.iload 13, 2) := by decide +kernel
theorem dL_law_489 : decode cL_law 489 = .ok (.imul, 1) := by decide +kernel
theorem dL_law_490 : decode cL_law 490 = .ok (.iadd, 1) := by decide +kernel
theorem dL_law_491 : decode cL_law 491 = .ok (.iconst 2, 1) := by decide +kernel
theorem dL_law_492 : decode cL_law 492 = .ok (.invokestatic 62, 3) := by decide +kernel
theorem dL_law_495 : decode cL_law 495 = .ok (.ifCond .ne 7, 3) := by decide +kernel
theorem dL_law_498 : decode cL_law 498 = .ok (.iconst 1, 1) := by decide +kernel
theorem dL_law_499 : decode cL_law 499 = .ok (.goto 4, 3) := by decide +kernel
theorem dL_law_502 : decode cL_law 502 = .ok (.iconst 0, 1) := by decide +kernel
theorem dL_law_503 : decode cL_law 503 = .ok (.istore 15, 2) := by decide +kernel
theorem dL_law_505 : decode cL_law 505 = .ok (.aload_n 1, 1) := by decide +kernel
theorem dL_law_506 : decode cL_law 506 = .ok (.iload 14, 2) := by decide +kernel
theorem dL_law_508 : decode cL_law 508 = .ok (.iload 15, 2) := by decide +kernel
theorem dL_law_510 : decode cL_law 510 = .ok (.invokevirtual 31, 3) := by decide +kernel
theorem dL_law_513 : decode cL_law 513 = .ok (.istore 16, 2) := by decide +kernel
theorem dL_law_515 : decode cL_law 515 = .ok (.iload 16, 2) := by decide +kernel
theorem dL_law_517 : decode cL_law 517 = .ok (.ifCond .le 80, 3) := by decide +kernel
theorem dL_law_520 : decode cL_law 520 = .ok (.iconst 1, 1) := by decide +kernel
theorem dL_law_521 : decode cL_law 521 = .ok (.aload_n 0, 1) := by decide +kernel
theorem dL_law_522 : decode cL_law 522 = .ok (.bipush 13, 2) := by decide +kernel
theorem dL_law_524 : decode cL_law 524 = .ok (.iload 13, 2) := by decide +kernel
theorem dL_law_526 : decode cL_law 526 = .ok (.iadd, 1) := by decide +kernel
theorem dL_law_527 : decode cL_law 527 = .ok (.iload 16, 2) := by decide +kernel
theorem dL_law_529 : decode cL_law 529 = .ok (.invokestatic 62, 3) := by decide +kernel
theorem dL_law_532 : decode cL_law 532 = .ok (.iadd, 1) := by decide +kernel
theorem dL_law_533 : decode cL_law 533 = .ok (.istore 17, 2) := by decide +kernel
theorem dL_law_535 : decode cL_law 535 = .ok (.aload 4, 2) := by decide +kernel
theorem dL_law_537 : decode cL_law 537 = .ok (.iload 12, 2) := by decide +kernel
theorem dL_law_539 : decode cL_law 539 = .ok (.iload 14, 2) := by decide +kernel
theorem dL_law_541 : decode cL_law 541 = .ok (.iastore, 1) := by decide +kernel
theorem dL_law_542 : decode cL_law 542 = .ok (.aload 5, 2) := by decide +kernel
theorem dL_law_544 : decode cL_law 544 = .ok (.iload 12, 2) := by decide +kernel
theorem dL_law_546 : decode cL_law 546 = .ok (.iload 15, 2) := by decide +kernel
theorem dL_law_548 : decode cL_law 548 = .ok (.ifCond .eq 8, 3) := by decide +kernel
theorem dL_law_551 : decode cL_law 551 = .ok (.iload 17, 2) := by decide +kernel
theorem dL_law_553 : decode cL_law 553 = .ok (.goto 6, 3) := by decide +kernel
theorem dL_law_556 : decode cL_law 556 = .ok (.iload 17, 2) := by decide +kernel
theorem dL_law_558 : decode cL_law 558 = .ok (.ineg, 1) := by decide +kernel
theorem dL_law_559 : decode cL_law 559 = .ok (.iastore, 1) := by decide +kernel
theorem dL_law_560 : decode cL_law 560 = .ok (.aload_n 1, 1) := by decide +kernel
theorem dL_law_561 : decode cL_law 561 = .ok (.iload 14, 2) := by decide +kernel
theorem dL_law_563 : decode cL_law 563 = .ok (.aload 5, 2) := by decide +kernel
theorem dL_law_565 : decode cL_law 565 = .ok (.iload 12, 2) := by decide +kernel
theorem dL_law_567 : decode cL_law 567 = .ok (.iaload, 1) := by decide +kernel
theorem dL_law_568 : decode cL_law 568 = .ok (.iload 10, 2) := by decide +kernel
theorem dL_law_570 : decode cL_law 570 = .ok (.invokestatic 77, 3) := by decide +kernel
theorem dL_law_573 : decode cL_law 573 = .ok (.ifCond .eq 18, 3) := by decide +kernel
theorem dL_law_576 : decode cL_law 576 = .ok (.aload_n 1, 1) := by decide +kernel
theorem dL_law_577 : decode cL_law 577 = .ok (.aload_n 2, 1) := by decide +kernel
theorem dL_law_578 : decode cL_law 578 = .ok (.aload_n 3, 1) := by decide +kernel
theorem dL_law_579 : decode cL_law 579 = .ok (.iload 8, 2) := by decide +kernel
theorem dL_law_581 : decode cL_law 581 = .ok (.invokestatic 73, 3) := by decide +kernel
theorem dL_law_584 : decode cL_law 584 = .ok (.ifCond .eq 7, 3) := by decide +kernel
theorem dL_law_587 : decode cL_law 587 = .ok (.iconst 1, 1) := by decide +kernel
theorem dL_law_588 : decode cL_law 588 = .ok (.goto 4, 3) := by decide +kernel
theorem dL_law_591 : decode cL_law 591 = .ok (.iconst 0, 1) := by decide +kernel
theorem dL_law_592 : decode cL_law 592 = .ok (.istore 6, 2) := by decide +kernel
theorem dL_law_594 : decode cL_law 594 = .ok (.iinc 12 1, 3) := by decide +kernel
theorem dL_law_597 : decode cL_law 597 = .ok (.iinc 13 1, 3) := by decide +kernel
theorem dL_law_600 : decode cL_law 600 = .ok (.goto (-151), 3) := by decide +kernel
theorem dL_law_603 : decode cL_law 603 = .ok (.aload_n 1, 1) := by decide +kernel
theorem dL_law_604 : decode cL_law 604 = .ok (.invokevirtual 48, 3) := by decide +kernel
theorem dL_law_607 : decode cL_law 607 = .ok (.istore 13, 2) := by decide +kernel
theorem dL_law_609 : decode cL_law 609 = .ok (.iload 12, 2) := by decide +kernel
theorem dL_law_611 : decode cL_law 611 = .ok (.iconst 1, 1) := by decide +kernel
theorem dL_law_612 : decode cL_law 612 = .ok (.isub, 1) := by decide +kernel
theorem dL_law_613 : decode cL_law 613 = .ok (.istore 14, 2) := by decide +kernel
theorem dL_law_615 : decode cL_law 615 = .ok (.iload 14, 2) := by decide +kernel
theorem dL_law_617 : decode cL_law 617 = .ok (.ifCond .lt 52, 3) := by decide +kernel
theorem dL_law_620 : decode cL_law 620 = .ok (.iload 6, 2) := by decide +kernel
theorem dL_law_622 : decode cL_law 622 = .ok (.ifCond .eq 47, 3) := by decide +kernel
theorem dL_law_625 : decode cL_law 625 = .ok (.aload_n 1, 1) := by decide +kernel
theorem dL_law_626 : decode cL_law 626 = .ok (.aload 4, 2) := by decide +kernel
theorem dL_law_628 : decode cL_law 628 = .ok (.iload 14, 2) := by decide +kernel
theorem dL_law_630 : decode cL_law 630 = .ok (.iaload, 1) := by decide +kernel
theorem dL_law_631 : decode cL_law 631 = .ok (.aload 5, 2) := by decide +kernel
theorem dL_law_633 : decode cL_law 633 = .ok (.iload 14, 2) := by decide +kernel
theorem dL_law_635 : decode cL_law 635 = .ok (.iaload, 1) := by decide +kernel
theorem dL_law_636 : decode cL_law 636 = .ok (.ineg, 1) := by decide +kernel
theorem dL_law_637 : decode cL_law 637 = .ok (.iload 10, 2) := by decide +kernel
theorem dL_law_639 : decode cL_law 639 = .ok (.invokestatic 77, 3) := by decide +kernel
theorem dL_law_642 : decode cL_law 642 = .ok (.ifCond .eq 18, 3) := by decide +kernel
theorem dL_law_645 : decode cL_law 645 = .ok (.aload_n 1, 1) := by decide +kernel
theorem dL_law_646 : decode cL_law 646 = .ok (.aload_n 2, 1) := by decide +kernel
theorem dL_law_647 : decode cL_law 647 = .ok (.aload_n 3, 1) := by decide +kernel
theorem dL_law_648 : decode cL_law 648 = .ok (.iload 8, 2) := by decide +kernel
theorem dL_law_650 : decode cL_law 650 = .ok (.invokestatic 73, 3) := by decide +kernel
theorem dL_law_653 : decode cL_law 653 = .ok (.ifCond .eq 7, 3) := by decide +kernel
theorem dL_law_656 : decode cL_law 656 = .ok (.iconst 1, 1) := by decide +kernel
theorem dL_law_657 : decode cL_law 657 = .ok (.goto 4, 3) := by decide +kernel
theorem dL_law_660 : decode cL_law 660 = .ok (.iconst 0, 1) := by decide +kernel
theorem dL_law_661 : decode cL_law 661 = .ok (.istore 6, 2) := by decide +kernel
theorem dL_law_663 : decode cL_law 663 = .ok (.iinc 14 (-1), 3) := by decide +kernel
theorem dL_law_666 : decode cL_law 666 = .ok (.goto (-51), 3) := by decide +kernel
theorem dL_law_669 : decode cL_law 669 = .ok (.iconst 0, 1) := by decide +kernel
theorem dL_law_670 : decode cL_law 670 = .ok (.istore 14, 2) := by decide +kernel
theorem dL_law_672 : decode cL_law 672 = .ok (.iconst 0, 1) := by decide +kernel
theorem dL_law_673 : decode cL_law 673 = .ok (.istore 15, 2) := by decide +kernel
theorem dL_law_675 : decode cL_law 675 = .ok (.iload 15, 2) := by decide +kernel
theorem dL_law_677 : decode cL_law 677 = .ok (.aload_n 1, 1) := by decide +kernel
theorem dL_law_678 : decode cL_law 678 = .ok (.invokevirtual 14, 3) := by decide +kernel
theorem dL_law_681 : decode cL_law 681 = .ok (.if_icmp .ge 33, 3) := by decide +kernel
theorem dL_law_684 : decode cL_law 684 = .ok (.bipush 31, 2) := by decide +kernel
theorem dL_law_686 : decode cL_law 686 = .ok (.iload 14, 2) := by decide +kernel
theorem dL_law_688 : decode cL_law 688 = .ok (.imul, 1) := by decide +kernel
theorem dL_law_689 : decode cL_law 689 = .ok (.bipush 6, 2) := by decide +kernel
theorem dL_law_691 : decode cL_law 691 = .ok (.aload_n 1, 1) := by decide +kernel
theorem dL_law_692 : decode cL_law 692 = .ok (.iload 15, 2) := by decide +kernel
theorem dL_law_694 : decode cL_law 694 = .ok (.invokevirtual 24, 3) := by decide +kernel
theorem dL_law_697 : decode cL_law 697 = .ok (.imul, 1) := by decide +kernel
theorem dL_law_698 : decode cL_law 698 = .ok (.iadd, 1) := by decide +kernel
theorem dL_law_699 : decode cL_law 699 = .ok (.aload_n 1, 1) := by decide +kernel
theorem dL_law_700 : decode cL_law 700 = .ok (.iload 15, 2) := by decide +kernel
theorem dL_law_702 : decode cL_law 702 = .ok (.invokevirtual 28, 3) := by decide +kernel
theorem dL_law_705 : decode cL_law 705 = .ok (.iadd, 1) := by decide +kernel
theorem dL_law_706 : decode cL_law 706 = .ok (.istore 14, 2) := by decide +kernel
theorem dL_law_708 : decode cL_law 708 = .ok (.iinc 15 1, 3) := by decide +kernel
theorem dL_law_711 : decode cL_law 711 = .ok (.goto (-36), 3) := by decide +kernel
theorem dL_law_714 : decode cL_law 714 = .ok (.iload 6, 2) := by decide +kernel
theorem dL_law_716 : decode cL_law 716 = .ok (.ifCond .eq 36, 3) := by decide +kernel
theorem dL_law_719 : decode cL_law 719 = .ok (.iload 14, 2) := by decide +kernel
theorem dL_law_721 : decode cL_law 721 = .ok (.iload 11, 2) := by decide +kernel
theorem dL_law_723 : decode cL_law 723 = .ok (.if_icmp .ne 29, 3) := by decide +kernel
theorem dL_law_726 : decode cL_law 726 = .ok (.aload_n 1, 1) := by decide +kernel
theorem dL_law_727 : decode cL_law 727 = .ok (.invokevirtual 45, 3) := by decide +kernel
theorem dL_law_730 : decode cL_law 730 = .ok (.iconst 2, 1) := by decide +kernel
theorem dL_law_731 : decode cL_law 731 = .ok (.iload 12, 2) := by decide +kernel
theorem dL_law_733 : decode cL_law 733 = .ok (.imul, 1) := by decide +kernel
theorem dL_law_734 : decode cL_law 734 = .ok (.if_icmp .ne 18, 3) := by decide +kernel
theorem dL_law_737 : decode cL_law 737 = .ok (.aload_n 1, 1) := by decide +kernel
theorem dL_law_738 : decode cL_law 738 = .ok (.invokevirtual 48, 3) := by decide +kernel
theorem dL_law_741 : decode cL_law 741 = .ok (.iconst 2, 1) := by decide +kernel
theorem dL_law_742 : decode cL_law 742 = .ok (.iload 13, 2) := by decide +kernel
theorem dL_law_744 : decode cL_law 744 = .ok (.imul, 1) := by decide +kernel
theorem dL_law_745 : decode cL_law 745 = .ok (.if_icmp .ne 7, 3) := by decide +kernel
theorem dL_law_748 : decode cL_law 748 = .ok (.iconst 1, 1) := by decide +kernel
theorem dL_law_749 : decode cL_law 749 = .ok (.goto 4, 3) := by decide +kernel
theorem dL_law_752 : decode cL_law 752 = .ok (.iconst 0, 1) := by decide +kernel
theorem dL_law_753 : decode cL_law 753 = .ok (.istore 6, 2) := by decide +kernel
theorem dL_law_755 : decode cL_law 755 = .ok (.aload_n 1, 1) := by decide +kernel
theorem dL_law_756 : decode cL_law 756 = .ok (.invokevirtual 81, 3) := by decide +kernel
theorem dL_law_759 : decode cL_law 759 = .ok (.iload 6, 2) := by decide +kernel
theorem dL_law_761 : decode cL_law 761 = .ok (.ifCond .eq 41, 3) := by decide +kernel
theorem dL_law_764 : decode cL_law 764 = .ok (.aload_n 1, 1) := by decide +kernel
theorem dL_law_765 : decode cL_law 765 = .ok (.invokevirtual 45, 3) := by decide +kernel
theorem dL_law_768 : decode cL_law 768 = .ok (.ifCond .ne 34, 3) := by decide +kernel
theorem dL_law_771 : decode cL_law 771 = .ok (.aload_n 1, 1) := by decide +kernel
theorem dL_law_772 : decode cL_law 772 = .ok (.invokevirtual 48, 3) := by decide +kernel
theorem dL_law_775 : decode cL_law 775 = .ok (.ifCond .ne 27, 3) := by decide +kernel
theorem dL_law_778 : decode cL_law 778 = .ok (.aload_n 1, 1) := by decide +kernel
theorem dL_law_779 : decode cL_law 779 = .ok (.invokevirtual 55, 3) := by decide +kernel
theorem dL_law_782 : decode cL_law 782 = .ok (.iload 10, 2) := by decide +kernel
theorem dL_law_784 : decode cL_law 784 = .ok (.if_icmp .ne 18, 3) := by decide +kernel
theorem dL_law_787 : decode cL_law 787 = .ok (.aload_n 1, 1) := by decide +kernel
theorem dL_law_788 : decode cL_law 788 = .ok (.aload_n 2, 1) := by decide +kernel
theorem dL_law_789 : decode cL_law 789 = .ok (.aload_n 3, 1) := by decide +kernel
theorem dL_law_790 : decode cL_law 790 = .ok (.iload 8, 2) := by decide +kernel
theorem dL_law_792 : decode cL_law 792 = .ok (.invokestatic 73, 3) := by decide +kernel
theorem dL_law_795 : decode cL_law 795 = .ok (.ifCond .eq 7, 3) := by decide +kernel
theorem dL_law_798 : decode cL_law 798 = .ok (.iconst 1, 1) := by decide +kernel
theorem dL_law_799 : decode cL_law 799 = .ok (.goto 4, 3) := by decide +kernel
theorem dL_law_802 : decode cL_law 802 = .ok (.iconst 0, 1) := by decide +kernel
theorem dL_law_803 : decode cL_law 803 = .ok (.ireturn, 1) := by decide +kernel
