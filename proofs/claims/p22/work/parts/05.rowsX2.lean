set_option maxRecDepth 20000 in
theorem ggX2_init_X1_init : GoodIn wsX2_init wsX1_init := goodIn_r _ [13, 14, 2, 3, 15, 16, 17, 18, 19, 20, 21, 31, 32, 33, 34, 35, 36] (by decide +kernel) (by decide +kernel)
set_option maxRecDepth 20000 in
theorem gX2_init_X1_init_n9 : GoodIn wsX2_init (wsX1_init) := ggX2_init_X1_init
set_option maxRecDepth 20000 in
theorem ggX2_init_X0_init : GoodIn wsX2_init wsX0_init := goodIn_r _ [24, 25, 2, 3, 15, 26, 27, 28, 29, 30, 44, 45, 46, 47, 48, 49, 50, 51, 52, 53] (by decide +kernel) (by decide +kernel)
set_option maxRecDepth 20000 in
theorem gX2_init_X0_init : GoodIn wsX2_init (wsX0_init) := ggX2_init_X0_init
theorem dX2_init_0 : decode cX2_init 0 = .ok (.aload_n 0, 1) := by decide +kernel
theorem dX2_init_1 : decode cX2_init 1 = .ok (.invokespecial 1, 3) := by decide +kernel
theorem dX2_init_4 : decode cX2_init 4 = .ok (.aload_n 0, 1) := by decide +kernel
theorem dX2_init_5 : decode cX2_init 5 = .ok (.new 7, 3) := by decide +kernel
theorem dX2_init_8 : decode cX2_init 8 = .ok (.dup, 1) := by decide +kernel
theorem dX2_init_9 : decode cX2_init 9 = .ok (.invokespecial 9, 3) := by decide +kernel
theorem dX2_init_12 : decode cX2_init 12 = .ok (.putfield 10, 3) := by decide +kernel
theorem dX2_init_15 : decode cX2_init 15 = .ok (.aload_n 0, 1) := by decide +kernel
theorem dX2_init_16 : decode cX2_init 16 = .ok (.new 16, 3) := by decide +kernel
theorem dX2_init_19 : decode cX2_init 19 = .ok (.dup, 1) := by decide +kernel
theorem dX2_init_20 : decode cX2_init 20 = .ok (.aload_n 0, 1) := by decide +kernel
theorem dX2_init_21 : decode cX2_init 21 = .ok (.getfield 10, 3) := by decide +kernel
theorem dX2_init_24 : decode cX2_init 24 = .ok (.invokespecial 18, 3) := by decide +kernel
theorem dX2_init_27 : decode cX2_init 27 = .ok (.putfield 21, 3) := by decide +kernel
theorem dX2_init_30 : decode cX2_init 30 = .ok (.return_, 1) := by decide +kernel
set_option maxRecDepth 20000 in
theorem ggX2_park_X2_isInYard : GoodIn wsX2_park wsX2_isInYard := goodIn_r _ [12] (by decide +kernel) (by decide +kernel)
set_option maxRecDepth 20000 in
theorem gX2_park_X2_isInYard : GoodIn wsX2_park (va_wsS RX2 25 yX2_isInYard wsX2_isInYard) := goodIn_app (goodIn_of _ (by decide +kernel)) ggX2_park_X2_isInYard
set_option maxRecDepth 20000 in
theorem ggX2_park_X1_count : GoodIn wsX2_park wsX1_count := goodIn_r _ [17, 18, 67, 68, 69, 70, 71, 72] (by decide +kernel) (by decide +kernel)
set_option maxRecDepth 20000 in
theorem gX2_park_X1_count : GoodIn wsX2_park (wsV RX2 38 RX1 yX1_count wsX1_count) := goodIn_app (goodIn_of _ (by decide +kernel)) ggX2_park_X1_count
set_option maxRecDepth 20000 in
theorem ggX2_park_X2_cellsOf : GoodIn wsX2_park wsX2_cellsOf := goodIn_r _ [21, 22, 23, 11, 24] (by decide +kernel) (by decide +kernel)
set_option maxRecDepth 20000 in
theorem gX2_park_X2_cellsOf : GoodIn wsX2_park (va_wsS RX2 53 yX2_cellsOf wsX2_cellsOf) := goodIn_app (goodIn_of _ (by decide +kernel)) ggX2_park_X2_cellsOf
set_option maxRecDepth 20000 in
theorem ggX2_park_X1_filledIn : GoodIn wsX2_park wsX1_filledIn := goodIn_r _ [28, 18, 29, 30, 31, 16, 32, 33, 34, 35, 36, 37, 38, 39, 11, 40, 67, 68, 69, 70, 71, 72] (by decide +kernel) (by decide +kernel)
set_option maxRecDepth 20000 in
theorem gX2_park_X1_filledIn : GoodIn wsX2_park (wsV RX2 60 RX1 yX1_filledIn wsX1_filledIn) := goodIn_app (goodIn_of _ (by decide +kernel)) ggX2_park_X1_filledIn
set_option maxRecDepth 20000 in
theorem ggX2_park_X1_barredTo : GoodIn wsX2_park wsX1_barredTo := goodIn_r _ [44, 45, 67, 68, 69, 70, 71, 72] (by decide +kernel) (by decide +kernel)
set_option maxRecDepth 20000 in
theorem gX2_park_X1_barredTo : GoodIn wsX2_park (wsV RX2 64 RX1 yX1_barredTo wsX1_barredTo) := goodIn_app (goodIn_of _ (by decide +kernel)) ggX2_park_X1_barredTo
set_option maxRecDepth 20000 in
theorem ggX2_park_X1_add : GoodIn wsX2_park wsX1_add := goodIn_r _ [49, 18, 50, 33, 51, 34, 20, 11, 21, 22, 23, 24, 67, 68, 69, 70, 71, 72] (by decide +kernel) (by decide +kernel)
set_option maxRecDepth 20000 in
theorem gX2_park_X1_add : GoodIn wsX2_park (wsV RX2 69 RX1 yX1_add wsX1_add) := goodIn_app (goodIn_of _ (by decide +kernel)) ggX2_park_X1_add
set_option maxRecDepth 20000 in
theorem ggX2_park_X2_moved : GoodIn wsX2_park wsX2_moved := goodIn_r _ [54] (by decide +kernel) (by decide +kernel)
set_option maxRecDepth 20000 in
theorem gX2_park_X2_moved : GoodIn wsX2_park (va_wsS RX2 76 yX2_moved wsX2_moved) := goodIn_app (goodIn_of _ (by decide +kernel)) ggX2_park_X2_moved
set_option maxRecDepth 20000 in
theorem ggX2_park_X2_standAt : GoodIn wsX2_park wsX2_standAt := goodIn_r _ [58, 7, 59, 60, 61, 62, 63, 64, 65, 66] (by decide +kernel) (by decide +kernel)
set_option maxRecDepth 20000 in
theorem gX2_park_X2_standAt : GoodIn wsX2_park (wsV RX2 80 RX2 yX2_standAt wsX2_standAt) := goodIn_app (goodIn_of _ (by decide +kernel)) ggX2_park_X2_standAt
theorem dX2_park_0 : decode cX2_park 0 = .ok (.iload_n 1, 1) := by decide +kernel
theorem dX2_park_1 : decode cX2_park 1 = .ok (.iconst 2, 1) := by decide +kernel
theorem dX2_park_2 : decode cX2_park 2 = .ok (.if_icmp .lt 17, 3) := by decide +kernel
theorem dX2_park_5 : decode cX2_park 5 = .ok (.iload_n 1, 1) := by decide +kernel
theorem dX2_park_6 : decode cX2_park 6 = .ok (.iconst 4, 1) := by decide +kernel
theorem dX2_park_7 : decode cX2_park 7 = .ok (.if_icmp .gt 12, 3) := by decide +kernel
theorem dX2_park_10 : decode cX2_park 10 = .ok (.iload_n 3, 1) := by decide +kernel
theorem dX2_park_11 : decode cX2_park 11 = .ok (.iload 4, 2) := by decide +kernel
theorem dX2_park_13 : decode cX2_park 13 = .ok (.invokestatic 25, 3) := by decide +kernel
theorem dX2_park_16 : decode cX2_park 16 = .ok (.ifCond .ne 13, 3) := by decide +kernel
theorem dX2_park_19 : decode cX2_park 19 = .ok (.new 29, 3) := by decide +kernel
theorem dX2_park_22 : decode cX2_park 22 = .ok (.dup, 1) := by decide +kernel
theorem dX2_park_23 : decode cX2_park 23 = .ok (.ldc 31, 2) := by decide +kernel
theorem dX2_park_25 : decode cX2_park 25 = .ok (.invokespecial 33, 3) := by decide +kernel
theorem dX2_park_28 : decode cX2_park 28 = .ok (.athrow, 1) := by decide +kernel
theorem dX2_park_29 : decode cX2_park 29 = .ok (.iload_n 2, 1) := by decide +kernel
theorem dX2_park_30 : decode cX2_park 30 = .ok (.ifCond .eq 7, 3) := by decide +kernel
theorem dX2_park_33 : decode cX2_park 33 = .ok (.iload_n 3, 1) := by decide +kernel
theorem dX2_park_34 : decode cX2_park 34 = .ok (.goto 5, 3) := by decide +kernel
theorem dX2_park_37 : decode cX2_park 37 = .ok (.iload 4, 2) := by decide +kernel
theorem dX2_park_39 : decode cX2_park 39 = .ok (.istore 5, 2) := by decide +kernel
theorem dX2_park_41 : decode cX2_park 41 = .ok (.iload_n 2, 1) := by decide +kernel
theorem dX2_park_42 : decode cX2_park 42 = .ok (.ifCond .eq 8, 3) := by decide +kernel
theorem dX2_park_45 : decode cX2_park 45 = .ok (.iload 4, 2) := by decide +kernel
theorem dX2_park_47 : decode cX2_park 47 = .ok (.goto 4, 3) := by decide +kernel
theorem dX2_park_50 : decode cX2_park 50 = .ok (.iload_n 3, 1) := by decide +kernel
theorem dX2_park_51 : decode cX2_park 51 = .ok (.istore 6, 2) := by decide +kernel
theorem dX2_park_53 : decode cX2_park 53 = .ok (.iload 6, 2) := by decide +kernel
theorem dX2_park_55 : decode cX2_park 55 = .ok (.iload_n 1, 1) := by decide +kernel
theorem dX2_park_56 : decode cX2_park 56 = .ok (.iadd, 1) := by decide +kernel
theorem dX2_park_57 : decode cX2_park 57 = .ok (.bipush 6, 2) := by decide +kernel
theorem dX2_park_59 : decode cX2_park 59 = .ok (.if_icmp .le 13, 3) := by decide +kernel
theorem dX2_park_62 : decode cX2_park 62 = .ok (.new 29, 3) := by decide +kernel
theorem dX2_park_65 : decode cX2_park 65 = .ok (.dup, 1) := by decide +kernel
theorem dX2_park_66 : decode cX2_park 66 = .ok (.ldc 36, 2) := by decide +kernel
theorem dX2_park_68 : decode cX2_park 68 = .ok (.invokespecial 33, 3) := by decide +kernel
theorem dX2_park_71 : decode cX2_park 71 = .ok (.athrow, 1) := by decide +kernel
theorem dX2_park_72 : decode cX2_park 72 = .ok (.aload_n 0, 1) := by decide +kernel
theorem dX2_park_73 : decode cX2_park 73 = .ok (.getfield 10, 3) := by decide +kernel
theorem dX2_park_76 : decode cX2_park 76 = .ok (.invokevirtual 38, 3) := by decide +kernel
theorem dX2_park_79 : decode cX2_park 79 = .ok (.ifCond .ne 27, 3) := by decide +kernel
theorem dX2_park_82 : decode cX2_park 82 = .ok (.iload_n 1, 1) := by decide +kernel
theorem dX2_park_83 : decode cX2_park 83 = .ok (.iconst 2, 1) := by decide +kernel
theorem dX2_park_84 : decode cX2_park 84 = .ok (.if_icmp .ne 12, 3) := by decide +kernel
theorem dX2_park_87 : decode cX2_park 87 = .ok (.iload_n 2, 1) := by decide +kernel
theorem dX2_park_88 : decode cX2_park 88 = .ok (.ifCond .eq 8, 3) := by decide +kernel
theorem dX2_park_91 : decode cX2_park 91 = .ok (.iload_n 3, 1) := by decide +kernel
theorem dX2_park_92 : decode cX2_park 92 = .ok (.iconst 2, 1) := by decide +kernel
theorem dX2_park_93 : decode cX2_park 93 = .ok (.if_icmp .eq 13, 3) := by decide +kernel
theorem dX2_park_96 : decode cX2_park 96 = .ok (.new 29, 3) := by decide +kernel
theorem dX2_park_99 : decode cX2_park 99 = .ok (.dup, 1) := by decide +kernel
theorem dX2_park_100 : decode cX2_park 100 = .ok (.ldc 42, 2) := by decide +kernel
theorem dX2_park_102 : decode cX2_park 102 = .ok (.invokespecial 33, 3) := by decide +kernel
theorem dX2_park_105 : decode cX2_park 105 = .ok (.athrow, 1) := by decide +kernel
theorem dX2_park_106 : decode cX2_park 106 = .ok (.aload_n 0, 1) := by decide +kernel
theorem dX2_park_107 : decode cX2_park 107 = .ok (.getfield 44, 3) := by decide +kernel
theorem dX2_park_110 : decode cX2_park 110 = .ok (.ifCond .gt 15, 3) := by decide +kernel
theorem dX2_park_113 : decode cX2_park 113 = .ok (.aload_n 0, 1) := by decide +kernel
theorem dX2_park_114 : decode cX2_park 114 = .ok (.getfield 10, 3) := by decide +kernel
theorem dX2_park_117 : decode cX2_park 117 = .ok (.invokevirtual 38, 3) := by decide +kernel
theorem dX2_park_120 : decode cX2_park 120 = .ok (.bipush 9, 2) := by decide +kernel
theorem dX2_park_122 : decode cX2_park 122 = .ok (.if_icmp .lt 13, 3) := by decide +kernel
theorem dX2_park_125 : decode cX2_park 125 = .ok (.new 48, 3) := by decide +kernel
theorem dX2_park_128 : decode cX2_park 128 = .ok (.dup, 1) := by decide +kernel
theorem dX2_park_129 : decode cX2_park 129 = .ok (.ldc 50, 2) := by decide +kernel
theorem dX2_park_131 : decode cX2_park 131 = .ok (.invokespecial 52, 3) := by decide +kernel
theorem dX2_park_134 : decode cX2_park 134 = .ok (.athrow, 1) := by decide +kernel
theorem dX2_park_135 : decode cX2_park 135 = .ok (.iload_n 1, 1) := by decide +kernel
theorem dX2_park_136 : decode cX2_park 136 = .ok (.iload_n 2, 1) := by decide +kernel
theorem dX2_park_137 : decode cX2_park 137 = .ok (.iload_n 3, 1) := by decide +kernel
theorem dX2_park_138 : decode cX2_park 138 = .ok (.iload 4, 2) := by decide +kernel
theorem dX2_park_140 : decode cX2_park 140 = .ok (.invokestatic 53, 3) := by decide +kernel
theorem dX2_park_143 : decode cX2_park 143 = .ok (.lstore 7, 2) := by decide +kernel
theorem dX2_park_145 : decode cX2_park 145 = .ok (.lload 7, 2) := by decide +kernel
theorem dX2_park_147 : decode cX2_park 147 = .ok (.aload_n 0, 1) := by decide +kernel
theorem dX2_park_148 : decode cX2_park 148 = .ok (.getfield 10, 3) := by decide +kernel
theorem dX2_park_151 : decode cX2_park 151 = .ok (.aload_n 0, 1) := by decide +kernel
theorem dX2_park_152 : decode cX2_park 152 = .ok (.getfield 57, 3) := by decide +kernel
theorem dX2_park_155 : decode cX2_park 155 = .ok (.invokevirtual 60, 3) := by decide +kernel
theorem dX2_park_158 : decode cX2_park 158 = .ok (.aload_n 0, 1) := by decide +kernel
theorem dX2_park_159 : decode cX2_park 159 = .ok (.getfield 10, 3) := by decide +kernel
theorem dX2_park_162 : decode cX2_park 162 = .ok (.iload_n 1, 1) := by decide +kernel
theorem dX2_park_163 : decode cX2_park 163 = .ok (.invokevirtual 64, 3) := by decide +kernel
theorem dX2_park_166 : decode cX2_park 166 = .ok (.lor, 1) := by decide +kernel
theorem dX2_park_167 : decode cX2_park 167 = .ok (.land, 1) := by decide +kernel
theorem dX2_park_168 : decode cX2_park 168 = .ok (.lconst 0, 1) := by decide +kernel
theorem dX2_park_169 : decode cX2_park 169 = .ok (.lcmp, 1) := by decide +kernel
theorem dX2_park_170 : decode cX2_park 170 = .ok (.ifCond .eq 13, 3) := by decide +kernel
theorem dX2_park_173 : decode cX2_park 173 = .ok (.new 48, 3) := by decide +kernel
theorem dX2_park_176 : decode cX2_park 176 = .ok (.dup, 1) := by decide +kernel
theorem dX2_park_177 : decode cX2_park 177 = .ok (.ldc 67, 2) := by decide +kernel
theorem dX2_park_179 : decode cX2_park 179 = .ok (.invokespecial 52, 3) := by decide +kernel
theorem dX2_park_182 : decode cX2_park 182 = .ok (.athrow, 1) := by decide +kernel
theorem dX2_park_183 : decode cX2_park 183 = .ok (.aload_n 0, 1) := by decide +kernel
theorem dX2_park_184 : decode cX2_park 184 = .ok (.getfield 10, 3) := by decide +kernel
theorem dX2_park_187 : decode cX2_park 187 = .ok (.iload_n 1, 1) := by decide +kernel
theorem dX2_park_188 : decode cX2_park 188 = .ok (.iload_n 2, 1) := by decide +kernel
theorem dX2_park_189 : decode cX2_park 189 = .ok (.iload 5, 2) := by decide +kernel
theorem dX2_park_191 : decode cX2_park 191 = .ok (.invokevirtual 69, 3) := by decide +kernel
theorem dX2_park_194 : decode cX2_park 194 = .ok (.istore 9, 2) := by decide +kernel
theorem dX2_park_196 : decode cX2_park 196 = .ok (.aload_n 0, 1) := by decide +kernel
theorem dX2_park_197 : decode cX2_park 197 = .ok (.aload_n 0, 1) := by decide +kernel
theorem dX2_park_198 : decode cX2_park 198 = .ok (.getfield 73, 3) := by decide +kernel
theorem dX2_park_201 : decode cX2_park 201 = .ok (.iload 9, 2) := by decide +kernel
theorem dX2_park_203 : decode cX2_park 203 = .ok (.iload 6, 2) := by decide +kernel
theorem dX2_park_205 : decode cX2_park 205 = .ok (.invokestatic 76, 3) := by decide +kernel
theorem dX2_park_208 : decode cX2_park 208 = .ok (.putfield 73, 3) := by decide +kernel
theorem dX2_park_211 : decode cX2_park 211 = .ok (.aload_n 0, 1) := by decide +kernel
theorem dX2_park_212 : decode cX2_park 212 = .ok (.aload_n 0, 1) := by decide +kernel
theorem dX2_park_213 : decode cX2_park 213 = .ok (.getfield 73, 3) := by decide +kernel
theorem dX2_park_216 : decode cX2_park 216 = .ok (.invokevirtual 80, 3) := by decide +kernel
theorem dX2_park_219 : decode cX2_park 219 = .ok (.iload 9, 2) := by decide +kernel
theorem dX2_park_221 : decode cX2_park 221 = .ok (.ireturn, 1) := by decide +kernel
set_option maxRecDepth 20000 in
theorem ggX2_ramp_X2_isInYard : GoodIn wsX2_ramp wsX2_isInYard := goodIn_r _ [12] (by decide +kernel) (by decide +kernel)
set_option maxRecDepth 20000 in
theorem gX2_ramp_X2_isInYard : GoodIn wsX2_ramp (va_wsS RX2 25 yX2_isInYard wsX2_isInYard) := goodIn_app (goodIn_of _ (by decide +kernel)) ggX2_ramp_X2_isInYard
set_option maxRecDepth 20000 in
theorem ggX2_ramp_X2_cellOf : GoodIn wsX2_ramp wsX2_cellOf := goodIn_r _ [15] (by decide +kernel) (by decide +kernel)
set_option maxRecDepth 20000 in
theorem gX2_ramp_X2_cellOf : GoodIn wsX2_ramp (va_wsS RX2 88 yX2_cellOf wsX2_cellOf) := goodIn_app (goodIn_of _ (by decide +kernel)) ggX2_ramp_X2_cellOf
set_option maxRecDepth 20000 in
theorem ggX2_ramp_X1_vehicleOn : GoodIn wsX2_ramp wsX1_vehicleOn := goodIn_r _ [20, 21, 22, 23, 24, 19, 25, 26, 27, 28, 29, 30, 31, 32, 11, 33, 51, 52, 53, 54, 55, 56] (by decide +kernel) (by decide +kernel)
set_option maxRecDepth 20000 in
theorem gX2_ramp_X1_vehicleOn : GoodIn wsX2_ramp (wsV RX2 92 RX1 yX1_vehicleOn wsX1_vehicleOn) := goodIn_app (goodIn_of _ (by decide +kernel)) ggX2_ramp_X1_vehicleOn
set_option maxRecDepth 20000 in
theorem ggX2_ramp_X1_isLorry : GoodIn wsX2_ramp wsX1_isLorry := goodIn_r _ [37, 38, 28, 29, 30, 19, 31, 21, 51, 52, 53, 54, 55, 56] (by decide +kernel) (by decide +kernel)
set_option maxRecDepth 20000 in
theorem gX2_ramp_X1_isLorry : GoodIn wsX2_ramp (wsV RX2 96 RX1 yX1_isLorry wsX1_isLorry) := goodIn_app (goodIn_of _ (by decide +kernel)) ggX2_ramp_X1_isLorry
set_option maxRecDepth 20000 in
theorem ggX2_ramp_X1_putRamp : GoodIn wsX2_ramp wsX1_putRamp := goodIn_r _ [42, 43, 51, 52, 53, 54, 55, 56] (by decide +kernel) (by decide +kernel)
set_option maxRecDepth 20000 in
theorem gX2_ramp_X1_putRamp : GoodIn wsX2_ramp (wsV RX2 102 RX1 yX1_putRamp wsX1_putRamp) := goodIn_app (goodIn_of _ (by decide +kernel)) ggX2_ramp_X1_putRamp
theorem dX2_ramp_0 : decode cX2_ramp 0 = .ok (.iload_n 1, 1) := by decide +kernel
theorem dX2_ramp_1 : decode cX2_ramp 1 = .ok (.iload_n 2, 1) := by decide +kernel
theorem dX2_ramp_2 : decode cX2_ramp 2 = .ok (.invokestatic 25, 3) := by decide +kernel
theorem dX2_ramp_5 : decode cX2_ramp 5 = .ok (.ifCond .ne 13, 3) := by decide +kernel
theorem dX2_ramp_8 : decode cX2_ramp 8 = .ok (.new 29, 3) := by decide +kernel
theorem dX2_ramp_11 : decode cX2_ramp 11 = .ok (.dup, 1) := by decide +kernel
theorem dX2_ramp_12 : decode cX2_ramp 12 = .ok (.ldc 84, 2) := by decide +kernel
theorem dX2_ramp_14 : decode cX2_ramp 14 = .ok (.invokespecial 33, 3) := by decide +kernel
theorem dX2_ramp_17 : decode cX2_ramp 17 = .ok (.athrow, 1) := by decide +kernel
theorem dX2_ramp_18 : decode cX2_ramp 18 = .ok (.aload_n 0, 1) := by decide +kernel
theorem dX2_ramp_19 : decode cX2_ramp 19 = .ok (.getfield 44, 3) := by decide +kernel
theorem dX2_ramp_22 : decode cX2_ramp 22 = .ok (.ifCond .le 13, 3) := by decide +kernel
theorem dX2_ramp_25 : decode cX2_ramp 25 = .ok (.new 48, 3) := by decide +kernel
theorem dX2_ramp_28 : decode cX2_ramp 28 = .ok (.dup, 1) := by decide +kernel
theorem dX2_ramp_29 : decode cX2_ramp 29 = .ok (.ldc 86, 2) := by decide +kernel
theorem dX2_ramp_31 : decode cX2_ramp 31 = .ok (.invokespecial 52, 3) := by decide +kernel
theorem dX2_ramp_34 : decode cX2_ramp 34 = .ok (.athrow, 1) := by decide +kernel
theorem dX2_ramp_35 : decode cX2_ramp 35 = .ok (.iload_n 1, 1) := by decide +kernel
theorem dX2_ramp_36 : decode cX2_ramp 36 = .ok (.iload_n 2, 1) := by decide +kernel
theorem dX2_ramp_37 : decode cX2_ramp 37 = .ok (.invokestatic 88, 3) := by decide +kernel
theorem dX2_ramp_40 : decode cX2_ramp 40 = .ok (.lstore_n 3, 1) := by decide +kernel
theorem dX2_ramp_41 : decode cX2_ramp 41 = .ok (.aload_n 0, 1) := by decide +kernel
theorem dX2_ramp_42 : decode cX2_ramp 42 = .ok (.getfield 10, 3) := by decide +kernel
theorem dX2_ramp_45 : decode cX2_ramp 45 = .ok (.aload_n 0, 1) := by decide +kernel
theorem dX2_ramp_46 : decode cX2_ramp 46 = .ok (.getfield 10, 3) := by decide +kernel
theorem dX2_ramp_49 : decode cX2_ramp 49 = .ok (.aload_n 0, 1) := by decide +kernel
theorem dX2_ramp_50 : decode cX2_ramp 50 = .ok (.getfield 57, 3) := by decide +kernel
theorem dX2_ramp_53 : decode cX2_ramp 53 = .ok (.lload_n 3, 1) := by decide +kernel
theorem dX2_ramp_54 : decode cX2_ramp 54 = .ok (.invokevirtual 92, 3) := by decide +kernel
theorem dX2_ramp_57 : decode cX2_ramp 57 = .ok (.invokevirtual 96, 3) := by decide +kernel
theorem dX2_ramp_60 : decode cX2_ramp 60 = .ok (.ifCond .eq 13, 3) := by decide +kernel
theorem dX2_ramp_63 : decode cX2_ramp 63 = .ok (.new 48, 3) := by decide +kernel
theorem dX2_ramp_66 : decode cX2_ramp 66 = .ok (.dup, 1) := by decide +kernel
theorem dX2_ramp_67 : decode cX2_ramp 67 = .ok (.ldc 100, 2) := by decide +kernel
theorem dX2_ramp_69 : decode cX2_ramp 69 = .ok (.invokespecial 52, 3) := by decide +kernel
theorem dX2_ramp_72 : decode cX2_ramp 72 = .ok (.athrow, 1) := by decide +kernel
theorem dX2_ramp_73 : decode cX2_ramp 73 = .ok (.aload_n 0, 1) := by decide +kernel
theorem dX2_ramp_74 : decode cX2_ramp 74 = .ok (.getfield 10, 3) := by decide +kernel
theorem dX2_ramp_77 : decode cX2_ramp 77 = .ok (.lload_n 3, 1) := by decide +kernel
theorem dX2_ramp_78 : decode cX2_ramp 78 = .ok (.invokevirtual 102, 3) := by decide +kernel
theorem dX2_ramp_81 : decode cX2_ramp 81 = .ok (.aload_n 0, 1) := by decide +kernel
theorem dX2_ramp_82 : decode cX2_ramp 82 = .ok (.iconst 0, 1) := by decide +kernel
theorem dX2_ramp_83 : decode cX2_ramp 83 = .ok (.putfield 106, 3) := by decide +kernel
theorem dX2_ramp_86 : decode cX2_ramp 86 = .ok (.return_, 1) := by decide +kernel
set_option maxRecDepth 20000 in
theorem ggX2_drive_X1_has : GoodIn wsX2_drive wsX1_has := goodIn_r _ [16, 17, 69, 70, 71, 72, 73, 74] (by decide +kernel) (by decide +kernel)
set_option maxRecDepth 20000 in
theorem gX2_drive_X1_has : GoodIn wsX2_drive (wsV RX2 110 RX1 yX1_has wsX1_has) := goodIn_app (goodIn_of _ (by decide +kernel)) ggX2_drive_X1_has
set_option maxRecDepth 20000 in
theorem ggX2_drive_X2_wayNow : GoodIn wsX2_drive wsX2_wayNow := goodIn_r _ [22, 7, 23, 24, 25, 26, 15, 27, 17, 28, 29, 30, 31, 32, 33, 34, 13, 14, 16, 35, 21, 36, 37, 38, 39, 40, 41, 42, 43, 44, 45, 46, 47, 62, 63, 64, 65, 66, 67, 68, 69, 70, 71, 72, 73, 74] (by decide +kernel) (by decide +kernel)
set_option maxRecDepth 20000 in
theorem gX2_drive_X2_wayNow : GoodIn wsX2_drive (wsV RX2 126 RX2 yX2_wayNow wsX2_wayNow) := goodIn_app (goodIn_of _ (by decide +kernel)) ggX2_drive_X2_wayNow
set_option maxRecDepth 20000 in
theorem ggX2_drive_X2_makeMove : GoodIn wsX2_drive wsX2_makeMove := goodIn_r _ [51, 23, 52, 53, 8, 9, 10, 11, 54, 55, 21, 56, 57, 58, 59, 60, 61, 62, 63, 64, 65, 66, 67, 68] (by decide +kernel) (by decide +kernel)
set_option maxRecDepth 20000 in
theorem gX2_drive_X2_makeMove : GoodIn wsX2_drive (wsV RX2 132 RX2 yX2_makeMove wsX2_makeMove) := goodIn_app (goodIn_of _ (by decide +kernel)) ggX2_drive_X2_makeMove
theorem dX2_drive_0 : decode cX2_drive 0 = .ok (.aload_n 0, 1) := by decide +kernel
theorem dX2_drive_1 : decode cX2_drive 1 = .ok (.getfield 10, 3) := by decide +kernel
theorem dX2_drive_4 : decode cX2_drive 4 = .ok (.iload_n 1, 1) := by decide +kernel
theorem dX2_drive_5 : decode cX2_drive 5 = .ok (.invokevirtual 110, 3) := by decide +kernel
theorem dX2_drive_8 : decode cX2_drive 8 = .ok (.ifCond .ne 13, 3) := by decide +kernel
theorem dX2_drive_11 : decode cX2_drive 11 = .ok (.new 113, 3) := by decide +kernel
theorem dX2_drive_14 : decode cX2_drive 14 = .ok (.dup, 1) := by decide +kernel
theorem dX2_drive_15 : decode cX2_drive 15 = .ok (.ldc 115, 2) := by decide +kernel
theorem dX2_drive_17 : decode cX2_drive 17 = .ok (.invokespecial 117, 3) := by decide +kernel
theorem dX2_drive_20 : decode cX2_drive 20 = .ok (.athrow, 1) := by decide +kernel
theorem dX2_drive_21 : decode cX2_drive 21 = .ok (.iload_n 2, 1) := by decide +kernel
theorem dX2_drive_22 : decode cX2_drive 22 = .ok (.bipush (-4), 2) := by decide +kernel
theorem dX2_drive_24 : decode cX2_drive 24 = .ok (.if_icmp .lt 12, 3) := by decide +kernel
theorem dX2_drive_27 : decode cX2_drive 27 = .ok (.iload_n 2, 1) := by decide +kernel
theorem dX2_drive_28 : decode cX2_drive 28 = .ok (.iconst 4, 1) := by decide +kernel
theorem dX2_drive_29 : decode cX2_drive 29 = .ok (.if_icmp .gt 7, 3) := by decide +kernel
theorem dX2_drive_32 : decode cX2_drive 32 = .ok (.iload_n 2, 1) := by decide +kernel
theorem dX2_drive_33 : decode cX2_drive 33 = .ok (.ifCond .ne 13, 3) := by decide +kernel
theorem dX2_drive_36 : decode cX2_drive 36 = .ok (.new 29, 3) := by decide +kernel
theorem dX2_drive_39 : decode cX2_drive 39 = .ok (.dup, 1) := by decide +kernel
theorem dX2_drive_40 : decode cX2_drive 40 = .ok (.ldc 118, 2) := by decide +kernel
theorem dX2_drive_42 : decode cX2_drive 42 = .ok (.invokespecial 33, 3) := by decide +kernel
theorem dX2_drive_45 : decode cX2_drive 45 = .ok (.athrow, 1) := by decide +kernel
theorem dX2_drive_46 : decode cX2_drive 46 = .ok (.iload_n 2, 1) := by decide +kernel
theorem dX2_drive_47 : decode cX2_drive 47 = .ok (.invokestatic 120, 3) := by decide +kernel
theorem dX2_drive_50 : decode cX2_drive 50 = .ok (.aload_n 0, 1) := by decide +kernel
theorem dX2_drive_51 : decode cX2_drive 51 = .ok (.iload_n 1, 1) := by decide +kernel
theorem dX2_drive_52 : decode cX2_drive 52 = .ok (.iload_n 2, 1) := by decide +kernel
theorem dX2_drive_53 : decode cX2_drive 53 = .ok (.ifCond .le 7, 3) := by decide +kernel
theorem dX2_drive_56 : decode cX2_drive 56 = .ok (.iconst 1, 1) := by decide +kernel
theorem dX2_drive_57 : decode cX2_drive 57 = .ok (.goto 4, 3) := by decide +kernel
theorem dX2_drive_60 : decode cX2_drive 60 = .ok (.iconst 0, 1) := by decide +kernel
theorem dX2_drive_61 : decode cX2_drive 61 = .ok (.invokevirtual 126, 3) := by decide +kernel
theorem dX2_drive_64 : decode cX2_drive 64 = .ok (.if_icmp .le 13, 3) := by decide +kernel
theorem dX2_drive_67 : decode cX2_drive 67 = .ok (.new 48, 3) := by decide +kernel
theorem dX2_drive_70 : decode cX2_drive 70 = .ok (.dup, 1) := by decide +kernel
theorem dX2_drive_71 : decode cX2_drive 71 = .ok (.ldc 130, 2) := by decide +kernel
theorem dX2_drive_73 : decode cX2_drive 73 = .ok (.invokespecial 52, 3) := by decide +kernel
theorem dX2_drive_76 : decode cX2_drive 76 = .ok (.athrow, 1) := by decide +kernel
theorem dX2_drive_77 : decode cX2_drive 77 = .ok (.aload_n 0, 1) := by decide +kernel
theorem dX2_drive_78 : decode cX2_drive 78 = .ok (.iload_n 1, 1) := by decide +kernel
theorem dX2_drive_79 : decode cX2_drive 79 = .ok (.iload_n 2, 1) := by decide +kernel
theorem dX2_drive_80 : decode cX2_drive 80 = .ok (.invokevirtual 132, 3) := by decide +kernel
theorem dX2_drive_83 : decode cX2_drive 83 = .ok (.return_, 1) := by decide +kernel
set_option maxRecDepth 20000 in
theorem ggX2_restart_X2_standAt : GoodIn wsX2_restart wsX2_standAt := goodIn_r _ [8, 9, 10, 11, 12, 13, 14, 15, 16, 17] (by decide +kernel) (by decide +kernel)
set_option maxRecDepth 20000 in
theorem gX2_restart_X2_standAt : GoodIn wsX2_restart (wsV RX2 80 RX2 yX2_standAt wsX2_standAt) := goodIn_app (goodIn_of _ (by decide +kernel)) ggX2_restart_X2_standAt
theorem dX2_restart_0 : decode cX2_restart 0 = .ok (.aload_n 0, 1) := by decide +kernel
theorem dX2_restart_1 : decode cX2_restart 1 = .ok (.aload_n 0, 1) := by decide +kernel
theorem dX2_restart_2 : decode cX2_restart 2 = .ok (.getfield 73, 3) := by decide +kernel
theorem dX2_restart_5 : decode cX2_restart 5 = .ok (.invokevirtual 80, 3) := by decide +kernel
theorem dX2_restart_8 : decode cX2_restart 8 = .ok (.aload_n 0, 1) := by decide +kernel
theorem dX2_restart_9 : decode cX2_restart 9 = .ok (.iconst 0, 1) := by decide +kernel
theorem dX2_restart_10 : decode cX2_restart 10 = .ok (.putfield 44, 3) := by decide +kernel
theorem dX2_restart_13 : decode cX2_restart 13 = .ok (.aload_n 0, 1) := by decide +kernel
theorem dX2_restart_14 : decode cX2_restart 14 = .ok (.iconst 0, 1) := by decide +kernel
theorem dX2_restart_15 : decode cX2_restart 15 = .ok (.putfield 136, 3) := by decide +kernel
theorem dX2_restart_18 : decode cX2_restart 18 = .ok (.return_, 1) := by decide +kernel
set_option maxRecDepth 20000 in
theorem ggX2_vehicles_X1_count : GoodIn wsX2_vehicles wsX1_count := goodIn_r _ [6, 7, 15, 16, 17, 18, 19, 20] (by decide +kernel) (by decide +kernel)
set_option maxRecDepth 20000 in
theorem gX2_vehicles_X1_count : GoodIn wsX2_vehicles (wsV RX2 38 RX1 yX1_count wsX1_count) := goodIn_app (goodIn_of _ (by decide +kernel)) ggX2_vehicles_X1_count
theorem dX2_vehicles_0 : decode cX2_vehicles 0 = .ok (.aload_n 0, 1) := by decide +kernel
theorem dX2_vehicles_1 : decode cX2_vehicles 1 = .ok (.getfield 10, 3) := by decide +kernel
theorem dX2_vehicles_4 : decode cX2_vehicles 4 = .ok (.invokevirtual 38, 3) := by decide +kernel
theorem dX2_vehicles_7 : decode cX2_vehicles 7 = .ok (.ireturn, 1) := by decide +kernel
set_option maxRecDepth 20000 in
theorem ggX2_rowOf_X1_has : GoodIn wsX2_rowOf wsX1_has := goodIn_r _ [9, 10, 33, 34, 35, 36, 37, 38] (by decide +kernel) (by decide +kernel)
set_option maxRecDepth 20000 in
theorem gX2_rowOf_X1_has : GoodIn wsX2_rowOf (wsV RX2 110 RX1 yX1_has wsX1_has) := goodIn_app (goodIn_of _ (by decide +kernel)) ggX2_rowOf_X1_has
set_option maxRecDepth 20000 in
theorem ggX2_rowOf_X1_standsAcross : GoodIn wsX2_rowOf wsX1_standsAcross := goodIn_r _ [14, 15, 16, 6, 7, 8, 9, 10, 33, 34, 35, 36, 37, 38] (by decide +kernel) (by decide +kernel)
set_option maxRecDepth 20000 in
theorem gX2_rowOf_X1_standsAcross : GoodIn wsX2_rowOf (wsV RX2 139 RX1 yX1_standsAcross wsX1_standsAcross) := goodIn_app (goodIn_of _ (by decide +kernel)) ggX2_rowOf_X1_standsAcross
set_option maxRecDepth 20000 in
theorem ggX2_rowOf_X1_lineOf : GoodIn wsX2_rowOf wsX1_lineOf := goodIn_r _ [20, 21, 16, 6, 7, 8, 9, 10, 33, 34, 35, 36, 37, 38] (by decide +kernel) (by decide +kernel)
set_option maxRecDepth 20000 in
theorem gX2_rowOf_X1_lineOf : GoodIn wsX2_rowOf (wsV RX2 142 RX1 yX1_lineOf wsX1_lineOf) := goodIn_app (goodIn_of _ (by decide +kernel)) ggX2_rowOf_X1_lineOf
set_option maxRecDepth 20000 in
theorem ggX2_rowOf_X2_placeIn : GoodIn wsX2_rowOf wsX2_placeIn := goodIn_r _ [25] (by decide +kernel) (by decide +kernel)
set_option maxRecDepth 20000 in
theorem gX2_rowOf_X2_placeIn : GoodIn wsX2_rowOf (va_wsS RX2 145 yX2_placeIn wsX2_placeIn) := goodIn_app (goodIn_of _ (by decide +kernel)) ggX2_rowOf_X2_placeIn
theorem dX2_rowOf_0 : decode cX2_rowOf 0 = .ok (.aload_n 0, 1) := by decide +kernel
theorem dX2_rowOf_1 : decode cX2_rowOf 1 = .ok (.getfield 10, 3) := by decide +kernel
theorem dX2_rowOf_4 : decode cX2_rowOf 4 = .ok (.iload_n 1, 1) := by decide +kernel
theorem dX2_rowOf_5 : decode cX2_rowOf 5 = .ok (.invokevirtual 110, 3) := by decide +kernel
theorem dX2_rowOf_8 : decode cX2_rowOf 8 = .ok (.ifCond .ne 13, 3) := by decide +kernel
theorem dX2_rowOf_11 : decode cX2_rowOf 11 = .ok (.new 113, 3) := by decide +kernel
theorem dX2_rowOf_14 : decode cX2_rowOf 14 = .ok (.dup, 1) := by decide +kernel
theorem dX2_rowOf_15 : decode cX2_rowOf 15 = .ok (.ldc 115, 2) := by decide +kernel
theorem dX2_rowOf_17 : decode cX2_rowOf 17 = .ok (.invokespecial 117, 3) := by decide +kernel
theorem dX2_rowOf_20 : decode cX2_rowOf 20 = .ok (.athrow, 1) := by decide +kernel
theorem dX2_rowOf_21 : decode cX2_rowOf 21 = .ok (.aload_n 0, 1) := by decide +kernel
theorem dX2_rowOf_22 : decode cX2_rowOf 22 = .ok (.getfield 10, 3) := by decide +kernel
theorem dX2_rowOf_25 : decode cX2_rowOf 25 = .ok (.iload_n 1, 1) := by decide +kernel
theorem dX2_rowOf_26 : decode cX2_rowOf 26 = .ok (.invokevirtual 139, 3) := by decide +kernel
theorem dX2_rowOf_29 : decode cX2_rowOf 29 = .ok (.ifCond .eq 14, 3) := by decide +kernel
theorem dX2_rowOf_32 : decode cX2_rowOf 32 = .ok (.aload_n 0, 1) := by decide +kernel
theorem dX2_rowOf_33 : decode cX2_rowOf 33 = .ok (.getfield 10, 3) := by decide +kernel
theorem dX2_rowOf_36 : decode cX2_rowOf 36 = .ok (.iload_n 1, 1) := by decide +kernel
theorem dX2_rowOf_37 : decode cX2_rowOf 37 = .ok (.invokevirtual 142, 3) := by decide +kernel
theorem dX2_rowOf_40 : decode cX2_rowOf 40 = .ok (.goto 11, 3) := by decide +kernel
theorem dX2_rowOf_43 : decode cX2_rowOf 43 = .ok (.aload_n 0, 1) := by decide +kernel
theorem dX2_rowOf_44 : decode cX2_rowOf 44 = .ok (.getfield 57, 3) := by decide +kernel
theorem dX2_rowOf_47 : decode cX2_rowOf 47 = .ok (.iload_n 1, 1) := by decide +kernel
theorem dX2_rowOf_48 : decode cX2_rowOf 48 = .ok (.invokestatic 145, 3) := by decide +kernel
theorem dX2_rowOf_51 : decode cX2_rowOf 51 = .ok (.ireturn, 1) := by decide +kernel
set_option maxRecDepth 20000 in
theorem ggX2_columnOf_X1_has : GoodIn wsX2_columnOf wsX1_has := goodIn_r _ [9, 10, 33, 34, 35, 36, 37, 38] (by decide +kernel) (by decide +kernel)
set_option maxRecDepth 20000 in
theorem gX2_columnOf_X1_has : GoodIn wsX2_columnOf (wsV RX2 110 RX1 yX1_has wsX1_has) := goodIn_app (goodIn_of _ (by decide +kernel)) ggX2_columnOf_X1_has
set_option maxRecDepth 20000 in
theorem ggX2_columnOf_X1_standsAcross : GoodIn wsX2_columnOf wsX1_standsAcross := goodIn_r _ [14, 15, 16, 6, 7, 8, 9, 10, 33, 34, 35, 36, 37, 38] (by decide +kernel) (by decide +kernel)
set_option maxRecDepth 20000 in
theorem gX2_columnOf_X1_standsAcross : GoodIn wsX2_columnOf (wsV RX2 139 RX1 yX1_standsAcross wsX1_standsAcross) := goodIn_app (goodIn_of _ (by decide +kernel)) ggX2_columnOf_X1_standsAcross
set_option maxRecDepth 20000 in
theorem ggX2_columnOf_X2_placeIn : GoodIn wsX2_columnOf wsX2_placeIn := goodIn_r _ [20] (by decide +kernel) (by decide +kernel)
set_option maxRecDepth 20000 in
theorem gX2_columnOf_X2_placeIn : GoodIn wsX2_columnOf (va_wsS RX2 145 yX2_placeIn wsX2_placeIn) := goodIn_app (goodIn_of _ (by decide +kernel)) ggX2_columnOf_X2_placeIn
set_option maxRecDepth 20000 in
theorem ggX2_columnOf_X1_lineOf : GoodIn wsX2_columnOf wsX1_lineOf := goodIn_r _ [24, 25, 16, 6, 7, 8, 9, 10, 33, 34, 35, 36, 37, 38] (by decide +kernel) (by decide +kernel)
set_option maxRecDepth 20000 in
theorem gX2_columnOf_X1_lineOf : GoodIn wsX2_columnOf (wsV RX2 142 RX1 yX1_lineOf wsX1_lineOf) := goodIn_app (goodIn_of _ (by decide +kernel)) ggX2_columnOf_X1_lineOf
theorem dX2_columnOf_0 : decode cX2_columnOf 0 = .ok (.aload_n 0, 1) := by decide +kernel
theorem dX2_columnOf_1 : decode cX2_columnOf 1 = .ok (.getfield 10, 3) := by decide +kernel
theorem dX2_columnOf_4 : decode cX2_columnOf 4 = .ok (.iload_n 1, 1) := by decide +kernel
theorem dX2_columnOf_5 : decode cX2_columnOf 5 = .ok (.invokevirtual 110, 3) := by decide +kernel
theorem dX2_columnOf_8 : decode cX2_columnOf 8 = .ok (.ifCond .ne 13, 3) := by decide +kernel
theorem dX2_columnOf_11 : decode cX2_columnOf 11 = .ok (.new 113, 3) := by decide +kernel
theorem dX2_columnOf_14 : decode cX2_columnOf 14 = .ok (.dup, 1) := by decide +kernel
theorem dX2_columnOf_15 : decode cX2_columnOf 15 = .ok (.ldc 115, 2) := by decide +kernel
theorem dX2_columnOf_17 : decode cX2_columnOf 17 = .ok (.invokespecial 117, 3) := by decide +kernel
theorem dX2_columnOf_20 : decode cX2_columnOf 20 = .ok (.athrow, 1) := by decide +kernel
theorem dX2_columnOf_21 : decode cX2_columnOf 21 = .ok (.aload_n 0, 1) := by decide +kernel
theorem dX2_columnOf_22 : decode cX2_columnOf 22 = .ok (.getfield 10, 3) := by decide +kernel
theorem dX2_columnOf_25 : decode cX2_columnOf 25 = .ok (.iload_n 1, 1) := by decide +kernel
theorem dX2_columnOf_26 : decode cX2_columnOf 26 = .ok (.invokevirtual 139, 3) := by decide +kernel
theorem dX2_columnOf_29 : decode cX2_columnOf 29 = .ok (.ifCond .eq 14, 3) := by decide +kernel
theorem dX2_columnOf_32 : decode cX2_columnOf 32 = .ok (.aload_n 0, 1) := by decide +kernel
theorem dX2_columnOf_33 : decode cX2_columnOf 33 = .ok (.getfield 57, 3) := by decide +kernel
theorem dX2_columnOf_36 : decode cX2_columnOf 36 = .ok (.iload_n 1, 1) := by decide +kernel
theorem dX2_columnOf_37 : decode cX2_columnOf 37 = .ok (.invokestatic 145, 3) := by decide +kernel
theorem dX2_columnOf_40 : decode cX2_columnOf 40 = .ok (.goto 11, 3) := by decide +kernel
theorem dX2_columnOf_43 : decode cX2_columnOf 43 = .ok (.aload_n 0, 1) := by decide +kernel
theorem dX2_columnOf_44 : decode cX2_columnOf 44 = .ok (.getfield 10, 3) := by decide +kernel
theorem dX2_columnOf_47 : decode cX2_columnOf 47 = .ok (.iload_n 1, 1) := by decide +kernel
theorem dX2_columnOf_48 : decode cX2_columnOf 48 = .ok (.invokevirtual 142, 3) := by decide +kernel
theorem dX2_columnOf_51 : decode cX2_columnOf 51 = .ok (.ireturn, 1) := by decide +kernel
set_option maxRecDepth 20000 in
theorem ggX2_at_X2_isInYard : GoodIn wsX2_at wsX2_isInYard := goodIn_r _ [8] (by decide +kernel) (by decide +kernel)
set_option maxRecDepth 20000 in
theorem gX2_at_X2_isInYard : GoodIn wsX2_at (va_wsS RX2 25 yX2_isInYard wsX2_isInYard) := goodIn_app (goodIn_of _ (by decide +kernel)) ggX2_at_X2_isInYard
set_option maxRecDepth 20000 in
theorem ggX2_at_X2_cellOf : GoodIn wsX2_at wsX2_cellOf := goodIn_r _ [11] (by decide +kernel) (by decide +kernel)
set_option maxRecDepth 20000 in
theorem gX2_at_X2_cellOf : GoodIn wsX2_at (va_wsS RX2 88 yX2_cellOf wsX2_cellOf) := goodIn_app (goodIn_of _ (by decide +kernel)) ggX2_at_X2_cellOf
set_option maxRecDepth 20000 in
theorem ggX2_at_X1_vehicleOn : GoodIn wsX2_at wsX1_vehicleOn := goodIn_r _ [16, 17, 18, 19, 20, 15, 21, 22, 23, 24, 25, 26, 27, 28, 7, 29, 37, 38, 39, 40, 41, 42] (by decide +kernel) (by decide +kernel)
set_option maxRecDepth 20000 in
theorem gX2_at_X1_vehicleOn : GoodIn wsX2_at (wsV RX2 92 RX1 yX1_vehicleOn wsX1_vehicleOn) := goodIn_app (goodIn_of _ (by decide +kernel)) ggX2_at_X1_vehicleOn
theorem dX2_at_0 : decode cX2_at 0 = .ok (.iload_n 1, 1) := by decide +kernel
theorem dX2_at_1 : decode cX2_at 1 = .ok (.iload_n 2, 1) := by decide +kernel
theorem dX2_at_2 : decode cX2_at 2 = .ok (.invokestatic 25, 3) := by decide +kernel
theorem dX2_at_5 : decode cX2_at 5 = .ok (.ifCond .ne 13, 3) := by decide +kernel
theorem dX2_at_8 : decode cX2_at 8 = .ok (.new 29, 3) := by decide +kernel
theorem dX2_at_11 : decode cX2_at 11 = .ok (.dup, 1) := by decide +kernel
theorem dX2_at_12 : decode cX2_at 12 = .ok (.ldc 84, 2) := by decide +kernel
theorem dX2_at_14 : decode cX2_at 14 = .ok (.invokespecial 33, 3) := by decide +kernel
theorem dX2_at_17 : decode cX2_at 17 = .ok (.athrow, 1) := by decide +kernel
theorem dX2_at_18 : decode cX2_at 18 = .ok (.aload_n 0, 1) := by decide +kernel
theorem dX2_at_19 : decode cX2_at 19 = .ok (.getfield 10, 3) := by decide +kernel
theorem dX2_at_22 : decode cX2_at 22 = .ok (.aload_n 0, 1) := by decide +kernel
theorem dX2_at_23 : decode cX2_at 23 = .ok (.getfield 57, 3) := by decide +kernel
theorem dX2_at_26 : decode cX2_at 26 = .ok (.iload_n 1, 1) := by decide +kernel
theorem dX2_at_27 : decode cX2_at 27 = .ok (.iload_n 2, 1) := by decide +kernel
theorem dX2_at_28 : decode cX2_at 28 = .ok (.invokestatic 88, 3) := by decide +kernel
theorem dX2_at_31 : decode cX2_at 31 = .ok (.invokevirtual 92, 3) := by decide +kernel
theorem dX2_at_34 : decode cX2_at 34 = .ok (.ireturn, 1) := by decide +kernel
set_option maxRecDepth 20000 in
theorem ggX2_freeWay_X1_has : GoodIn wsX2_freeWay wsX1_has := goodIn_r _ [8, 9, 47, 48, 49, 50, 51, 52] (by decide +kernel) (by decide +kernel)
set_option maxRecDepth 20000 in
theorem gX2_freeWay_X1_has : GoodIn wsX2_freeWay (wsV RX2 110 RX1 yX1_has wsX1_has) := goodIn_app (goodIn_of _ (by decide +kernel)) ggX2_freeWay_X1_has
set_option maxRecDepth 20000 in
theorem ggX2_freeWay_X2_wayNow : GoodIn wsX2_freeWay wsX2_wayNow := goodIn_r _ [14, 3, 15, 16, 17, 18, 7, 19, 9, 20, 21, 22, 23, 24, 25, 26, 5, 6, 8, 27, 13, 28, 29, 30, 31, 32, 33, 34, 35, 36, 37, 38, 39, 40, 41, 42, 43, 44, 45, 46, 47, 48, 49, 50, 51, 52] (by decide +kernel) (by decide +kernel)
set_option maxRecDepth 20000 in
theorem gX2_freeWay_X2_wayNow : GoodIn wsX2_freeWay (wsV RX2 126 RX2 yX2_wayNow wsX2_wayNow) := goodIn_app (goodIn_of _ (by decide +kernel)) ggX2_freeWay_X2_wayNow
theorem dX2_freeWay_0 : decode cX2_freeWay 0 = .ok (.aload_n 0, 1) := by decide +kernel
theorem dX2_freeWay_1 : decode cX2_freeWay 1 = .ok (.getfield 10, 3) := by decide +kernel
theorem dX2_freeWay_4 : decode cX2_freeWay 4 = .ok (.iload_n 1, 1) := by decide +kernel
theorem dX2_freeWay_5 : decode cX2_freeWay 5 = .ok (.invokevirtual 110, 3) := by decide +kernel
theorem dX2_freeWay_8 : decode cX2_freeWay 8 = .ok (.ifCond .ne 13, 3) := by decide +kernel
theorem dX2_freeWay_11 : decode cX2_freeWay 11 = .ok (.new 113, 3) := by decide +kernel
theorem dX2_freeWay_14 : decode cX2_freeWay 14 = .ok (.dup, 1) := by decide +kernel
theorem dX2_freeWay_15 : decode cX2_freeWay 15 = .ok (.ldc 115, 2) := by decide +kernel
theorem dX2_freeWay_17 : decode cX2_freeWay 17 = .ok (.invokespecial 117, 3) := by decide +kernel
theorem dX2_freeWay_20 : decode cX2_freeWay 20 = .ok (.athrow, 1) := by decide +kernel
theorem dX2_freeWay_21 : decode cX2_freeWay 21 = .ok (.aload_n 0, 1) := by decide +kernel
theorem dX2_freeWay_22 : decode cX2_freeWay 22 = .ok (.iload_n 1, 1) := by decide +kernel
theorem dX2_freeWay_23 : decode cX2_freeWay 23 = .ok (.iload_n 2, 1) := by decide +kernel
theorem dX2_freeWay_24 : decode cX2_freeWay 24 = .ok (.invokevirtual 126, 3) := by decide +kernel
theorem dX2_freeWay_27 : decode cX2_freeWay 27 = .ok (.ireturn, 1) := by decide +kernel
set_option maxRecDepth 20000 in
theorem ggX2_inTheWay_X2_placeIn : GoodIn wsX2_inTheWay wsX2_placeIn := goodIn_r _ [6] (by decide +kernel) (by decide +kernel)
set_option maxRecDepth 20000 in
theorem gX2_inTheWay_X2_placeIn : GoodIn wsX2_inTheWay (va_wsS RX2 145 yX2_placeIn wsX2_placeIn) := goodIn_app (goodIn_of _ (by decide +kernel)) ggX2_inTheWay_X2_placeIn
set_option maxRecDepth 20000 in
theorem ggX2_inTheWay_X2_cellOf : GoodIn wsX2_inTheWay wsX2_cellOf := goodIn_r _ [9] (by decide +kernel) (by decide +kernel)
set_option maxRecDepth 20000 in
theorem gX2_inTheWay_X2_cellOf : GoodIn wsX2_inTheWay (va_wsS RX2 88 yX2_cellOf wsX2_cellOf) := goodIn_app (goodIn_of _ (by decide +kernel)) ggX2_inTheWay_X2_cellOf
set_option maxRecDepth 20000 in
theorem ggX2_inTheWay_X1_count : GoodIn wsX2_inTheWay wsX1_count := goodIn_r _ [14, 15, 33, 34, 35, 36, 37, 38] (by decide +kernel) (by decide +kernel)
set_option maxRecDepth 20000 in
theorem gX2_inTheWay_X1_count : GoodIn wsX2_inTheWay (wsV RX2 38 RX1 yX1_count wsX1_count) := goodIn_app (goodIn_of _ (by decide +kernel)) ggX2_inTheWay_X1_count
set_option maxRecDepth 20000 in
theorem ggX2_inTheWay_X1_cellsIn : GoodIn wsX2_inTheWay wsX1_cellsIn := goodIn_r _ [19, 20, 21, 22, 23, 24, 13, 25, 15, 4, 5, 6, 33, 34, 35, 36, 37, 38] (by decide +kernel) (by decide +kernel)
set_option maxRecDepth 20000 in
theorem gX2_inTheWay_X1_cellsIn : GoodIn wsX2_inTheWay (wsV RX2 149 RX1 yX1_cellsIn wsX1_cellsIn) := goodIn_app (goodIn_of _ (by decide +kernel)) ggX2_inTheWay_X1_cellsIn
theorem dX2_inTheWay_0 : decode cX2_inTheWay 0 = .ok (.lconst 0, 1) := by decide +kernel
theorem dX2_inTheWay_1 : decode cX2_inTheWay 1 = .ok (.lstore_n 1, 1) := by decide +kernel
theorem dX2_inTheWay_2 : decode cX2_inTheWay 2 = .ok (.aload_n 0, 1) := by decide +kernel
theorem dX2_inTheWay_3 : decode cX2_inTheWay 3 = .ok (.getfield 57, 3) := by decide +kernel
theorem dX2_inTheWay_6 : decode cX2_inTheWay 6 = .ok (.iconst 0, 1) := by decide +kernel
theorem dX2_inTheWay_7 : decode cX2_inTheWay 7 = .ok (.invokestatic 145, 3) := by decide +kernel
theorem dX2_inTheWay_10 : decode cX2_inTheWay 10 = .ok (.iconst 2, 1) := by decide +kernel
theorem dX2_inTheWay_11 : decode cX2_inTheWay 11 = .ok (.iadd, 1) := by decide +kernel
theorem dX2_inTheWay_12 : decode cX2_inTheWay 12 = .ok (.istore_n 3, 1) := by decide +kernel
theorem dX2_inTheWay_13 : decode cX2_inTheWay 13 = .ok (.iload_n 3, 1) := by decide +kernel
theorem dX2_inTheWay_14 : decode cX2_inTheWay 14 = .ok (.bipush 6, 2) := by decide +kernel
theorem dX2_inTheWay_16 : decode cX2_inTheWay 16 = .ok (.if_icmp .ge 17, 3) := by decide +kernel
theorem dX2_inTheWay_19 : decode cX2_inTheWay 19 = .ok (.lload_n 1, 1) := by decide +kernel
theorem dX2_inTheWay_20 : decode cX2_inTheWay 20 = .ok (.iconst 2, 1) := by decide +kernel
theorem dX2_inTheWay_21 : decode cX2_inTheWay 21 = .ok (.iload_n 3, 1) := by decide +kernel
theorem dX2_inTheWay_22 : decode cX2_inTheWay 22 = .ok (.invokestatic 88, 3) := by decide +kernel
theorem dX2_inTheWay_25 : decode cX2_inTheWay 25 = .ok (.lor, 1) := by decide +kernel
theorem dX2_inTheWay_26 : decode cX2_inTheWay 26 = .ok (.lstore_n 1, 1) := by decide +kernel
theorem dX2_inTheWay_27 : decode cX2_inTheWay 27 = .ok (.iinc 3 1, 3) := by decide +kernel
theorem dX2_inTheWay_30 : decode cX2_inTheWay 30 = .ok (.goto (-17), 3) := by decide +kernel
theorem dX2_inTheWay_33 : decode cX2_inTheWay 33 = .ok (.iconst 0, 1) := by decide +kernel
theorem dX2_inTheWay_34 : decode cX2_inTheWay 34 = .ok (.istore_n 3, 1) := by decide +kernel
theorem dX2_inTheWay_35 : decode cX2_inTheWay 35 = .ok (.iconst 0, 1) := by decide +kernel
theorem dX2_inTheWay_36 : decode cX2_inTheWay 36 = .ok (.istore 4, 2) := by decide +kernel
theorem dX2_inTheWay_38 : decode cX2_inTheWay 38 = .ok (.iload 4, 2) := by decide +kernel
theorem dX2_inTheWay_40 : decode cX2_inTheWay 40 = .ok (.aload_n 0, 1) := by decide +kernel
theorem dX2_inTheWay_41 : decode cX2_inTheWay 41 = .ok (.getfield 10, 3) := by decide +kernel
theorem dX2_inTheWay_44 : decode cX2_inTheWay 44 = .ok (.invokevirtual 38, 3) := by decide +kernel
theorem dX2_inTheWay_47 : decode cX2_inTheWay 47 = .ok (.if_icmp .ge 32, 3) := by decide +kernel
theorem dX2_inTheWay_50 : decode cX2_inTheWay 50 = .ok (.aload_n 0, 1) := by decide +kernel
theorem dX2_inTheWay_51 : decode cX2_inTheWay 51 = .ok (.getfield 10, 3) := by decide +kernel
theorem dX2_inTheWay_54 : decode cX2_inTheWay 54 = .ok (.aload_n 0, 1) := by decide +kernel
theorem dX2_inTheWay_55 : decode cX2_inTheWay 55 = .ok (.getfield 57, 3) := by decide +kernel
theorem dX2_inTheWay_58 : decode cX2_inTheWay 58 = .ok (.iload 4, 2) := by decide +kernel
theorem dX2_inTheWay_60 : decode cX2_inTheWay 60 = .ok (.invokevirtual 149, 3) := by decide +kernel
theorem dX2_inTheWay_63 : decode cX2_inTheWay 63 = .ok (.lload_n 1, 1) := by decide +kernel
theorem dX2_inTheWay_64 : decode cX2_inTheWay 64 = .ok (.land, 1) := by decide +kernel
theorem dX2_inTheWay_65 : decode cX2_inTheWay 65 = .ok (.lconst 0, 1) := by decide +kernel
theorem dX2_inTheWay_66 : decode cX2_inTheWay 66 = .ok (.lcmp, 1) := by decide +kernel
theorem dX2_inTheWay_67 : decode cX2_inTheWay 67 = .ok (.ifCond .eq 6, 3) := by decide +kernel
theorem dX2_inTheWay_70 : decode cX2_inTheWay 70 = .ok (.iinc 3 1, 3) := by decide +kernel
theorem dX2_inTheWay_73 : decode cX2_inTheWay 73 = .ok (.iinc 4 1, 3) := by decide +kernel
theorem dX2_inTheWay_76 : decode cX2_inTheWay 76 = .ok (.goto (-38), 3) := by decide +kernel
theorem dX2_inTheWay_79 : decode cX2_inTheWay 79 = .ok (.iload_n 3, 1) := by decide +kernel
theorem dX2_inTheWay_80 : decode cX2_inTheWay 80 = .ok (.ireturn, 1) := by decide +kernel
set_option maxRecDepth 20000 in
theorem ggX2_isSolved_X2_placeIn : GoodIn wsX2_isSolved wsX2_placeIn := goodIn_r _ [5] (by decide +kernel) (by decide +kernel)
set_option maxRecDepth 20000 in
theorem gX2_isSolved_X2_placeIn : GoodIn wsX2_isSolved (va_wsS RX2 145 yX2_placeIn wsX2_placeIn) := goodIn_app (goodIn_of _ (by decide +kernel)) ggX2_isSolved_X2_placeIn
theorem dX2_isSolved_0 : decode cX2_isSolved 0 = .ok (.aload_n 0, 1) := by decide +kernel
theorem dX2_isSolved_1 : decode cX2_isSolved 1 = .ok (.getfield 57, 3) := by decide +kernel
theorem dX2_isSolved_4 : decode cX2_isSolved 4 = .ok (.iconst 0, 1) := by decide +kernel
theorem dX2_isSolved_5 : decode cX2_isSolved 5 = .ok (.invokestatic 145, 3) := by decide +kernel
theorem dX2_isSolved_8 : decode cX2_isSolved 8 = .ok (.iconst 4, 1) := by decide +kernel
theorem dX2_isSolved_9 : decode cX2_isSolved 9 = .ok (.if_icmp .ne 7, 3) := by decide +kernel
theorem dX2_isSolved_12 : decode cX2_isSolved 12 = .ok (.iconst 1, 1) := by decide +kernel
theorem dX2_isSolved_13 : decode cX2_isSolved 13 = .ok (.goto 4, 3) := by decide +kernel
theorem dX2_isSolved_16 : decode cX2_isSolved 16 = .ok (.iconst 0, 1) := by decide +kernel
theorem dX2_isSolved_17 : decode cX2_isSolved 17 = .ok (.ireturn, 1) := by decide +kernel
theorem dX2_moves_0 : decode cX2_moves 0 = .ok (.aload_n 0, 1) := by decide +kernel
theorem dX2_moves_1 : decode cX2_moves 1 = .ok (.getfield 44, 3) := by decide +kernel
theorem dX2_moves_4 : decode cX2_moves 4 = .ok (.ireturn, 1) := by decide +kernel
theorem dX2_driven_0 : decode cX2_driven 0 = .ok (.aload_n 0, 1) := by decide +kernel
theorem dX2_driven_1 : decode cX2_driven 1 = .ok (.getfield 136, 3) := by decide +kernel
theorem dX2_driven_4 : decode cX2_driven 4 = .ok (.ireturn, 1) := by decide +kernel
set_option maxRecDepth 20000 in
theorem ggX2_positions_X2_searchFromNow : GoodIn wsX2_positions wsX2_searchFromNow := goodIn_r _ [6, 7, 1, 8, 9, 10, 11, 12, 13, 14, 15, 16, 17, 18, 19, 20, 21, 22, 23, 24, 25, 26, 27, 28, 29, 30, 31, 32, 33, 5, 34, 35, 36, 37, 38, 39, 40, 41, 42, 43, 44, 45, 46, 47, 48, 49, 50, 51, 52, 53, 54, 55, 56, 57, 58, 59, 60, 61, 62, 63, 64, 65, 66, 67, 68, 69, 70, 71, 72, 73, 74, 75, 76, 77, 78, 79, 80, 81, 82, 83, 84, 85, 86, 87, 88, 89, 90, 91, 92, 93, 94, 95, 96, 97, 102, 103, 104, 105, 106, 107, 108, 109, 110, 111, 112, 113, 114, 115, 116, 117, 118, 119, 120, 121, 122, 123, 124] (by decide +kernel) (by decide +kernel)
set_option maxRecDepth 20000 in
theorem gX2_positions_X2_searchFromNow : GoodIn wsX2_positions (wsV RX2 152 RX2 yX2_searchFromNow wsX2_searchFromNow) := goodIn_app (goodIn_of _ (by decide +kernel)) ggX2_positions_X2_searchFromNow
set_option maxRecDepth 20000 in
theorem ggX2_positions_X0_count : GoodIn wsX2_positions wsX0_count := goodIn_r _ [101, 15, 109, 110, 111, 112, 113, 114, 115, 116, 117, 118] (by decide +kernel) (by decide +kernel)
set_option maxRecDepth 20000 in
theorem gX2_positions_X0_count : GoodIn wsX2_positions (wsV RX2 155 RX0 yX0_count wsX0_count) := goodIn_app (goodIn_of _ (by decide +kernel)) ggX2_positions_X0_count
theorem dX2_positions_0 : decode cX2_positions 0 = .ok (.aload_n 0, 1) := by decide +kernel
theorem dX2_positions_1 : decode cX2_positions 1 = .ok (.invokevirtual 152, 3) := by decide +kernel
theorem dX2_positions_4 : decode cX2_positions 4 = .ok (.aload_n 0, 1) := by decide +kernel
theorem dX2_positions_5 : decode cX2_positions 5 = .ok (.getfield 21, 3) := by decide +kernel
theorem dX2_positions_8 : decode cX2_positions 8 = .ok (.invokevirtual 155, 3) := by decide +kernel
theorem dX2_positions_11 : decode cX2_positions 11 = .ok (.ireturn, 1) := by decide +kernel
set_option maxRecDepth 20000 in
theorem ggX2_fewestMoves_X2_searchFromNow : GoodIn wsX2_fewestMoves wsX2_searchFromNow := goodIn_r _ [6, 7, 1, 8, 9, 10, 11, 12, 13, 14, 15, 16, 17, 18, 19, 20, 21, 22, 23, 24, 25, 26, 27, 28, 29, 30, 31, 32, 33, 5, 34, 35, 36, 37, 38, 39, 40, 41, 42, 43, 44, 45, 46, 47, 48, 49, 50, 51, 52, 53, 54, 55, 56, 57, 58, 59, 60, 61, 62, 63, 64, 65, 66, 67, 68, 69, 70, 71, 72, 73, 74, 75, 76, 77, 78, 79, 80, 81, 82, 83, 84, 85, 86, 87, 88, 89, 90, 91, 92, 93, 94, 95, 96, 97, 102, 103, 104, 105, 106, 107, 108, 109, 110, 111, 112, 113, 114, 115, 116, 117, 118, 119, 120, 121, 122, 123, 124] (by decide +kernel) (by decide +kernel)
set_option maxRecDepth 20000 in
theorem gX2_fewestMoves_X2_searchFromNow : GoodIn wsX2_fewestMoves (wsV RX2 152 RX2 yX2_searchFromNow wsX2_searchFromNow) := goodIn_app (goodIn_of _ (by decide +kernel)) ggX2_fewestMoves_X2_searchFromNow
set_option maxRecDepth 20000 in
theorem ggX2_fewestMoves_X0_movesToSolved : GoodIn wsX2_fewestMoves wsX0_movesToSolved := goodIn_r _ [101, 88, 109, 110, 111, 112, 113, 114, 115, 116, 117, 118] (by decide +kernel) (by decide +kernel)
set_option maxRecDepth 20000 in
theorem gX2_fewestMoves_X0_movesToSolved : GoodIn wsX2_fewestMoves (wsV RX2 156 RX0 yX0_movesToSolved wsX0_movesToSolved) := goodIn_app (goodIn_of _ (by decide +kernel)) ggX2_fewestMoves_X0_movesToSolved
theorem dX2_fewestMoves_0 : decode cX2_fewestMoves 0 = .ok (.aload_n 0, 1) := by decide +kernel
theorem dX2_fewestMoves_1 : decode cX2_fewestMoves 1 = .ok (.invokevirtual 152, 3) := by decide +kernel
theorem dX2_fewestMoves_4 : decode cX2_fewestMoves 4 = .ok (.aload_n 0, 1) := by decide +kernel
theorem dX2_fewestMoves_5 : decode cX2_fewestMoves 5 = .ok (.getfield 21, 3) := by decide +kernel
theorem dX2_fewestMoves_8 : decode cX2_fewestMoves 8 = .ok (.invokevirtual 156, 3) := by decide +kernel
theorem dX2_fewestMoves_11 : decode cX2_fewestMoves 11 = .ok (.ireturn, 1) := by decide +kernel
set_option maxRecDepth 20000 in
theorem ggX2_hint_X2_searchFromNow : GoodIn wsX2_hint wsX2_searchFromNow := goodIn_r _ [6, 7, 1, 8, 9, 10, 11, 12, 13, 14, 15, 16, 17, 18, 19, 20, 21, 22, 23, 24, 25, 26, 27, 28, 29, 30, 31, 32, 33, 5, 34, 35, 36, 37, 38, 39, 40, 41, 42, 43, 44, 45, 46, 47, 48, 49, 50, 51, 52, 53, 54, 55, 56, 57, 58, 59, 60, 61, 62, 63, 64, 65, 66, 67, 68, 69, 70, 71, 72, 73, 74, 75, 76, 77, 78, 79, 80, 81, 82, 83, 84, 85, 86, 87, 88, 89, 90, 91, 92, 93, 94, 95, 96, 97, 102, 103, 104, 105, 106, 107, 108, 109, 110, 111, 112, 113, 114, 115, 116, 117, 118, 119, 120, 121, 122, 123, 124] (by decide +kernel) (by decide +kernel)
set_option maxRecDepth 20000 in
theorem gX2_hint_X2_searchFromNow : GoodIn wsX2_hint (wsV RX2 152 RX2 yX2_searchFromNow wsX2_searchFromNow) := goodIn_app (goodIn_of _ (by decide +kernel)) ggX2_hint_X2_searchFromNow
set_option maxRecDepth 20000 in
theorem ggX2_hint_X0_firstMoveToSolved : GoodIn wsX2_hint wsX0_firstMoveToSolved := goodIn_r _ [101, 90, 109, 110, 111, 112, 113, 114, 115, 116, 117, 118] (by decide +kernel) (by decide +kernel)
set_option maxRecDepth 20000 in
theorem gX2_hint_X0_firstMoveToSolved : GoodIn wsX2_hint (wsV RX2 159 RX0 yX0_firstMoveToSolved wsX0_firstMoveToSolved) := goodIn_app (goodIn_of _ (by decide +kernel)) ggX2_hint_X0_firstMoveToSolved
theorem dX2_hint_0 : decode cX2_hint 0 = .ok (.aload_n 0, 1) := by decide +kernel
theorem dX2_hint_1 : decode cX2_hint 1 = .ok (.invokevirtual 152, 3) := by decide +kernel
theorem dX2_hint_4 : decode cX2_hint 4 = .ok (.aload_n 0, 1) := by decide +kernel
theorem dX2_hint_5 : decode cX2_hint 5 = .ok (.getfield 21, 3) := by decide +kernel
theorem dX2_hint_8 : decode cX2_hint 8 = .ok (.invokevirtual 159, 3) := by decide +kernel
theorem dX2_hint_11 : decode cX2_hint 11 = .ok (.ireturn, 1) := by decide +kernel
set_option maxRecDepth 20000 in
theorem ggX2_wayNow_X1_filledIn : GoodIn wsX2_wayNow wsX1_filledIn := goodIn_r _ [7, 8, 9, 10, 11, 6, 12, 13, 14, 15, 16, 17, 18, 19, 20, 21, 40, 41, 42, 43, 44, 45] (by decide +kernel) (by decide +kernel)
set_option maxRecDepth 20000 in
theorem gX2_wayNow_X1_filledIn : GoodIn wsX2_wayNow (wsV RX2 60 RX1 yX1_filledIn wsX1_filledIn) := goodIn_app (goodIn_of _ (by decide +kernel)) ggX2_wayNow_X1_filledIn
set_option maxRecDepth 20000 in
theorem ggX2_wayNow_X1_wayIn : GoodIn wsX2_wayNow wsX1_wayIn := goodIn_r _ [25, 26, 13, 27, 15, 16, 17, 6, 18, 8, 19, 20, 21, 9, 10, 11, 12, 14, 28, 29, 30, 31, 32, 40, 41, 42, 43, 44, 45] (by decide +kernel) (by decide +kernel)
set_option maxRecDepth 20000 in
theorem gX2_wayNow_X1_wayIn : GoodIn wsX2_wayNow (wsV RX2 173 RX1 yX1_wayIn wsX1_wayIn) := goodIn_app (goodIn_of _ (by decide +kernel)) ggX2_wayNow_X1_wayIn
theorem dX2_wayNow_0 : decode cX2_wayNow 0 = .ok (.aload_n 0, 1) := by decide +kernel
theorem dX2_wayNow_1 : decode cX2_wayNow 1 = .ok (.getfield 10, 3) := by decide +kernel
theorem dX2_wayNow_4 : decode cX2_wayNow 4 = .ok (.aload_n 0, 1) := by decide +kernel
theorem dX2_wayNow_5 : decode cX2_wayNow 5 = .ok (.getfield 57, 3) := by decide +kernel
theorem dX2_wayNow_8 : decode cX2_wayNow 8 = .ok (.aload_n 0, 1) := by decide +kernel
theorem dX2_wayNow_9 : decode cX2_wayNow 9 = .ok (.getfield 10, 3) := by decide +kernel
theorem dX2_wayNow_12 : decode cX2_wayNow 12 = .ok (.aload_n 0, 1) := by decide +kernel
theorem dX2_wayNow_13 : decode cX2_wayNow 13 = .ok (.getfield 57, 3) := by decide +kernel
theorem dX2_wayNow_16 : decode cX2_wayNow 16 = .ok (.invokevirtual 60, 3) := by decide +kernel
theorem dX2_wayNow_19 : decode cX2_wayNow 19 = .ok (.iload_n 1, 1) := by decide +kernel
theorem dX2_wayNow_20 : decode cX2_wayNow 20 = .ok (.iload_n 2, 1) := by decide +kernel
theorem dX2_wayNow_21 : decode cX2_wayNow 21 = .ok (.ifCond .eq 7, 3) := by decide +kernel
theorem dX2_wayNow_24 : decode cX2_wayNow 24 = .ok (.iconst 1, 1) := by decide +kernel
theorem dX2_wayNow_25 : decode cX2_wayNow 25 = .ok (.goto 4, 3) := by decide +kernel
theorem dX2_wayNow_28 : decode cX2_wayNow 28 = .ok (.iconst (-1), 1) := by decide +kernel
theorem dX2_wayNow_29 : decode cX2_wayNow 29 = .ok (.invokevirtual 173, 3) := by decide +kernel
theorem dX2_wayNow_32 : decode cX2_wayNow 32 = .ok (.ireturn, 1) := by decide +kernel
set_option maxRecDepth 20000 in
theorem ggX2_makeMove_X2_moved : GoodIn wsX2_makeMove wsX2_moved := goodIn_r _ [11] (by decide +kernel) (by decide +kernel)
set_option maxRecDepth 20000 in
theorem gX2_makeMove_X2_moved : GoodIn wsX2_makeMove (va_wsS RX2 76 yX2_moved wsX2_moved) := goodIn_app (goodIn_of _ (by decide +kernel)) ggX2_makeMove_X2_moved
set_option maxRecDepth 20000 in
theorem ggX2_makeMove_X2_standAt : GoodIn wsX2_makeMove wsX2_standAt := goodIn_r _ [15, 1, 16, 17, 18, 19, 20, 21, 22, 23] (by decide +kernel) (by decide +kernel)
set_option maxRecDepth 20000 in
theorem gX2_makeMove_X2_standAt : GoodIn wsX2_makeMove (wsV RX2 80 RX2 yX2_standAt wsX2_standAt) := goodIn_app (goodIn_of _ (by decide +kernel)) ggX2_makeMove_X2_standAt
theorem dX2_makeMove_0 : decode cX2_makeMove 0 = .ok (.aload_n 0, 1) := by decide +kernel
theorem dX2_makeMove_1 : decode cX2_makeMove 1 = .ok (.aload_n 0, 1) := by decide +kernel
theorem dX2_makeMove_2 : decode cX2_makeMove 2 = .ok (.getfield 57, 3) := by decide +kernel
theorem dX2_makeMove_5 : decode cX2_makeMove 5 = .ok (.iload_n 1, 1) := by decide +kernel
theorem dX2_makeMove_6 : decode cX2_makeMove 6 = .ok (.iload_n 2, 1) := by decide +kernel
theorem dX2_makeMove_7 : decode cX2_makeMove 7 = .ok (.invokestatic 76, 3) := by decide +kernel
theorem dX2_makeMove_10 : decode cX2_makeMove 10 = .ok (.invokevirtual 80, 3) := by decide +kernel
theorem dX2_makeMove_13 : decode cX2_makeMove 13 = .ok (.aload_n 0, 1) := by decide +kernel
theorem dX2_makeMove_14 : decode cX2_makeMove 14 = .ok (.dup, 1) := by decide +kernel
theorem dX2_makeMove_15 : decode cX2_makeMove 15 = .ok (.getfield 44, 3) := by decide +kernel
theorem dX2_makeMove_18 : decode cX2_makeMove 18 = .ok (.iconst 1, 1) := by decide +kernel
theorem dX2_makeMove_19 : decode cX2_makeMove 19 = .ok (.iadd, 1) := by decide +kernel
theorem dX2_makeMove_20 : decode cX2_makeMove 20 = .ok (.putfield 44, 3) := by decide +kernel
theorem dX2_makeMove_23 : decode cX2_makeMove 23 = .ok (.aload_n 0, 1) := by decide +kernel
theorem dX2_makeMove_24 : decode cX2_makeMove 24 = .ok (.dup, 1) := by decide +kernel
theorem dX2_makeMove_25 : decode cX2_makeMove 25 = .ok (.getfield 136, 3) := by decide +kernel
theorem dX2_makeMove_28 : decode cX2_makeMove 28 = .ok (.iload_n 2, 1) := by decide +kernel
theorem dX2_makeMove_29 : decode cX2_makeMove 29 = .ok (.invokestatic 120, 3) := by decide +kernel
theorem dX2_makeMove_32 : decode cX2_makeMove 32 = .ok (.iadd, 1) := by decide +kernel
theorem dX2_makeMove_33 : decode cX2_makeMove 33 = .ok (.putfield 136, 3) := by decide +kernel
theorem dX2_makeMove_36 : decode cX2_makeMove 36 = .ok (.return_, 1) := by decide +kernel
theorem dX2_standAt_0 : decode cX2_standAt 0 = .ok (.aload_n 0, 1) := by decide +kernel
theorem dX2_standAt_1 : decode cX2_standAt 1 = .ok (.iload_n 1, 1) := by decide +kernel
theorem dX2_standAt_2 : decode cX2_standAt 2 = .ok (.putfield 57, 3) := by decide +kernel
theorem dX2_standAt_5 : decode cX2_standAt 5 = .ok (.aload_n 0, 1) := by decide +kernel
theorem dX2_standAt_6 : decode cX2_standAt 6 = .ok (.iconst 0, 1) := by decide +kernel
theorem dX2_standAt_7 : decode cX2_standAt 7 = .ok (.putfield 106, 3) := by decide +kernel
theorem dX2_standAt_10 : decode cX2_standAt 10 = .ok (.return_, 1) := by decide +kernel
set_option maxRecDepth 20000 in
theorem ggX2_searchFromNow_X0_lookFrom : GoodIn wsX2_searchFromNow wsX0_lookFrom := goodIn_r _ [8, 9, 10, 11, 12, 13, 14, 15, 16, 17, 18, 7, 19, 20, 21, 22, 23, 24, 25, 26, 27, 28, 29, 30, 31, 32, 33, 34, 35, 36, 37, 38, 39, 40, 41, 42, 43, 44, 45, 46, 47, 48, 49, 50, 51, 52, 53, 54, 55, 56, 57, 58, 59, 60, 61, 62, 63, 64, 65, 66, 67, 68, 69, 70, 71, 72, 73, 74, 75, 76, 77, 78, 79, 80, 81, 82, 83, 84, 85, 86, 87, 88, 89, 90, 91, 92, 93, 101, 102, 103, 104, 105, 106, 107, 108, 109, 110, 111, 112, 113, 114, 115, 116] (by decide +kernel) (by decide +kernel)
set_option maxRecDepth 20000 in
theorem gX2_searchFromNow_X0_lookFrom : GoodIn wsX2_searchFromNow (wsV RX2 177 RX0 yX0_lookFrom wsX0_lookFrom) := goodIn_app (goodIn_of _ (by decide +kernel)) ggX2_searchFromNow_X0_lookFrom
theorem dX2_searchFromNow_0 : decode cX2_searchFromNow 0 = .ok (.aload_n 0, 1) := by decide +kernel
theorem dX2_searchFromNow_1 : decode cX2_searchFromNow 1 = .ok (.getfield 106, 3) := by decide +kernel
theorem dX2_searchFromNow_4 : decode cX2_searchFromNow 4 = .ok (.ifCond .ne 19, 3) := by decide +kernel
theorem dX2_searchFromNow_7 : decode cX2_searchFromNow 7 = .ok (.aload_n 0, 1) := by decide +kernel
theorem dX2_searchFromNow_8 : decode cX2_searchFromNow 8 = .ok (.getfield 21, 3) := by decide +kernel
theorem dX2_searchFromNow_11 : decode cX2_searchFromNow 11 = .ok (.aload_n 0, 1) := by decide +kernel
theorem dX2_searchFromNow_12 : decode cX2_searchFromNow 12 = .ok (.getfield 57, 3) := by decide +kernel
theorem dX2_searchFromNow_15 : decode cX2_searchFromNow 15 = .ok (.invokevirtual 177, 3) := by decide +kernel
theorem dX2_searchFromNow_18 : decode cX2_searchFromNow 18 = .ok (.aload_n 0, 1) := by decide +kernel
theorem dX2_searchFromNow_19 : decode cX2_searchFromNow 19 = .ok (.iconst 1, 1) := by decide +kernel
theorem dX2_searchFromNow_20 : decode cX2_searchFromNow 20 = .ok (.putfield 106, 3) := by decide +kernel
theorem dX2_searchFromNow_23 : decode cX2_searchFromNow 23 = .ok (.return_, 1) := by decide +kernel
theorem dX2_isInYard_0 : decode cX2_isInYard 0 = .ok (.iload_n 0, 1) := by decide +kernel
theorem dX2_isInYard_1 : decode cX2_isInYard 1 = .ok (.ifCond .lt 23, 3) := by decide +kernel
theorem dX2_isInYard_4 : decode cX2_isInYard 4 = .ok (.iload_n 0, 1) := by decide +kernel
theorem dX2_isInYard_5 : decode cX2_isInYard 5 = .ok (.bipush 6, 2) := by decide +kernel
theorem dX2_isInYard_7 : decode cX2_isInYard 7 = .ok (.if_icmp .ge 17, 3) := by decide +kernel
theorem dX2_isInYard_10 : decode cX2_isInYard 10 = .ok (.iload_n 1, 1) := by decide +kernel
theorem dX2_isInYard_11 : decode cX2_isInYard 11 = .ok (.ifCond .lt 13, 3) := by decide +kernel
theorem dX2_isInYard_14 : decode cX2_isInYard 14 = .ok (.iload_n 1, 1) := by decide +kernel
theorem dX2_isInYard_15 : decode cX2_isInYard 15 = .ok (.bipush 6, 2) := by decide +kernel
theorem dX2_isInYard_17 : decode cX2_isInYard 17 = .ok (.if_icmp .ge 7, 3) := by decide +kernel
theorem dX2_isInYard_20 : decode cX2_isInYard 20 = .ok (.iconst 1, 1) := by decide +kernel
theorem dX2_isInYard_21 : decode cX2_isInYard 21 = .ok (.goto 4, 3) := by decide +kernel
theorem dX2_isInYard_24 : decode cX2_isInYard 24 = .ok (.iconst 0, 1) := by decide +kernel
theorem dX2_isInYard_25 : decode cX2_isInYard 25 = .ok (.ireturn, 1) := by decide +kernel
theorem dX2_cellOf_0 : decode cX2_cellOf 0 = .ok (.lconst 1, 1) := by decide +kernel
theorem dX2_cellOf_1 : decode cX2_cellOf 1 = .ok (.bipush 6, 2) := by decide +kernel
theorem dX2_cellOf_3 : decode cX2_cellOf 3 = .ok (.iload_n 0, 1) := by decide +kernel
theorem dX2_cellOf_4 : decode cX2_cellOf 4 = .ok (.imul, 1) := by decide +kernel
theorem dX2_cellOf_5 : decode cX2_cellOf 5 = .ok (.iload_n 1, 1) := by decide +kernel
theorem dX2_cellOf_6 : decode cX2_cellOf 6 = .ok (.iadd, 1) := by decide +kernel
theorem dX2_cellOf_7 : decode cX2_cellOf 7 = .ok (.lshl, 1) := by decide +kernel
theorem dX2_cellOf_8 : decode cX2_cellOf 8 = .ok (.lreturn, 1) := by decide +kernel
set_option maxRecDepth 20000 in
theorem ggX2_cellsOf_X2_cellOf : GoodIn wsX2_cellsOf wsX2_cellOf := goodIn_r _ [4] (by decide +kernel) (by decide +kernel)
set_option maxRecDepth 20000 in
theorem gX2_cellsOf_X2_cellOf : GoodIn wsX2_cellsOf (va_wsS RX2 88 yX2_cellOf wsX2_cellOf) := goodIn_app (goodIn_of _ (by decide +kernel)) ggX2_cellsOf_X2_cellOf
theorem dX2_cellsOf_0 : decode cX2_cellsOf 0 = .ok (.lconst 0, 1) := by decide +kernel
theorem dX2_cellsOf_1 : decode cX2_cellsOf 1 = .ok (.lstore 4, 2) := by decide +kernel
theorem dX2_cellsOf_3 : decode cX2_cellsOf 3 = .ok (.iconst 0, 1) := by decide +kernel
theorem dX2_cellsOf_4 : decode cX2_cellsOf 4 = .ok (.istore 6, 2) := by decide +kernel
theorem dX2_cellsOf_6 : decode cX2_cellsOf 6 = .ok (.iload 6, 2) := by decide +kernel
theorem dX2_cellsOf_8 : decode cX2_cellsOf 8 = .ok (.iload_n 0, 1) := by decide +kernel
theorem dX2_cellsOf_9 : decode cX2_cellsOf 9 = .ok (.if_icmp .ge 43, 3) := by decide +kernel
theorem dX2_cellsOf_12 : decode cX2_cellsOf 12 = .ok (.iload 6, 2) := by decide +kernel
theorem dX2_cellsOf_14 : decode cX2_cellsOf 14 = .ok (.iconst 4, 1) := by decide +kernel
theorem dX2_cellsOf_15 : decode cX2_cellsOf 15 = .ok (.if_icmp .ge 37, 3) := by decide +kernel
theorem dX2_cellsOf_18 : decode cX2_cellsOf 18 = .ok (.lload 4, 2) := by decide +kernel
theorem dX2_cellsOf_20 : decode cX2_cellsOf 20 = .ok (.iload_n 1, 1) := by decide +kernel
theorem dX2_cellsOf_21 : decode cX2_cellsOf 21 = .ok (.ifCond .eq 14, 3) := by decide +kernel
theorem dX2_cellsOf_24 : decode cX2_cellsOf 24 = .ok (.iload_n 2, 1) := by decide +kernel
theorem dX2_cellsOf_25 : decode cX2_cellsOf 25 = .ok (.iload_n 3, 1) := by decide +kernel
theorem dX2_cellsOf_26 : decode cX2_cellsOf 26 = .ok (.iload 6, 2) := by decide +kernel
theorem dX2_cellsOf_28 : decode cX2_cellsOf 28 = .ok (.iadd, 1) := by decide +kernel
theorem dX2_cellsOf_29 : decode cX2_cellsOf 29 = .ok (.invokestatic 88, 3) := by decide +kernel
theorem dX2_cellsOf_32 : decode cX2_cellsOf 32 = .ok (.goto 11, 3) := by decide +kernel
theorem dX2_cellsOf_35 : decode cX2_cellsOf 35 = .ok (.iload_n 2, 1) := by decide +kernel
theorem dX2_cellsOf_36 : decode cX2_cellsOf 36 = .ok (.iload 6, 2) := by decide +kernel
theorem dX2_cellsOf_38 : decode cX2_cellsOf 38 = .ok (.iadd, 1) := by decide +kernel
theorem dX2_cellsOf_39 : decode cX2_cellsOf 39 = .ok (.iload_n 3, 1) := by decide +kernel
theorem dX2_cellsOf_40 : decode cX2_cellsOf 40 = .ok (.invokestatic 88, 3) := by decide +kernel
theorem dX2_cellsOf_43 : decode cX2_cellsOf 43 = .ok (.lor, 1) := by decide +kernel
theorem dX2_cellsOf_44 : decode cX2_cellsOf 44 = .ok (.lstore 4, 2) := by decide +kernel
theorem dX2_cellsOf_46 : decode cX2_cellsOf 46 = .ok (.iinc 6 1, 3) := by decide +kernel
theorem dX2_cellsOf_49 : decode cX2_cellsOf 49 = .ok (.goto (-43), 3) := by decide +kernel
theorem dX2_cellsOf_52 : decode cX2_cellsOf 52 = .ok (.lload 4, 2) := by decide +kernel
theorem dX2_cellsOf_54 : decode cX2_cellsOf 54 = .ok (.lreturn, 1) := by decide +kernel
theorem dX2_placeIn_0 : decode cX2_placeIn 0 = .ok (.iload_n 0, 1) := by decide +kernel
theorem dX2_placeIn_1 : decode cX2_placeIn 1 = .ok (.iconst 3, 1) := by decide +kernel
theorem dX2_placeIn_2 : decode cX2_placeIn 2 = .ok (.iload_n 1, 1) := by decide +kernel
theorem dX2_placeIn_3 : decode cX2_placeIn 3 = .ok (.imul, 1) := by decide +kernel
theorem dX2_placeIn_4 : decode cX2_placeIn 4 = .ok (.ishr, 1) := by decide +kernel
theorem dX2_placeIn_5 : decode cX2_placeIn 5 = .ok (.bipush 7, 2) := by decide +kernel
theorem dX2_placeIn_7 : decode cX2_placeIn 7 = .ok (.iand, 1) := by decide +kernel
theorem dX2_placeIn_8 : decode cX2_placeIn 8 = .ok (.ireturn, 1) := by decide +kernel
theorem dX2_moved_0 : decode cX2_moved 0 = .ok (.iload_n 0, 1) := by decide +kernel
theorem dX2_moved_1 : decode cX2_moved 1 = .ok (.iload_n 2, 1) := by decide +kernel
theorem dX2_moved_2 : decode cX2_moved 2 = .ok (.iconst 1, 1) := by decide +kernel
theorem dX2_moved_3 : decode cX2_moved 3 = .ok (.iconst 3, 1) := by decide +kernel
theorem dX2_moved_4 : decode cX2_moved 4 = .ok (.iload_n 1, 1) := by decide +kernel
theorem dX2_moved_5 : decode cX2_moved 5 = .ok (.imul, 1) := by decide +kernel
theorem dX2_moved_6 : decode cX2_moved 6 = .ok (.ishl, 1) := by decide +kernel
theorem dX2_moved_7 : decode cX2_moved 7 = .ok (.imul, 1) := by decide +kernel
theorem dX2_moved_8 : decode cX2_moved 8 = .ok (.iadd, 1) := by decide +kernel
theorem dX2_moved_9 : decode cX2_moved 9 = .ok (.ireturn, 1) := by decide +kernel
