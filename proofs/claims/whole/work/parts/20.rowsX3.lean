theorem dX3_init_0 : decode cX3_init 0 = .ok (.aload_n 0, 1) := by decide +kernel
theorem dX3_init_1 : decode cX3_init 1 = .ok (.invokespecial 1, 3) := by decide +kernel
theorem dX3_init_4 : decode cX3_init 4 = .ok (.aload_n 0, 1) := by decide +kernel
theorem dX3_init_5 : decode cX3_init 5 = .ok (.bipush 9, 2) := by decide +kernel
theorem dX3_init_7 : decode cX3_init 7 = .ok (.newarray .int, 2) := by decide +kernel
theorem dX3_init_9 : decode cX3_init 9 = .ok (.putfield 7, 3) := by decide +kernel
theorem dX3_init_12 : decode cX3_init 12 = .ok (.aload_n 0, 1) := by decide +kernel
theorem dX3_init_13 : decode cX3_init 13 = .ok (.bipush 9, 2) := by decide +kernel
theorem dX3_init_15 : decode cX3_init 15 = .ok (.newarray .int, 2) := by decide +kernel
theorem dX3_init_17 : decode cX3_init 17 = .ok (.putfield 13, 3) := by decide +kernel
theorem dX3_init_20 : decode cX3_init 20 = .ok (.aload_n 0, 1) := by decide +kernel
theorem dX3_init_21 : decode cX3_init 21 = .ok (.bipush 9, 2) := by decide +kernel
theorem dX3_init_23 : decode cX3_init 23 = .ok (.newarray .int, 2) := by decide +kernel
theorem dX3_init_25 : decode cX3_init 25 = .ok (.putfield 16, 3) := by decide +kernel
theorem dX3_init_28 : decode cX3_init 28 = .ok (.aload_n 0, 1) := by decide +kernel
theorem dX3_init_29 : decode cX3_init 29 = .ok (.bipush 9, 2) := by decide +kernel
theorem dX3_init_31 : decode cX3_init 31 = .ok (.newarray .int, 2) := by decide +kernel
theorem dX3_init_33 : decode cX3_init 33 = .ok (.putfield 19, 3) := by decide +kernel
theorem dX3_init_36 : decode cX3_init 36 = .ok (.aload_n 0, 1) := by decide +kernel
theorem dX3_init_37 : decode cX3_init 37 = .ok (.bipush 9, 2) := by decide +kernel
theorem dX3_init_39 : decode cX3_init 39 = .ok (.newarray .int, 2) := by decide +kernel
theorem dX3_init_41 : decode cX3_init 41 = .ok (.putfield 22, 3) := by decide +kernel
theorem dX3_init_44 : decode cX3_init 44 = .ok (.aload_n 0, 1) := by decide +kernel
theorem dX3_init_45 : decode cX3_init 45 = .ok (.iconst (-1), 1) := by decide +kernel
theorem dX3_init_46 : decode cX3_init 46 = .ok (.putfield 25, 3) := by decide +kernel
theorem dX3_init_49 : decode cX3_init 49 = .ok (.aload_n 0, 1) := by decide +kernel
theorem dX3_init_50 : decode cX3_init 50 = .ok (.bipush 36, 2) := by decide +kernel
theorem dX3_init_52 : decode cX3_init 52 = .ok (.newarray .int, 2) := by decide +kernel
theorem dX3_init_54 : decode cX3_init 54 = .ok (.putfield 29, 3) := by decide +kernel
theorem dX3_init_57 : decode cX3_init 57 = .ok (.aload_n 0, 1) := by decide +kernel
theorem dX3_init_58 : decode cX3_init 58 = .ok (.sipush 800, 3) := by decide +kernel
theorem dX3_init_61 : decode cX3_init 61 = .ok (.newarray .int, 2) := by decide +kernel
theorem dX3_init_63 : decode cX3_init 63 = .ok (.putfield 32, 3) := by decide +kernel
theorem dX3_init_66 : decode cX3_init 66 = .ok (.aload_n 0, 1) := by decide +kernel
theorem dX3_init_67 : decode cX3_init 67 = .ok (.sipush 800, 3) := by decide +kernel
theorem dX3_init_70 : decode cX3_init 70 = .ok (.newarray .int, 2) := by decide +kernel
theorem dX3_init_72 : decode cX3_init 72 = .ok (.putfield 35, 3) := by decide +kernel
theorem dX3_init_75 : decode cX3_init 75 = .ok (.aload_n 0, 1) := by decide +kernel
theorem dX3_init_76 : decode cX3_init 76 = .ok (.sipush 800, 3) := by decide +kernel
theorem dX3_init_79 : decode cX3_init 79 = .ok (.newarray .int, 2) := by decide +kernel
theorem dX3_init_81 : decode cX3_init 81 = .ok (.putfield 38, 3) := by decide +kernel
theorem dX3_init_84 : decode cX3_init 84 = .ok (.aload_n 0, 1) := by decide +kernel
theorem dX3_init_85 : decode cX3_init 85 = .ok (.sipush 800, 3) := by decide +kernel
theorem dX3_init_88 : decode cX3_init 88 = .ok (.newarray .int, 2) := by decide +kernel
theorem dX3_init_90 : decode cX3_init 90 = .ok (.putfield 41, 3) := by decide +kernel
theorem dX3_init_93 : decode cX3_init 93 = .ok (.aload_n 0, 1) := by decide +kernel
theorem dX3_init_94 : decode cX3_init 94 = .ok (.sipush 2048, 3) := by decide +kernel
theorem dX3_init_97 : decode cX3_init 97 = .ok (.newarray .int, 2) := by decide +kernel
theorem dX3_init_99 : decode cX3_init 99 = .ok (.putfield 44, 3) := by decide +kernel
theorem dX3_init_102 : decode cX3_init 102 = .ok (.aload_n 0, 1) := by decide +kernel
theorem dX3_init_103 : decode cX3_init 103 = .ok (.bipush 9, 2) := by decide +kernel
theorem dX3_init_105 : decode cX3_init 105 = .ok (.newarray .int, 2) := by decide +kernel
theorem dX3_init_107 : decode cX3_init 107 = .ok (.putfield 47, 3) := by decide +kernel
theorem dX3_init_110 : decode cX3_init 110 = .ok (.return_, 1) := by decide +kernel
theorem dX3_thrown_0 : decode cX3_thrown 0 = .ok (.aload_n 0, 1) := by decide +kernel
theorem dX3_thrown_1 : decode cX3_thrown 1 = .ok (.getfield 50, 3) := by decide +kernel
theorem dX3_thrown_4 : decode cX3_thrown 4 = .ok (.ireturn, 1) := by decide +kernel
theorem dX3_isLine_0 : decode cX3_isLine 0 = .ok (.iload_n 0, 1) := by decide +kernel
theorem dX3_isLine_1 : decode cX3_isLine 1 = .ok (.ifCond .lt 13, 3) := by decide +kernel
theorem dX3_isLine_4 : decode cX3_isLine 4 = .ok (.iload_n 0, 1) := by decide +kernel
theorem dX3_isLine_5 : decode cX3_isLine 5 = .ok (.bipush 6, 2) := by decide +kernel
theorem dX3_isLine_7 : decode cX3_isLine 7 = .ok (.if_icmp .ge 7, 3) := by decide +kernel
theorem dX3_isLine_10 : decode cX3_isLine 10 = .ok (.iconst 1, 1) := by decide +kernel
theorem dX3_isLine_11 : decode cX3_isLine 11 = .ok (.goto 4, 3) := by decide +kernel
theorem dX3_isLine_14 : decode cX3_isLine 14 = .ok (.iconst 0, 1) := by decide +kernel
theorem dX3_isLine_15 : decode cX3_isLine 15 = .ok (.ireturn, 1) := by decide +kernel
theorem dX3_isVehicle_0 : decode cX3_isVehicle 0 = .ok (.aload_n 0, 1) := by decide +kernel
theorem dX3_isVehicle_1 : decode cX3_isVehicle 1 = .ok (.iload_n 1, 1) := by decide +kernel
theorem dX3_isVehicle_2 : decode cX3_isVehicle 2 = .ok (.ifCond .lt 15, 3) := by decide +kernel
theorem dX3_isVehicle_5 : decode cX3_isVehicle 5 = .ok (.iload_n 1, 1) := by decide +kernel
theorem dX3_isVehicle_6 : decode cX3_isVehicle 6 = .ok (.aload_n 0, 1) := by decide +kernel
theorem dX3_isVehicle_7 : decode cX3_isVehicle 7 = .ok (.getfield 53, 3) := by decide +kernel
theorem dX3_isVehicle_10 : decode cX3_isVehicle 10 = .ok (.if_icmp .ge 7, 3) := by decide +kernel
theorem dX3_isVehicle_13 : decode cX3_isVehicle 13 = .ok (.iconst 0, 1) := by decide +kernel
theorem dX3_isVehicle_14 : decode cX3_isVehicle 14 = .ok (.goto 4, 3) := by decide +kernel
theorem dX3_isVehicle_17 : decode cX3_isVehicle 17 = .ok (.iconst 1, 1) := by decide +kernel
theorem dX3_isVehicle_18 : decode cX3_isVehicle 18 = .ok (.putfield 50, 3) := by decide +kernel
theorem dX3_isVehicle_21 : decode cX3_isVehicle 21 = .ok (.aload_n 0, 1) := by decide +kernel
theorem dX3_isVehicle_22 : decode cX3_isVehicle 22 = .ok (.getfield 50, 3) := by decide +kernel
theorem dX3_isVehicle_25 : decode cX3_isVehicle 25 = .ok (.ifCond .ne 7, 3) := by decide +kernel
theorem dX3_isVehicle_28 : decode cX3_isVehicle 28 = .ok (.iconst 1, 1) := by decide +kernel
theorem dX3_isVehicle_29 : decode cX3_isVehicle 29 = .ok (.goto 4, 3) := by decide +kernel
theorem dX3_isVehicle_32 : decode cX3_isVehicle 32 = .ok (.iconst 0, 1) := by decide +kernel
theorem dX3_isVehicle_33 : decode cX3_isVehicle 33 = .ok (.ireturn, 1) := by decide +kernel
theorem dX3_cell_0 : decode cX3_cell 0 = .ok (.iload_n 0, 1) := by decide +kernel
theorem dX3_cell_1 : decode cX3_cell 1 = .ok (.iconst 1, 1) := by decide +kernel
theorem dX3_cell_2 : decode cX3_cell 2 = .ok (.if_icmp .ne 12, 3) := by decide +kernel
theorem dX3_cell_5 : decode cX3_cell 5 = .ok (.bipush 6, 2) := by decide +kernel
theorem dX3_cell_7 : decode cX3_cell 7 = .ok (.iload_n 1, 1) := by decide +kernel
theorem dX3_cell_8 : decode cX3_cell 8 = .ok (.imul, 1) := by decide +kernel
theorem dX3_cell_9 : decode cX3_cell 9 = .ok (.iload_n 2, 1) := by decide +kernel
theorem dX3_cell_10 : decode cX3_cell 10 = .ok (.iadd, 1) := by decide +kernel
theorem dX3_cell_11 : decode cX3_cell 11 = .ok (.goto 9, 3) := by decide +kernel
theorem dX3_cell_14 : decode cX3_cell 14 = .ok (.bipush 6, 2) := by decide +kernel
theorem dX3_cell_16 : decode cX3_cell 16 = .ok (.iload_n 2, 1) := by decide +kernel
theorem dX3_cell_17 : decode cX3_cell 17 = .ok (.imul, 1) := by decide +kernel
theorem dX3_cell_18 : decode cX3_cell 18 = .ok (.iload_n 1, 1) := by decide +kernel
theorem dX3_cell_19 : decode cX3_cell 19 = .ok (.iadd, 1) := by decide +kernel
theorem dX3_cell_20 : decode cX3_cell 20 = .ok (.ireturn, 1) := by decide +kernel
set_option maxRecDepth 20000 in
theorem ggX3_laysYard_X3_cell : GoodIn wsX3_laysYard wsX3_cell := goodIn_r _ [10] (by decide +kernel) (by decide +kernel)
set_option maxRecDepth 20000 in
theorem gX3_laysYard_X3_cell : GoodIn wsX3_laysYard (va_wsS RX3 56 yX3_cell wsX3_cell) := goodIn_app (goodIn_of _ (by decide +kernel)) ggX3_laysYard_X3_cell
theorem dX3_laysYard_0 : decode cX3_laysYard 0 = .ok (.iconst 0, 1) := by decide +kernel
theorem dX3_laysYard_1 : decode cX3_laysYard 1 = .ok (.istore_n 1, 1) := by decide +kernel
theorem dX3_laysYard_2 : decode cX3_laysYard 2 = .ok (.iload_n 1, 1) := by decide +kernel
theorem dX3_laysYard_3 : decode cX3_laysYard 3 = .ok (.bipush 36, 2) := by decide +kernel
theorem dX3_laysYard_5 : decode cX3_laysYard 5 = .ok (.if_icmp .ge 16, 3) := by decide +kernel
theorem dX3_laysYard_8 : decode cX3_laysYard 8 = .ok (.aload_n 0, 1) := by decide +kernel
theorem dX3_laysYard_9 : decode cX3_laysYard 9 = .ok (.getfield 29, 3) := by decide +kernel
theorem dX3_laysYard_12 : decode cX3_laysYard 12 = .ok (.iload_n 1, 1) := by decide +kernel
theorem dX3_laysYard_13 : decode cX3_laysYard 13 = .ok (.iconst 0, 1) := by decide +kernel
theorem dX3_laysYard_14 : decode cX3_laysYard 14 = .ok (.iastore, 1) := by decide +kernel
theorem dX3_laysYard_15 : decode cX3_laysYard 15 = .ok (.iinc 1 1, 3) := by decide +kernel
theorem dX3_laysYard_18 : decode cX3_laysYard 18 = .ok (.goto (-16), 3) := by decide +kernel
theorem dX3_laysYard_21 : decode cX3_laysYard 21 = .ok (.iconst 0, 1) := by decide +kernel
theorem dX3_laysYard_22 : decode cX3_laysYard 22 = .ok (.istore_n 1, 1) := by decide +kernel
theorem dX3_laysYard_23 : decode cX3_laysYard 23 = .ok (.iload_n 1, 1) := by decide +kernel
theorem dX3_laysYard_24 : decode cX3_laysYard 24 = .ok (.aload_n 0, 1) := by decide +kernel
theorem dX3_laysYard_25 : decode cX3_laysYard 25 = .ok (.getfield 53, 3) := by decide +kernel
theorem dX3_laysYard_28 : decode cX3_laysYard 28 = .ok (.if_icmp .ge 58, 3) := by decide +kernel
theorem dX3_laysYard_31 : decode cX3_laysYard 31 = .ok (.iconst 0, 1) := by decide +kernel
theorem dX3_laysYard_32 : decode cX3_laysYard 32 = .ok (.istore_n 2, 1) := by decide +kernel
theorem dX3_laysYard_33 : decode cX3_laysYard 33 = .ok (.iload_n 2, 1) := by decide +kernel
theorem dX3_laysYard_34 : decode cX3_laysYard 34 = .ok (.aload_n 0, 1) := by decide +kernel
theorem dX3_laysYard_35 : decode cX3_laysYard 35 = .ok (.getfield 7, 3) := by decide +kernel
theorem dX3_laysYard_38 : decode cX3_laysYard 38 = .ok (.iload_n 1, 1) := by decide +kernel
theorem dX3_laysYard_39 : decode cX3_laysYard 39 = .ok (.iaload, 1) := by decide +kernel
theorem dX3_laysYard_40 : decode cX3_laysYard 40 = .ok (.if_icmp .ge 40, 3) := by decide +kernel
theorem dX3_laysYard_43 : decode cX3_laysYard 43 = .ok (.aload_n 0, 1) := by decide +kernel
theorem dX3_laysYard_44 : decode cX3_laysYard 44 = .ok (.getfield 29, 3) := by decide +kernel
theorem dX3_laysYard_47 : decode cX3_laysYard 47 = .ok (.aload_n 0, 1) := by decide +kernel
theorem dX3_laysYard_48 : decode cX3_laysYard 48 = .ok (.getfield 13, 3) := by decide +kernel
theorem dX3_laysYard_51 : decode cX3_laysYard 51 = .ok (.iload_n 1, 1) := by decide +kernel
theorem dX3_laysYard_52 : decode cX3_laysYard 52 = .ok (.iaload, 1) := by decide +kernel
theorem dX3_laysYard_53 : decode cX3_laysYard 53 = .ok (.aload_n 0, 1) := by decide +kernel
theorem dX3_laysYard_54 : decode cX3_laysYard 54 = .ok (.getfield 16, 3) := by decide +kernel
theorem dX3_laysYard_57 : decode cX3_laysYard 57 = .ok (.iload_n 1, 1) := by decide +kernel
theorem dX3_laysYard_58 : decode cX3_laysYard 58 = .ok (.iaload, 1) := by decide +kernel
theorem dX3_laysYard_59 : decode cX3_laysYard 59 = .ok (.aload_n 0, 1) := by decide +kernel
theorem dX3_laysYard_60 : decode cX3_laysYard 60 = .ok (.getfield 19, 3) := by decide +kernel
theorem dX3_laysYard_63 : decode cX3_laysYard 63 = .ok (.iload_n 1, 1) := by decide +kernel
theorem dX3_laysYard_64 : decode cX3_laysYard 64 = .ok (.iaload, 1) := by decide +kernel
theorem dX3_laysYard_65 : decode cX3_laysYard 65 = .ok (.iload_n 2, 1) := by decide +kernel
theorem dX3_laysYard_66 : decode cX3_laysYard 66 = .ok (.iadd, 1) := by decide +kernel
theorem dX3_laysYard_67 : decode cX3_laysYard 67 = .ok (.invokestatic 56, 3) := by decide +kernel
theorem dX3_laysYard_70 : decode cX3_laysYard 70 = .ok (.iload_n 1, 1) := by decide +kernel
theorem dX3_laysYard_71 : decode cX3_laysYard 71 = .ok (.iconst 1, 1) := by decide +kernel
theorem dX3_laysYard_72 : decode cX3_laysYard 72 = .ok (.iadd, 1) := by decide +kernel
theorem dX3_laysYard_73 : decode cX3_laysYard 73 = .ok (.iastore, 1) := by decide +kernel
theorem dX3_laysYard_74 : decode cX3_laysYard 74 = .ok (.iinc 2 1, 3) := by decide +kernel
theorem dX3_laysYard_77 : decode cX3_laysYard 77 = .ok (.goto (-44), 3) := by decide +kernel
theorem dX3_laysYard_80 : decode cX3_laysYard 80 = .ok (.iinc 1 1, 3) := by decide +kernel
theorem dX3_laysYard_83 : decode cX3_laysYard 83 = .ok (.goto (-60), 3) := by decide +kernel
theorem dX3_laysYard_86 : decode cX3_laysYard 86 = .ok (.return_, 1) := by decide +kernel
set_option maxRecDepth 20000 in
theorem ggX3_isOpen_X3_isLine : GoodIn wsX3_isOpen wsX3_isLine := goodIn_r _ [9] (by decide +kernel) (by decide +kernel)
set_option maxRecDepth 20000 in
theorem gX3_isOpen_X3_isLine : GoodIn wsX3_isOpen (va_wsS RX3 60 yX3_isLine wsX3_isLine) := goodIn_app (goodIn_of _ (by decide +kernel)) ggX3_isOpen_X3_isLine
set_option maxRecDepth 20000 in
theorem ggX3_isOpen_X3_cell : GoodIn wsX3_isOpen wsX3_cell := goodIn_r _ [12] (by decide +kernel) (by decide +kernel)
set_option maxRecDepth 20000 in
theorem gX3_isOpen_X3_cell : GoodIn wsX3_isOpen (va_wsS RX3 56 yX3_cell wsX3_cell) := goodIn_app (goodIn_of _ (by decide +kernel)) ggX3_isOpen_X3_cell
theorem dX3_isOpen_0 : decode cX3_isOpen 0 = .ok (.iload_n 2, 1) := by decide +kernel
theorem dX3_isOpen_1 : decode cX3_isOpen 1 = .ok (.invokestatic 60, 3) := by decide +kernel
theorem dX3_isOpen_4 : decode cX3_isOpen 4 = .ok (.ifCond .ne 5, 3) := by decide +kernel
theorem dX3_isOpen_7 : decode cX3_isOpen 7 = .ok (.iconst 0, 1) := by decide +kernel
theorem dX3_isOpen_8 : decode cX3_isOpen 8 = .ok (.ireturn, 1) := by decide +kernel
theorem dX3_isOpen_9 : decode cX3_isOpen 9 = .ok (.aload_n 0, 1) := by decide +kernel
theorem dX3_isOpen_10 : decode cX3_isOpen 10 = .ok (.getfield 13, 3) := by decide +kernel
theorem dX3_isOpen_13 : decode cX3_isOpen 13 = .ok (.iload_n 1, 1) := by decide +kernel
theorem dX3_isOpen_14 : decode cX3_isOpen 14 = .ok (.iaload, 1) := by decide +kernel
theorem dX3_isOpen_15 : decode cX3_isOpen 15 = .ok (.aload_n 0, 1) := by decide +kernel
theorem dX3_isOpen_16 : decode cX3_isOpen 16 = .ok (.getfield 16, 3) := by decide +kernel
theorem dX3_isOpen_19 : decode cX3_isOpen 19 = .ok (.iload_n 1, 1) := by decide +kernel
theorem dX3_isOpen_20 : decode cX3_isOpen 20 = .ok (.iaload, 1) := by decide +kernel
theorem dX3_isOpen_21 : decode cX3_isOpen 21 = .ok (.iload_n 2, 1) := by decide +kernel
theorem dX3_isOpen_22 : decode cX3_isOpen 22 = .ok (.invokestatic 56, 3) := by decide +kernel
theorem dX3_isOpen_25 : decode cX3_isOpen 25 = .ok (.istore_n 3, 1) := by decide +kernel
theorem dX3_isOpen_26 : decode cX3_isOpen 26 = .ok (.aload_n 0, 1) := by decide +kernel
theorem dX3_isOpen_27 : decode cX3_isOpen 27 = .ok (.getfield 29, 3) := by decide +kernel
theorem dX3_isOpen_30 : decode cX3_isOpen 30 = .ok (.iload_n 3, 1) := by decide +kernel
theorem dX3_isOpen_31 : decode cX3_isOpen 31 = .ok (.iaload, 1) := by decide +kernel
theorem dX3_isOpen_32 : decode cX3_isOpen 32 = .ok (.ifCond .ne 25, 3) := by decide +kernel
theorem dX3_isOpen_35 : decode cX3_isOpen 35 = .ok (.aload_n 0, 1) := by decide +kernel
theorem dX3_isOpen_36 : decode cX3_isOpen 36 = .ok (.getfield 7, 3) := by decide +kernel
theorem dX3_isOpen_39 : decode cX3_isOpen 39 = .ok (.iload_n 1, 1) := by decide +kernel
theorem dX3_isOpen_40 : decode cX3_isOpen 40 = .ok (.iaload, 1) := by decide +kernel
theorem dX3_isOpen_41 : decode cX3_isOpen 41 = .ok (.iconst 2, 1) := by decide +kernel
theorem dX3_isOpen_42 : decode cX3_isOpen 42 = .ok (.if_icmp .eq 11, 3) := by decide +kernel
theorem dX3_isOpen_45 : decode cX3_isOpen 45 = .ok (.iload_n 3, 1) := by decide +kernel
theorem dX3_isOpen_46 : decode cX3_isOpen 46 = .ok (.aload_n 0, 1) := by decide +kernel
theorem dX3_isOpen_47 : decode cX3_isOpen 47 = .ok (.getfield 25, 3) := by decide +kernel
theorem dX3_isOpen_50 : decode cX3_isOpen 50 = .ok (.if_icmp .eq 7, 3) := by decide +kernel
theorem dX3_isOpen_53 : decode cX3_isOpen 53 = .ok (.iconst 1, 1) := by decide +kernel
theorem dX3_isOpen_54 : decode cX3_isOpen 54 = .ok (.goto 4, 3) := by decide +kernel
theorem dX3_isOpen_57 : decode cX3_isOpen 57 = .ok (.iconst 0, 1) := by decide +kernel
theorem dX3_isOpen_58 : decode cX3_isOpen 58 = .ok (.ireturn, 1) := by decide +kernel
set_option maxRecDepth 20000 in
theorem ggX3_way_X3_isOpen : GoodIn wsX3_way wsX3_isOpen := goodIn_r _ [7, 8, 9, 10, 2, 11, 12, 13, 6, 14, 15, 16, 17, 18, 19, 20, 21, 22, 23, 24, 25, 26, 27, 28, 29, 30, 31, 32, 33, 34, 35, 36] (by decide +kernel) (by decide +kernel)
set_option maxRecDepth 20000 in
theorem gX3_way_X3_isOpen : GoodIn wsX3_way (wsV RX3 64 RX3 yX3_isOpen wsX3_isOpen) := goodIn_app (goodIn_of _ (by decide +kernel)) ggX3_way_X3_isOpen
theorem dX3_way_0 : decode cX3_way 0 = .ok (.iconst 0, 1) := by decide +kernel
theorem dX3_way_1 : decode cX3_way 1 = .ok (.istore_n 3, 1) := by decide +kernel
theorem dX3_way_2 : decode cX3_way 2 = .ok (.aload_n 0, 1) := by decide +kernel
theorem dX3_way_3 : decode cX3_way 3 = .ok (.iload_n 1, 1) := by decide +kernel
theorem dX3_way_4 : decode cX3_way 4 = .ok (.iload_n 2, 1) := by decide +kernel
theorem dX3_way_5 : decode cX3_way 5 = .ok (.ifCond .eq 21, 3) := by decide +kernel
theorem dX3_way_8 : decode cX3_way 8 = .ok (.aload_n 0, 1) := by decide +kernel
theorem dX3_way_9 : decode cX3_way 9 = .ok (.getfield 19, 3) := by decide +kernel
theorem dX3_way_12 : decode cX3_way 12 = .ok (.iload_n 1, 1) := by decide +kernel
theorem dX3_way_13 : decode cX3_way 13 = .ok (.iaload, 1) := by decide +kernel
theorem dX3_way_14 : decode cX3_way 14 = .ok (.aload_n 0, 1) := by decide +kernel
theorem dX3_way_15 : decode cX3_way 15 = .ok (.getfield 7, 3) := by decide +kernel
theorem dX3_way_18 : decode cX3_way 18 = .ok (.iload_n 1, 1) := by decide +kernel
theorem dX3_way_19 : decode cX3_way 19 = .ok (.iaload, 1) := by decide +kernel
theorem dX3_way_20 : decode cX3_way 20 = .ok (.iadd, 1) := by decide +kernel
theorem dX3_way_21 : decode cX3_way 21 = .ok (.iload_n 3, 1) := by decide +kernel
theorem dX3_way_22 : decode cX3_way 22 = .ok (.iadd, 1) := by decide +kernel
theorem dX3_way_23 : decode cX3_way 23 = .ok (.goto 13, 3) := by decide +kernel
theorem dX3_way_26 : decode cX3_way 26 = .ok (.aload_n 0, 1) := by decide +kernel
theorem dX3_way_27 : decode cX3_way 27 = .ok (.getfield 19, 3) := by decide +kernel
theorem dX3_way_30 : decode cX3_way 30 = .ok (.iload_n 1, 1) := by decide +kernel
theorem dX3_way_31 : decode cX3_way 31 = .ok (.iaload, 1) := by decide +kernel
theorem dX3_way_32 : decode cX3_way 32 = .ok (.iconst 1, 1) := by decide +kernel
theorem dX3_way_33 : decode cX3_way 33 = .ok (.isub, 1) := by decide +kernel
theorem dX3_way_34 : decode cX3_way 34 = .ok (.iload_n 3, 1) := by decide +kernel
theorem dX3_way_35 : decode cX3_way 35 = .ok (.isub, 1) := by decide +kernel
theorem dX3_way_36 : decode cX3_way 36 = .ok (.invokevirtual 64, 3) := by decide +kernel
theorem dX3_way_39 : decode cX3_way 39 = .ok (.ifCond .eq 9, 3) := by decide +kernel
theorem dX3_way_42 : decode cX3_way 42 = .ok (.iinc 3 1, 3) := by decide +kernel
theorem dX3_way_45 : decode cX3_way 45 = .ok (.goto (-43), 3) := by decide +kernel
theorem dX3_way_48 : decode cX3_way 48 = .ok (.iload_n 3, 1) := by decide +kernel
theorem dX3_way_49 : decode cX3_way 49 = .ok (.ireturn, 1) := by decide +kernel
set_option maxRecDepth 20000 in
theorem ggX3_park_X3_isLine : GoodIn wsX3_park wsX3_isLine := goodIn_r _ [14] (by decide +kernel) (by decide +kernel)
set_option maxRecDepth 20000 in
theorem gX3_park_X3_isLine : GoodIn wsX3_park (va_wsS RX3 60 yX3_isLine wsX3_isLine) := goodIn_app (goodIn_of _ (by decide +kernel)) ggX3_park_X3_isLine
set_option maxRecDepth 20000 in
theorem ggX3_park_X3_laysYard : GoodIn wsX3_park wsX3_laysYard := goodIn_r _ [18, 4, 1, 6, 7, 8, 9, 19, 20, 13, 21, 22, 23, 24, 25, 26, 27, 28, 29, 30, 31, 32, 33, 34, 35, 36, 37, 38, 39, 40] (by decide +kernel) (by decide +kernel)
set_option maxRecDepth 20000 in
theorem gX3_park_X3_laysYard : GoodIn wsX3_park (wsV RX3 68 RX3 yX3_laysYard wsX3_laysYard) := goodIn_app (goodIn_of _ (by decide +kernel)) ggX3_park_X3_laysYard
set_option maxRecDepth 20000 in
theorem ggX3_park_X3_cell : GoodIn wsX3_park wsX3_cell := goodIn_r _ [21] (by decide +kernel) (by decide +kernel)
set_option maxRecDepth 20000 in
theorem gX3_park_X3_cell : GoodIn wsX3_park (va_wsS RX3 56 yX3_cell wsX3_cell) := goodIn_app (goodIn_of _ (by decide +kernel)) ggX3_park_X3_cell
theorem dX3_park_0 : decode cX3_park 0 = .ok (.iload_n 2, 1) := by decide +kernel
theorem dX3_park_1 : decode cX3_park 1 = .ok (.ifCond .eq 8, 3) := by decide +kernel
theorem dX3_park_4 : decode cX3_park 4 = .ok (.iload 4, 2) := by decide +kernel
theorem dX3_park_6 : decode cX3_park 6 = .ok (.goto 4, 3) := by decide +kernel
theorem dX3_park_9 : decode cX3_park 9 = .ok (.iload_n 3, 1) := by decide +kernel
theorem dX3_park_10 : decode cX3_park 10 = .ok (.istore 5, 2) := by decide +kernel
theorem dX3_park_12 : decode cX3_park 12 = .ok (.iload_n 1, 1) := by decide +kernel
theorem dX3_park_13 : decode cX3_park 13 = .ok (.iconst 2, 1) := by decide +kernel
theorem dX3_park_14 : decode cX3_park 14 = .ok (.if_icmp .lt 57, 3) := by decide +kernel
theorem dX3_park_17 : decode cX3_park 17 = .ok (.iload_n 1, 1) := by decide +kernel
theorem dX3_park_18 : decode cX3_park 18 = .ok (.iconst 4, 1) := by decide +kernel
theorem dX3_park_19 : decode cX3_park 19 = .ok (.if_icmp .gt 52, 3) := by decide +kernel
theorem dX3_park_22 : decode cX3_park 22 = .ok (.iload_n 3, 1) := by decide +kernel
theorem dX3_park_23 : decode cX3_park 23 = .ok (.invokestatic 60, 3) := by decide +kernel
theorem dX3_park_26 : decode cX3_park 26 = .ok (.ifCond .eq 45, 3) := by decide +kernel
theorem dX3_park_29 : decode cX3_park 29 = .ok (.iload 4, 2) := by decide +kernel
theorem dX3_park_31 : decode cX3_park 31 = .ok (.invokestatic 60, 3) := by decide +kernel
theorem dX3_park_34 : decode cX3_park 34 = .ok (.ifCond .eq 37, 3) := by decide +kernel
theorem dX3_park_37 : decode cX3_park 37 = .ok (.iload 5, 2) := by decide +kernel
theorem dX3_park_39 : decode cX3_park 39 = .ok (.iload_n 1, 1) := by decide +kernel
theorem dX3_park_40 : decode cX3_park 40 = .ok (.iadd, 1) := by decide +kernel
theorem dX3_park_41 : decode cX3_park 41 = .ok (.bipush 6, 2) := by decide +kernel
theorem dX3_park_43 : decode cX3_park 43 = .ok (.if_icmp .gt 28, 3) := by decide +kernel
theorem dX3_park_46 : decode cX3_park 46 = .ok (.aload_n 0, 1) := by decide +kernel
theorem dX3_park_47 : decode cX3_park 47 = .ok (.getfield 53, 3) := by decide +kernel
theorem dX3_park_50 : decode cX3_park 50 = .ok (.ifCond .gt 17, 3) := by decide +kernel
theorem dX3_park_53 : decode cX3_park 53 = .ok (.iload_n 1, 1) := by decide +kernel
theorem dX3_park_54 : decode cX3_park 54 = .ok (.iconst 2, 1) := by decide +kernel
theorem dX3_park_55 : decode cX3_park 55 = .ok (.if_icmp .ne 16, 3) := by decide +kernel
theorem dX3_park_58 : decode cX3_park 58 = .ok (.iload_n 2, 1) := by decide +kernel
theorem dX3_park_59 : decode cX3_park 59 = .ok (.ifCond .eq 12, 3) := by decide +kernel
theorem dX3_park_62 : decode cX3_park 62 = .ok (.iload_n 3, 1) := by decide +kernel
theorem dX3_park_63 : decode cX3_park 63 = .ok (.iconst 2, 1) := by decide +kernel
theorem dX3_park_64 : decode cX3_park 64 = .ok (.if_icmp .ne 7, 3) := by decide +kernel
theorem dX3_park_67 : decode cX3_park 67 = .ok (.iconst 1, 1) := by decide +kernel
theorem dX3_park_68 : decode cX3_park 68 = .ok (.goto 4, 3) := by decide +kernel
theorem dX3_park_71 : decode cX3_park 71 = .ok (.iconst 0, 1) := by decide +kernel
theorem dX3_park_72 : decode cX3_park 72 = .ok (.istore 6, 2) := by decide +kernel
theorem dX3_park_74 : decode cX3_park 74 = .ok (.aload_n 0, 1) := by decide +kernel
theorem dX3_park_75 : decode cX3_park 75 = .ok (.iload 6, 2) := by decide +kernel
theorem dX3_park_77 : decode cX3_park 77 = .ok (.ifCond .eq 7, 3) := by decide +kernel
theorem dX3_park_80 : decode cX3_park 80 = .ok (.iconst 0, 1) := by decide +kernel
theorem dX3_park_81 : decode cX3_park 81 = .ok (.goto 4, 3) := by decide +kernel
theorem dX3_park_84 : decode cX3_park 84 = .ok (.iconst 1, 1) := by decide +kernel
theorem dX3_park_85 : decode cX3_park 85 = .ok (.putfield 50, 3) := by decide +kernel
theorem dX3_park_88 : decode cX3_park 88 = .ok (.iload 6, 2) := by decide +kernel
theorem dX3_park_90 : decode cX3_park 90 = .ok (.ifCond .ne 5, 3) := by decide +kernel
theorem dX3_park_93 : decode cX3_park 93 = .ok (.iconst 0, 1) := by decide +kernel
theorem dX3_park_94 : decode cX3_park 94 = .ok (.ireturn, 1) := by decide +kernel
theorem dX3_park_95 : decode cX3_park 95 = .ok (.aload_n 0, 1) := by decide +kernel
theorem dX3_park_96 : decode cX3_park 96 = .ok (.invokevirtual 68, 3) := by decide +kernel
theorem dX3_park_99 : decode cX3_park 99 = .ok (.aload_n 0, 1) := by decide +kernel
theorem dX3_park_100 : decode cX3_park 100 = .ok (.getfield 53, 3) := by decide +kernel
theorem dX3_park_103 : decode cX3_park 103 = .ok (.bipush 9, 2) := by decide +kernel
theorem dX3_park_105 : decode cX3_park 105 = .ok (.if_icmp .ge 14, 3) := by decide +kernel
theorem dX3_park_108 : decode cX3_park 108 = .ok (.aload_n 0, 1) := by decide +kernel
theorem dX3_park_109 : decode cX3_park 109 = .ok (.getfield 71, 3) := by decide +kernel
theorem dX3_park_112 : decode cX3_park 112 = .ok (.ifCond .ne 7, 3) := by decide +kernel
theorem dX3_park_115 : decode cX3_park 115 = .ok (.iconst 1, 1) := by decide +kernel
theorem dX3_park_116 : decode cX3_park 116 = .ok (.goto 4, 3) := by decide +kernel
theorem dX3_park_119 : decode cX3_park 119 = .ok (.iconst 0, 1) := by decide +kernel
theorem dX3_park_120 : decode cX3_park 120 = .ok (.istore 7, 2) := by decide +kernel
theorem dX3_park_122 : decode cX3_park 122 = .ok (.iload_n 2, 1) := by decide +kernel
theorem dX3_park_123 : decode cX3_park 123 = .ok (.ifCond .eq 7, 3) := by decide +kernel
theorem dX3_park_126 : decode cX3_park 126 = .ok (.iconst 1, 1) := by decide +kernel
theorem dX3_park_127 : decode cX3_park 127 = .ok (.goto 4, 3) := by decide +kernel
theorem dX3_park_130 : decode cX3_park 130 = .ok (.iconst 0, 1) := by decide +kernel
theorem dX3_park_131 : decode cX3_park 131 = .ok (.istore 8, 2) := by decide +kernel
theorem dX3_park_133 : decode cX3_park 133 = .ok (.iload_n 2, 1) := by decide +kernel
theorem dX3_park_134 : decode cX3_park 134 = .ok (.ifCond .eq 7, 3) := by decide +kernel
theorem dX3_park_137 : decode cX3_park 137 = .ok (.iload_n 3, 1) := by decide +kernel
theorem dX3_park_138 : decode cX3_park 138 = .ok (.goto 5, 3) := by decide +kernel
theorem dX3_park_141 : decode cX3_park 141 = .ok (.iload 4, 2) := by decide +kernel
theorem dX3_park_143 : decode cX3_park 143 = .ok (.istore 9, 2) := by decide +kernel
theorem dX3_park_145 : decode cX3_park 145 = .ok (.iconst 0, 1) := by decide +kernel
theorem dX3_park_146 : decode cX3_park 146 = .ok (.istore 10, 2) := by decide +kernel
theorem dX3_park_148 : decode cX3_park 148 = .ok (.iload 10, 2) := by decide +kernel
theorem dX3_park_150 : decode cX3_park 150 = .ok (.iload_n 1, 1) := by decide +kernel
theorem dX3_park_151 : decode cX3_park 151 = .ok (.if_icmp .ge 59, 3) := by decide +kernel
theorem dX3_park_154 : decode cX3_park 154 = .ok (.iload 8, 2) := by decide +kernel
theorem dX3_park_156 : decode cX3_park 156 = .ok (.iload 9, 2) := by decide +kernel
theorem dX3_park_158 : decode cX3_park 158 = .ok (.iload 5, 2) := by decide +kernel
theorem dX3_park_160 : decode cX3_park 160 = .ok (.iload 10, 2) := by decide +kernel
theorem dX3_park_162 : decode cX3_park 162 = .ok (.iadd, 1) := by decide +kernel
theorem dX3_park_163 : decode cX3_park 163 = .ok (.invokestatic 56, 3) := by decide +kernel
theorem dX3_park_166 : decode cX3_park 166 = .ok (.istore 11, 2) := by decide +kernel
theorem dX3_park_168 : decode cX3_park 168 = .ok (.iload 7, 2) := by decide +kernel
theorem dX3_park_170 : decode cX3_park 170 = .ok (.ifCond .eq 31, 3) := by decide +kernel
theorem dX3_park_173 : decode cX3_park 173 = .ok (.aload_n 0, 1) := by decide +kernel
theorem dX3_park_174 : decode cX3_park 174 = .ok (.getfield 29, 3) := by decide +kernel
theorem dX3_park_177 : decode cX3_park 177 = .ok (.iload 11, 2) := by decide +kernel
theorem dX3_park_179 : decode cX3_park 179 = .ok (.iaload, 1) := by decide +kernel
theorem dX3_park_180 : decode cX3_park 180 = .ok (.ifCond .ne 21, 3) := by decide +kernel
theorem dX3_park_183 : decode cX3_park 183 = .ok (.iload_n 1, 1) := by decide +kernel
theorem dX3_park_184 : decode cX3_park 184 = .ok (.iconst 2, 1) := by decide +kernel
theorem dX3_park_185 : decode cX3_park 185 = .ok (.if_icmp .eq 12, 3) := by decide +kernel
theorem dX3_park_188 : decode cX3_park 188 = .ok (.iload 11, 2) := by decide +kernel
theorem dX3_park_190 : decode cX3_park 190 = .ok (.aload_n 0, 1) := by decide +kernel
theorem dX3_park_191 : decode cX3_park 191 = .ok (.getfield 25, 3) := by decide +kernel
theorem dX3_park_194 : decode cX3_park 194 = .ok (.if_icmp .eq 7, 3) := by decide +kernel
theorem dX3_park_197 : decode cX3_park 197 = .ok (.iconst 1, 1) := by decide +kernel
theorem dX3_park_198 : decode cX3_park 198 = .ok (.goto 4, 3) := by decide +kernel
theorem dX3_park_201 : decode cX3_park 201 = .ok (.iconst 0, 1) := by decide +kernel
theorem dX3_park_202 : decode cX3_park 202 = .ok (.istore 7, 2) := by decide +kernel
theorem dX3_park_204 : decode cX3_park 204 = .ok (.iinc 10 1, 3) := by decide +kernel
theorem dX3_park_207 : decode cX3_park 207 = .ok (.goto (-59), 3) := by decide +kernel
theorem dX3_park_210 : decode cX3_park 210 = .ok (.aload_n 0, 1) := by decide +kernel
theorem dX3_park_211 : decode cX3_park 211 = .ok (.iload 7, 2) := by decide +kernel
theorem dX3_park_213 : decode cX3_park 213 = .ok (.ifCond .eq 7, 3) := by decide +kernel
theorem dX3_park_216 : decode cX3_park 216 = .ok (.iconst 0, 1) := by decide +kernel
theorem dX3_park_217 : decode cX3_park 217 = .ok (.goto 4, 3) := by decide +kernel
theorem dX3_park_220 : decode cX3_park 220 = .ok (.iconst 2, 1) := by decide +kernel
theorem dX3_park_221 : decode cX3_park 221 = .ok (.putfield 50, 3) := by decide +kernel
theorem dX3_park_224 : decode cX3_park 224 = .ok (.iload 7, 2) := by decide +kernel
theorem dX3_park_226 : decode cX3_park 226 = .ok (.ifCond .ne 5, 3) := by decide +kernel
theorem dX3_park_229 : decode cX3_park 229 = .ok (.iconst 0, 1) := by decide +kernel
theorem dX3_park_230 : decode cX3_park 230 = .ok (.ireturn, 1) := by decide +kernel
theorem dX3_park_231 : decode cX3_park 231 = .ok (.aload_n 0, 1) := by decide +kernel
theorem dX3_park_232 : decode cX3_park 232 = .ok (.getfield 7, 3) := by decide +kernel
theorem dX3_park_235 : decode cX3_park 235 = .ok (.aload_n 0, 1) := by decide +kernel
theorem dX3_park_236 : decode cX3_park 236 = .ok (.getfield 53, 3) := by decide +kernel
theorem dX3_park_239 : decode cX3_park 239 = .ok (.iload_n 1, 1) := by decide +kernel
theorem dX3_park_240 : decode cX3_park 240 = .ok (.iastore, 1) := by decide +kernel
theorem dX3_park_241 : decode cX3_park 241 = .ok (.aload_n 0, 1) := by decide +kernel
theorem dX3_park_242 : decode cX3_park 242 = .ok (.getfield 13, 3) := by decide +kernel
theorem dX3_park_245 : decode cX3_park 245 = .ok (.aload_n 0, 1) := by decide +kernel
theorem dX3_park_246 : decode cX3_park 246 = .ok (.getfield 53, 3) := by decide +kernel
theorem dX3_park_249 : decode cX3_park 249 = .ok (.iload 8, 2) := by decide +kernel
theorem dX3_park_251 : decode cX3_park 251 = .ok (.iastore, 1) := by decide +kernel
theorem dX3_park_252 : decode cX3_park 252 = .ok (.aload_n 0, 1) := by decide +kernel
theorem dX3_park_253 : decode cX3_park 253 = .ok (.getfield 16, 3) := by decide +kernel
theorem dX3_park_256 : decode cX3_park 256 = .ok (.aload_n 0, 1) := by decide +kernel
theorem dX3_park_257 : decode cX3_park 257 = .ok (.getfield 53, 3) := by decide +kernel
theorem dX3_park_260 : decode cX3_park 260 = .ok (.iload 9, 2) := by decide +kernel
theorem dX3_park_262 : decode cX3_park 262 = .ok (.iastore, 1) := by decide +kernel
theorem dX3_park_263 : decode cX3_park 263 = .ok (.aload_n 0, 1) := by decide +kernel
theorem dX3_park_264 : decode cX3_park 264 = .ok (.getfield 19, 3) := by decide +kernel
theorem dX3_park_267 : decode cX3_park 267 = .ok (.aload_n 0, 1) := by decide +kernel
theorem dX3_park_268 : decode cX3_park 268 = .ok (.getfield 53, 3) := by decide +kernel
theorem dX3_park_271 : decode cX3_park 271 = .ok (.iload 5, 2) := by decide +kernel
theorem dX3_park_273 : decode cX3_park 273 = .ok (.iastore, 1) := by decide +kernel
theorem dX3_park_274 : decode cX3_park 274 = .ok (.aload_n 0, 1) := by decide +kernel
theorem dX3_park_275 : decode cX3_park 275 = .ok (.getfield 22, 3) := by decide +kernel
theorem dX3_park_278 : decode cX3_park 278 = .ok (.aload_n 0, 1) := by decide +kernel
theorem dX3_park_279 : decode cX3_park 279 = .ok (.getfield 53, 3) := by decide +kernel
theorem dX3_park_282 : decode cX3_park 282 = .ok (.iload 5, 2) := by decide +kernel
theorem dX3_park_284 : decode cX3_park 284 = .ok (.iastore, 1) := by decide +kernel
theorem dX3_park_285 : decode cX3_park 285 = .ok (.aload_n 0, 1) := by decide +kernel
theorem dX3_park_286 : decode cX3_park 286 = .ok (.dup, 1) := by decide +kernel
theorem dX3_park_287 : decode cX3_park 287 = .ok (.getfield 53, 3) := by decide +kernel
theorem dX3_park_290 : decode cX3_park 290 = .ok (.iconst 1, 1) := by decide +kernel
theorem dX3_park_291 : decode cX3_park 291 = .ok (.iadd, 1) := by decide +kernel
theorem dX3_park_292 : decode cX3_park 292 = .ok (.putfield 53, 3) := by decide +kernel
theorem dX3_park_295 : decode cX3_park 295 = .ok (.aload_n 0, 1) := by decide +kernel
theorem dX3_park_296 : decode cX3_park 296 = .ok (.getfield 53, 3) := by decide +kernel
theorem dX3_park_299 : decode cX3_park 299 = .ok (.iconst 1, 1) := by decide +kernel
theorem dX3_park_300 : decode cX3_park 300 = .ok (.isub, 1) := by decide +kernel
theorem dX3_park_301 : decode cX3_park 301 = .ok (.ireturn, 1) := by decide +kernel
set_option maxRecDepth 20000 in
theorem ggX3_ramp_X3_isLine : GoodIn wsX3_ramp wsX3_isLine := goodIn_r _ [9] (by decide +kernel) (by decide +kernel)
set_option maxRecDepth 20000 in
theorem gX3_ramp_X3_isLine : GoodIn wsX3_ramp (va_wsS RX3 60 yX3_isLine wsX3_isLine) := goodIn_app (goodIn_of _ (by decide +kernel)) ggX3_ramp_X3_isLine
set_option maxRecDepth 20000 in
theorem ggX3_ramp_X3_laysYard : GoodIn wsX3_ramp wsX3_laysYard := goodIn_r _ [13, 1, 14, 3, 15, 16, 17, 18, 19, 8, 20, 21, 22, 23, 24, 25, 26, 27, 28, 29, 30, 31, 32, 33, 34, 35, 36, 37, 38, 39] (by decide +kernel) (by decide +kernel)
set_option maxRecDepth 20000 in
theorem gX3_ramp_X3_laysYard : GoodIn wsX3_ramp (wsV RX3 68 RX3 yX3_laysYard wsX3_laysYard) := goodIn_app (goodIn_of _ (by decide +kernel)) ggX3_ramp_X3_laysYard
theorem dX3_ramp_0 : decode cX3_ramp 0 = .ok (.iload_n 1, 1) := by decide +kernel
theorem dX3_ramp_1 : decode cX3_ramp 1 = .ok (.invokestatic 60, 3) := by decide +kernel
theorem dX3_ramp_4 : decode cX3_ramp 4 = .ok (.ifCond .eq 14, 3) := by decide +kernel
theorem dX3_ramp_7 : decode cX3_ramp 7 = .ok (.iload_n 2, 1) := by decide +kernel
theorem dX3_ramp_8 : decode cX3_ramp 8 = .ok (.invokestatic 60, 3) := by decide +kernel
theorem dX3_ramp_11 : decode cX3_ramp 11 = .ok (.ifCond .eq 7, 3) := by decide +kernel
theorem dX3_ramp_14 : decode cX3_ramp 14 = .ok (.iconst 1, 1) := by decide +kernel
theorem dX3_ramp_15 : decode cX3_ramp 15 = .ok (.goto 4, 3) := by decide +kernel
theorem dX3_ramp_18 : decode cX3_ramp 18 = .ok (.iconst 0, 1) := by decide +kernel
theorem dX3_ramp_19 : decode cX3_ramp 19 = .ok (.istore_n 3, 1) := by decide +kernel
theorem dX3_ramp_20 : decode cX3_ramp 20 = .ok (.aload_n 0, 1) := by decide +kernel
theorem dX3_ramp_21 : decode cX3_ramp 21 = .ok (.invokevirtual 68, 3) := by decide +kernel
theorem dX3_ramp_24 : decode cX3_ramp 24 = .ok (.iload_n 3, 1) := by decide +kernel
theorem dX3_ramp_25 : decode cX3_ramp 25 = .ok (.ifCond .eq 17, 3) := by decide +kernel
theorem dX3_ramp_28 : decode cX3_ramp 28 = .ok (.aload_n 0, 1) := by decide +kernel
theorem dX3_ramp_29 : decode cX3_ramp 29 = .ok (.getfield 29, 3) := by decide +kernel
theorem dX3_ramp_32 : decode cX3_ramp 32 = .ok (.bipush 6, 2) := by decide +kernel
theorem dX3_ramp_34 : decode cX3_ramp 34 = .ok (.iload_n 1, 1) := by decide +kernel
theorem dX3_ramp_35 : decode cX3_ramp 35 = .ok (.imul, 1) := by decide +kernel
theorem dX3_ramp_36 : decode cX3_ramp 36 = .ok (.iload_n 2, 1) := by decide +kernel
theorem dX3_ramp_37 : decode cX3_ramp 37 = .ok (.iadd, 1) := by decide +kernel
theorem dX3_ramp_38 : decode cX3_ramp 38 = .ok (.iaload, 1) := by decide +kernel
theorem dX3_ramp_39 : decode cX3_ramp 39 = .ok (.goto 4, 3) := by decide +kernel
theorem dX3_ramp_42 : decode cX3_ramp 42 = .ok (.iconst 0, 1) := by decide +kernel
theorem dX3_ramp_43 : decode cX3_ramp 43 = .ok (.istore 4, 2) := by decide +kernel
theorem dX3_ramp_45 : decode cX3_ramp 45 = .ok (.aload_n 0, 1) := by decide +kernel
theorem dX3_ramp_46 : decode cX3_ramp 46 = .ok (.iload_n 3, 1) := by decide +kernel
theorem dX3_ramp_47 : decode cX3_ramp 47 = .ok (.ifCond .ne 7, 3) := by decide +kernel
theorem dX3_ramp_50 : decode cX3_ramp 50 = .ok (.iconst 1, 1) := by decide +kernel
theorem dX3_ramp_51 : decode cX3_ramp 51 = .ok (.goto 33, 3) := by decide +kernel
theorem dX3_ramp_54 : decode cX3_ramp 54 = .ok (.aload_n 0, 1) := by decide +kernel
theorem dX3_ramp_55 : decode cX3_ramp 55 = .ok (.getfield 71, 3) := by decide +kernel
theorem dX3_ramp_58 : decode cX3_ramp 58 = .ok (.ifCond .gt 21, 3) := by decide +kernel
theorem dX3_ramp_61 : decode cX3_ramp 61 = .ok (.iload 4, 2) := by decide +kernel
theorem dX3_ramp_63 : decode cX3_ramp 63 = .ok (.ifCond .le 20, 3) := by decide +kernel
theorem dX3_ramp_66 : decode cX3_ramp 66 = .ok (.aload_n 0, 1) := by decide +kernel
theorem dX3_ramp_67 : decode cX3_ramp 67 = .ok (.getfield 7, 3) := by decide +kernel
theorem dX3_ramp_70 : decode cX3_ramp 70 = .ok (.iload 4, 2) := by decide +kernel
theorem dX3_ramp_72 : decode cX3_ramp 72 = .ok (.iconst 1, 1) := by decide +kernel
theorem dX3_ramp_73 : decode cX3_ramp 73 = .ok (.isub, 1) := by decide +kernel
theorem dX3_ramp_74 : decode cX3_ramp 74 = .ok (.iaload, 1) := by decide +kernel
theorem dX3_ramp_75 : decode cX3_ramp 75 = .ok (.iconst 2, 1) := by decide +kernel
theorem dX3_ramp_76 : decode cX3_ramp 76 = .ok (.if_icmp .le 7, 3) := by decide +kernel
theorem dX3_ramp_79 : decode cX3_ramp 79 = .ok (.iconst 2, 1) := by decide +kernel
theorem dX3_ramp_80 : decode cX3_ramp 80 = .ok (.goto 4, 3) := by decide +kernel
theorem dX3_ramp_83 : decode cX3_ramp 83 = .ok (.iconst 0, 1) := by decide +kernel
theorem dX3_ramp_84 : decode cX3_ramp 84 = .ok (.putfield 50, 3) := by decide +kernel
theorem dX3_ramp_87 : decode cX3_ramp 87 = .ok (.aload_n 0, 1) := by decide +kernel
theorem dX3_ramp_88 : decode cX3_ramp 88 = .ok (.aload_n 0, 1) := by decide +kernel
theorem dX3_ramp_89 : decode cX3_ramp 89 = .ok (.getfield 50, 3) := by decide +kernel
theorem dX3_ramp_92 : decode cX3_ramp 92 = .ok (.ifCond .ne 12, 3) := by decide +kernel
theorem dX3_ramp_95 : decode cX3_ramp 95 = .ok (.bipush 6, 2) := by decide +kernel
theorem dX3_ramp_97 : decode cX3_ramp 97 = .ok (.iload_n 1, 1) := by decide +kernel
theorem dX3_ramp_98 : decode cX3_ramp 98 = .ok (.imul, 1) := by decide +kernel
theorem dX3_ramp_99 : decode cX3_ramp 99 = .ok (.iload_n 2, 1) := by decide +kernel
theorem dX3_ramp_100 : decode cX3_ramp 100 = .ok (.iadd, 1) := by decide +kernel
theorem dX3_ramp_101 : decode cX3_ramp 101 = .ok (.goto 7, 3) := by decide +kernel
theorem dX3_ramp_104 : decode cX3_ramp 104 = .ok (.aload_n 0, 1) := by decide +kernel
theorem dX3_ramp_105 : decode cX3_ramp 105 = .ok (.getfield 25, 3) := by decide +kernel
theorem dX3_ramp_108 : decode cX3_ramp 108 = .ok (.putfield 25, 3) := by decide +kernel
theorem dX3_ramp_111 : decode cX3_ramp 111 = .ok (.return_, 1) := by decide +kernel
theorem dX3_goes_0 : decode cX3_goes 0 = .ok (.aload_n 0, 1) := by decide +kernel
theorem dX3_goes_1 : decode cX3_goes 1 = .ok (.getfield 19, 3) := by decide +kernel
theorem dX3_goes_4 : decode cX3_goes 4 = .ok (.iload_n 1, 1) := by decide +kernel
theorem dX3_goes_5 : decode cX3_goes 5 = .ok (.dup2, 1) := by decide +kernel
theorem dX3_goes_6 : decode cX3_goes 6 = .ok (.iaload, 1) := by decide +kernel
theorem dX3_goes_7 : decode cX3_goes 7 = .ok (.iload_n 2, 1) := by decide +kernel
theorem dX3_goes_8 : decode cX3_goes 8 = .ok (.iadd, 1) := by decide +kernel
theorem dX3_goes_9 : decode cX3_goes 9 = .ok (.iastore, 1) := by decide +kernel
theorem dX3_goes_10 : decode cX3_goes 10 = .ok (.aload_n 0, 1) := by decide +kernel
theorem dX3_goes_11 : decode cX3_goes 11 = .ok (.dup, 1) := by decide +kernel
theorem dX3_goes_12 : decode cX3_goes 12 = .ok (.getfield 71, 3) := by decide +kernel
theorem dX3_goes_15 : decode cX3_goes 15 = .ok (.iconst 1, 1) := by decide +kernel
theorem dX3_goes_16 : decode cX3_goes 16 = .ok (.iadd, 1) := by decide +kernel
theorem dX3_goes_17 : decode cX3_goes 17 = .ok (.putfield 71, 3) := by decide +kernel
theorem dX3_goes_20 : decode cX3_goes 20 = .ok (.aload_n 0, 1) := by decide +kernel
theorem dX3_goes_21 : decode cX3_goes 21 = .ok (.dup, 1) := by decide +kernel
theorem dX3_goes_22 : decode cX3_goes 22 = .ok (.getfield 74, 3) := by decide +kernel
theorem dX3_goes_25 : decode cX3_goes 25 = .ok (.iload_n 2, 1) := by decide +kernel
theorem dX3_goes_26 : decode cX3_goes 26 = .ok (.ifCond .ge 8, 3) := by decide +kernel
theorem dX3_goes_29 : decode cX3_goes 29 = .ok (.iload_n 2, 1) := by decide +kernel
theorem dX3_goes_30 : decode cX3_goes 30 = .ok (.ineg, 1) := by decide +kernel
theorem dX3_goes_31 : decode cX3_goes 31 = .ok (.goto 4, 3) := by decide +kernel
theorem dX3_goes_34 : decode cX3_goes 34 = .ok (.iload_n 2, 1) := by decide +kernel
theorem dX3_goes_35 : decode cX3_goes 35 = .ok (.iadd, 1) := by decide +kernel
theorem dX3_goes_36 : decode cX3_goes 36 = .ok (.putfield 74, 3) := by decide +kernel
theorem dX3_goes_39 : decode cX3_goes 39 = .ok (.return_, 1) := by decide +kernel
set_option maxRecDepth 20000 in
theorem ggX3_drive_X3_isVehicle : GoodIn wsX3_drive wsX3_isVehicle := goodIn_r _ [6, 7, 1, 38, 39, 40, 41, 42, 43, 44, 45, 46, 47, 48, 49, 50, 51, 52, 53, 54, 55, 56] (by decide +kernel) (by decide +kernel)
set_option maxRecDepth 20000 in
theorem gX3_drive_X3_isVehicle : GoodIn wsX3_drive (wsV RX3 77 RX3 yX3_isVehicle wsX3_isVehicle) := goodIn_app (goodIn_of _ (by decide +kernel)) ggX3_drive_X3_isVehicle
set_option maxRecDepth 20000 in
theorem ggX3_drive_X3_laysYard : GoodIn wsX3_drive wsX3_laysYard := goodIn_r _ [11, 12, 7, 13, 14, 15, 16, 17, 18, 5, 19, 38, 39, 40, 41, 42, 43, 44, 45, 46, 47, 48, 49, 50, 51, 52, 53, 54, 55, 56] (by decide +kernel) (by decide +kernel)
set_option maxRecDepth 20000 in
theorem gX3_drive_X3_laysYard : GoodIn wsX3_drive (wsV RX3 68 RX3 yX3_laysYard wsX3_laysYard) := goodIn_app (goodIn_of _ (by decide +kernel)) ggX3_drive_X3_laysYard
set_option maxRecDepth 20000 in
theorem ggX3_drive_X3_way : GoodIn wsX3_drive wsX3_way := goodIn_r _ [23, 16, 13, 24, 25, 26, 5, 27, 14, 15, 12, 28, 29, 30, 31, 17, 18, 19, 38, 39, 40, 41, 42, 43, 44, 45, 46, 47, 48, 49, 50, 51, 52, 53, 54, 55, 56] (by decide +kernel) (by decide +kernel)
set_option maxRecDepth 20000 in
theorem gX3_drive_X3_way : GoodIn wsX3_drive (wsV RX3 80 RX3 yX3_way wsX3_way) := goodIn_app (goodIn_of _ (by decide +kernel)) ggX3_drive_X3_way
set_option maxRecDepth 20000 in
theorem ggX3_drive_X3_goes : GoodIn wsX3_drive wsX3_goes := goodIn_r _ [35, 16, 36, 37, 38, 39, 40, 41, 42, 43, 44, 45, 46, 47, 48, 49, 50, 51, 52, 53, 54, 55, 56] (by decide +kernel) (by decide +kernel)
set_option maxRecDepth 20000 in
theorem gX3_drive_X3_goes : GoodIn wsX3_drive (wsV RX3 84 RX3 yX3_goes wsX3_goes) := goodIn_app (goodIn_of _ (by decide +kernel)) ggX3_drive_X3_goes
theorem dX3_drive_0 : decode cX3_drive 0 = .ok (.aload_n 0, 1) := by decide +kernel
theorem dX3_drive_1 : decode cX3_drive 1 = .ok (.iload_n 1, 1) := by decide +kernel
theorem dX3_drive_2 : decode cX3_drive 2 = .ok (.invokevirtual 77, 3) := by decide +kernel
theorem dX3_drive_5 : decode cX3_drive 5 = .ok (.ifCond .eq 89, 3) := by decide +kernel
theorem dX3_drive_8 : decode cX3_drive 8 = .ok (.iload_n 2, 1) := by decide +kernel
theorem dX3_drive_9 : decode cX3_drive 9 = .ok (.bipush (-4), 2) := by decide +kernel
theorem dX3_drive_11 : decode cX3_drive 11 = .ok (.if_icmp .lt 16, 3) := by decide +kernel
theorem dX3_drive_14 : decode cX3_drive 14 = .ok (.iload_n 2, 1) := by decide +kernel
theorem dX3_drive_15 : decode cX3_drive 15 = .ok (.iconst 4, 1) := by decide +kernel
theorem dX3_drive_16 : decode cX3_drive 16 = .ok (.if_icmp .gt 11, 3) := by decide +kernel
theorem dX3_drive_19 : decode cX3_drive 19 = .ok (.iload_n 2, 1) := by decide +kernel
theorem dX3_drive_20 : decode cX3_drive 20 = .ok (.ifCond .eq 7, 3) := by decide +kernel
theorem dX3_drive_23 : decode cX3_drive 23 = .ok (.iconst 1, 1) := by decide +kernel
theorem dX3_drive_24 : decode cX3_drive 24 = .ok (.goto 4, 3) := by decide +kernel
theorem dX3_drive_27 : decode cX3_drive 27 = .ok (.iconst 0, 1) := by decide +kernel
theorem dX3_drive_28 : decode cX3_drive 28 = .ok (.istore_n 3, 1) := by decide +kernel
theorem dX3_drive_29 : decode cX3_drive 29 = .ok (.aload_n 0, 1) := by decide +kernel
theorem dX3_drive_30 : decode cX3_drive 30 = .ok (.invokevirtual 68, 3) := by decide +kernel
theorem dX3_drive_33 : decode cX3_drive 33 = .ok (.aload_n 0, 1) := by decide +kernel
theorem dX3_drive_34 : decode cX3_drive 34 = .ok (.iload_n 1, 1) := by decide +kernel
theorem dX3_drive_35 : decode cX3_drive 35 = .ok (.iload_n 2, 1) := by decide +kernel
theorem dX3_drive_36 : decode cX3_drive 36 = .ok (.ifCond .le 7, 3) := by decide +kernel
theorem dX3_drive_39 : decode cX3_drive 39 = .ok (.iconst 1, 1) := by decide +kernel
theorem dX3_drive_40 : decode cX3_drive 40 = .ok (.goto 4, 3) := by decide +kernel
theorem dX3_drive_43 : decode cX3_drive 43 = .ok (.iconst 0, 1) := by decide +kernel
theorem dX3_drive_44 : decode cX3_drive 44 = .ok (.invokevirtual 80, 3) := by decide +kernel
theorem dX3_drive_47 : decode cX3_drive 47 = .ok (.istore 4, 2) := by decide +kernel
theorem dX3_drive_49 : decode cX3_drive 49 = .ok (.aload_n 0, 1) := by decide +kernel
theorem dX3_drive_50 : decode cX3_drive 50 = .ok (.iload_n 3, 1) := by decide +kernel
theorem dX3_drive_51 : decode cX3_drive 51 = .ok (.ifCond .ne 7, 3) := by decide +kernel
theorem dX3_drive_54 : decode cX3_drive 54 = .ok (.iconst 2, 1) := by decide +kernel
theorem dX3_drive_55 : decode cX3_drive 55 = .ok (.goto 23, 3) := by decide +kernel
theorem dX3_drive_58 : decode cX3_drive 58 = .ok (.iload_n 2, 1) := by decide +kernel
theorem dX3_drive_59 : decode cX3_drive 59 = .ok (.ifCond .ge 8, 3) := by decide +kernel
theorem dX3_drive_62 : decode cX3_drive 62 = .ok (.iload_n 2, 1) := by decide +kernel
theorem dX3_drive_63 : decode cX3_drive 63 = .ok (.ineg, 1) := by decide +kernel
theorem dX3_drive_64 : decode cX3_drive 64 = .ok (.goto 4, 3) := by decide +kernel
theorem dX3_drive_67 : decode cX3_drive 67 = .ok (.iload_n 2, 1) := by decide +kernel
theorem dX3_drive_68 : decode cX3_drive 68 = .ok (.iload 4, 2) := by decide +kernel
theorem dX3_drive_70 : decode cX3_drive 70 = .ok (.if_icmp .le 7, 3) := by decide +kernel
theorem dX3_drive_73 : decode cX3_drive 73 = .ok (.iconst 3, 1) := by decide +kernel
theorem dX3_drive_74 : decode cX3_drive 74 = .ok (.goto 4, 3) := by decide +kernel
theorem dX3_drive_77 : decode cX3_drive 77 = .ok (.iconst 0, 1) := by decide +kernel
theorem dX3_drive_78 : decode cX3_drive 78 = .ok (.putfield 50, 3) := by decide +kernel
theorem dX3_drive_81 : decode cX3_drive 81 = .ok (.aload_n 0, 1) := by decide +kernel
theorem dX3_drive_82 : decode cX3_drive 82 = .ok (.getfield 50, 3) := by decide +kernel
theorem dX3_drive_85 : decode cX3_drive 85 = .ok (.ifCond .ne 9, 3) := by decide +kernel
theorem dX3_drive_88 : decode cX3_drive 88 = .ok (.aload_n 0, 1) := by decide +kernel
theorem dX3_drive_89 : decode cX3_drive 89 = .ok (.iload_n 1, 1) := by decide +kernel
theorem dX3_drive_90 : decode cX3_drive 90 = .ok (.iload_n 2, 1) := by decide +kernel
theorem dX3_drive_91 : decode cX3_drive 91 = .ok (.invokevirtual 84, 3) := by decide +kernel
theorem dX3_drive_94 : decode cX3_drive 94 = .ok (.return_, 1) := by decide +kernel
set_option maxRecDepth 20000 in
theorem ggX3_driveOn_X3_isVehicle : GoodIn wsX3_driveOn wsX3_isVehicle := goodIn_r _ [5, 6, 7, 38, 39, 40, 41, 42, 43, 44, 45, 46, 47, 48, 49, 50, 51, 52, 53, 54, 55, 56] (by decide +kernel) (by decide +kernel)
set_option maxRecDepth 20000 in
theorem gX3_driveOn_X3_isVehicle : GoodIn wsX3_driveOn (wsV RX3 77 RX3 yX3_isVehicle wsX3_isVehicle) := goodIn_app (goodIn_of _ (by decide +kernel)) ggX3_driveOn_X3_isVehicle
set_option maxRecDepth 20000 in
theorem ggX3_driveOn_X3_laysYard : GoodIn wsX3_driveOn wsX3_laysYard := goodIn_r _ [11, 12, 6, 13, 14, 15, 16, 17, 18, 4, 19, 38, 39, 40, 41, 42, 43, 44, 45, 46, 47, 48, 49, 50, 51, 52, 53, 54, 55, 56] (by decide +kernel) (by decide +kernel)
set_option maxRecDepth 20000 in
theorem gX3_driveOn_X3_laysYard : GoodIn wsX3_driveOn (wsV RX3 68 RX3 yX3_laysYard wsX3_laysYard) := goodIn_app (goodIn_of _ (by decide +kernel)) ggX3_driveOn_X3_laysYard
set_option maxRecDepth 20000 in
theorem ggX3_driveOn_X3_way : GoodIn wsX3_driveOn wsX3_way := goodIn_r _ [23, 16, 13, 24, 25, 26, 4, 27, 14, 15, 12, 28, 29, 30, 31, 17, 18, 19, 38, 39, 40, 41, 42, 43, 44, 45, 46, 47, 48, 49, 50, 51, 52, 53, 54, 55, 56] (by decide +kernel) (by decide +kernel)
set_option maxRecDepth 20000 in
theorem gX3_driveOn_X3_way : GoodIn wsX3_driveOn (wsV RX3 80 RX3 yX3_way wsX3_way) := goodIn_app (goodIn_of _ (by decide +kernel)) ggX3_driveOn_X3_way
set_option maxRecDepth 20000 in
theorem ggX3_driveOn_X3_goes : GoodIn wsX3_driveOn wsX3_goes := goodIn_r _ [35, 16, 36, 37, 38, 39, 40, 41, 42, 43, 44, 45, 46, 47, 48, 49, 50, 51, 52, 53, 54, 55, 56] (by decide +kernel) (by decide +kernel)
set_option maxRecDepth 20000 in
theorem gX3_driveOn_X3_goes : GoodIn wsX3_driveOn (wsV RX3 84 RX3 yX3_goes wsX3_goes) := goodIn_app (goodIn_of _ (by decide +kernel)) ggX3_driveOn_X3_goes
theorem dX3_driveOn_0 : decode cX3_driveOn 0 = .ok (.aload_n 0, 1) := by decide +kernel
theorem dX3_driveOn_1 : decode cX3_driveOn 1 = .ok (.iload_n 1, 1) := by decide +kernel
theorem dX3_driveOn_2 : decode cX3_driveOn 2 = .ok (.invokevirtual 77, 3) := by decide +kernel
theorem dX3_driveOn_5 : decode cX3_driveOn 5 = .ok (.ifCond .ne 5, 3) := by decide +kernel
theorem dX3_driveOn_8 : decode cX3_driveOn 8 = .ok (.iconst 0, 1) := by decide +kernel
theorem dX3_driveOn_9 : decode cX3_driveOn 9 = .ok (.ireturn, 1) := by decide +kernel
theorem dX3_driveOn_10 : decode cX3_driveOn 10 = .ok (.aload_n 0, 1) := by decide +kernel
theorem dX3_driveOn_11 : decode cX3_driveOn 11 = .ok (.invokevirtual 68, 3) := by decide +kernel
theorem dX3_driveOn_14 : decode cX3_driveOn 14 = .ok (.aload_n 0, 1) := by decide +kernel
theorem dX3_driveOn_15 : decode cX3_driveOn 15 = .ok (.iload_n 1, 1) := by decide +kernel
theorem dX3_driveOn_16 : decode cX3_driveOn 16 = .ok (.iload_n 2, 1) := by decide +kernel
theorem dX3_driveOn_17 : decode cX3_driveOn 17 = .ok (.invokevirtual 80, 3) := by decide +kernel
theorem dX3_driveOn_20 : decode cX3_driveOn 20 = .ok (.istore_n 3, 1) := by decide +kernel
theorem dX3_driveOn_21 : decode cX3_driveOn 21 = .ok (.iload_n 3, 1) := by decide +kernel
theorem dX3_driveOn_22 : decode cX3_driveOn 22 = .ok (.ifCond .le 18, 3) := by decide +kernel
theorem dX3_driveOn_25 : decode cX3_driveOn 25 = .ok (.aload_n 0, 1) := by decide +kernel
theorem dX3_driveOn_26 : decode cX3_driveOn 26 = .ok (.iload_n 1, 1) := by decide +kernel
theorem dX3_driveOn_27 : decode cX3_driveOn 27 = .ok (.iload_n 2, 1) := by decide +kernel
theorem dX3_driveOn_28 : decode cX3_driveOn 28 = .ok (.ifCond .eq 7, 3) := by decide +kernel
theorem dX3_driveOn_31 : decode cX3_driveOn 31 = .ok (.iload_n 3, 1) := by decide +kernel
theorem dX3_driveOn_32 : decode cX3_driveOn 32 = .ok (.goto 5, 3) := by decide +kernel
theorem dX3_driveOn_35 : decode cX3_driveOn 35 = .ok (.iload_n 3, 1) := by decide +kernel
theorem dX3_driveOn_36 : decode cX3_driveOn 36 = .ok (.ineg, 1) := by decide +kernel
theorem dX3_driveOn_37 : decode cX3_driveOn 37 = .ok (.invokevirtual 84, 3) := by decide +kernel
theorem dX3_driveOn_40 : decode cX3_driveOn 40 = .ok (.iload_n 3, 1) := by decide +kernel
theorem dX3_driveOn_41 : decode cX3_driveOn 41 = .ok (.ireturn, 1) := by decide +kernel
theorem dX3_restart_0 : decode cX3_restart 0 = .ok (.aload_n 0, 1) := by decide +kernel
theorem dX3_restart_1 : decode cX3_restart 1 = .ok (.iconst 0, 1) := by decide +kernel
theorem dX3_restart_2 : decode cX3_restart 2 = .ok (.putfield 50, 3) := by decide +kernel
theorem dX3_restart_5 : decode cX3_restart 5 = .ok (.iconst 0, 1) := by decide +kernel
theorem dX3_restart_6 : decode cX3_restart 6 = .ok (.istore_n 1, 1) := by decide +kernel
theorem dX3_restart_7 : decode cX3_restart 7 = .ok (.iload_n 1, 1) := by decide +kernel
theorem dX3_restart_8 : decode cX3_restart 8 = .ok (.aload_n 0, 1) := by decide +kernel
theorem dX3_restart_9 : decode cX3_restart 9 = .ok (.getfield 53, 3) := by decide +kernel
theorem dX3_restart_12 : decode cX3_restart 12 = .ok (.if_icmp .ge 21, 3) := by decide +kernel
theorem dX3_restart_15 : decode cX3_restart 15 = .ok (.aload_n 0, 1) := by decide +kernel
theorem dX3_restart_16 : decode cX3_restart 16 = .ok (.getfield 19, 3) := by decide +kernel
theorem dX3_restart_19 : decode cX3_restart 19 = .ok (.iload_n 1, 1) := by decide +kernel
theorem dX3_restart_20 : decode cX3_restart 20 = .ok (.aload_n 0, 1) := by decide +kernel
theorem dX3_restart_21 : decode cX3_restart 21 = .ok (.getfield 22, 3) := by decide +kernel
theorem dX3_restart_24 : decode cX3_restart 24 = .ok (.iload_n 1, 1) := by decide +kernel
theorem dX3_restart_25 : decode cX3_restart 25 = .ok (.iaload, 1) := by decide +kernel
theorem dX3_restart_26 : decode cX3_restart 26 = .ok (.iastore, 1) := by decide +kernel
theorem dX3_restart_27 : decode cX3_restart 27 = .ok (.iinc 1 1, 3) := by decide +kernel
theorem dX3_restart_30 : decode cX3_restart 30 = .ok (.goto (-23), 3) := by decide +kernel
theorem dX3_restart_33 : decode cX3_restart 33 = .ok (.aload_n 0, 1) := by decide +kernel
theorem dX3_restart_34 : decode cX3_restart 34 = .ok (.iconst 0, 1) := by decide +kernel
theorem dX3_restart_35 : decode cX3_restart 35 = .ok (.putfield 71, 3) := by decide +kernel
theorem dX3_restart_38 : decode cX3_restart 38 = .ok (.aload_n 0, 1) := by decide +kernel
theorem dX3_restart_39 : decode cX3_restart 39 = .ok (.iconst 0, 1) := by decide +kernel
theorem dX3_restart_40 : decode cX3_restart 40 = .ok (.putfield 74, 3) := by decide +kernel
theorem dX3_restart_43 : decode cX3_restart 43 = .ok (.return_, 1) := by decide +kernel
theorem dX3_vehicles_0 : decode cX3_vehicles 0 = .ok (.aload_n 0, 1) := by decide +kernel
theorem dX3_vehicles_1 : decode cX3_vehicles 1 = .ok (.iconst 0, 1) := by decide +kernel
theorem dX3_vehicles_2 : decode cX3_vehicles 2 = .ok (.putfield 50, 3) := by decide +kernel
theorem dX3_vehicles_5 : decode cX3_vehicles 5 = .ok (.aload_n 0, 1) := by decide +kernel
theorem dX3_vehicles_6 : decode cX3_vehicles 6 = .ok (.getfield 53, 3) := by decide +kernel
theorem dX3_vehicles_9 : decode cX3_vehicles 9 = .ok (.ireturn, 1) := by decide +kernel
set_option maxRecDepth 20000 in
theorem ggX3_rowOf_X3_isVehicle : GoodIn wsX3_rowOf wsX3_isVehicle := goodIn_r _ [8, 9, 10, 11, 12, 13, 14, 15, 16, 17, 18, 19, 20, 21, 22, 23, 24, 25, 26, 27, 28, 29] (by decide +kernel) (by decide +kernel)
set_option maxRecDepth 20000 in
theorem gX3_rowOf_X3_isVehicle : GoodIn wsX3_rowOf (wsV RX3 77 RX3 yX3_isVehicle wsX3_isVehicle) := goodIn_app (goodIn_of _ (by decide +kernel)) ggX3_rowOf_X3_isVehicle
theorem dX3_rowOf_0 : decode cX3_rowOf 0 = .ok (.aload_n 0, 1) := by decide +kernel
theorem dX3_rowOf_1 : decode cX3_rowOf 1 = .ok (.iload_n 1, 1) := by decide +kernel
theorem dX3_rowOf_2 : decode cX3_rowOf 2 = .ok (.invokevirtual 77, 3) := by decide +kernel
theorem dX3_rowOf_5 : decode cX3_rowOf 5 = .ok (.ifCond .ne 7, 3) := by decide +kernel
theorem dX3_rowOf_8 : decode cX3_rowOf 8 = .ok (.iconst 0, 1) := by decide +kernel
theorem dX3_rowOf_9 : decode cX3_rowOf 9 = .ok (.goto 28, 3) := by decide +kernel
theorem dX3_rowOf_12 : decode cX3_rowOf 12 = .ok (.aload_n 0, 1) := by decide +kernel
theorem dX3_rowOf_13 : decode cX3_rowOf 13 = .ok (.getfield 13, 3) := by decide +kernel
theorem dX3_rowOf_16 : decode cX3_rowOf 16 = .ok (.iload_n 1, 1) := by decide +kernel
theorem dX3_rowOf_17 : decode cX3_rowOf 17 = .ok (.iaload, 1) := by decide +kernel
theorem dX3_rowOf_18 : decode cX3_rowOf 18 = .ok (.iconst 1, 1) := by decide +kernel
theorem dX3_rowOf_19 : decode cX3_rowOf 19 = .ok (.if_icmp .ne 12, 3) := by decide +kernel
theorem dX3_rowOf_22 : decode cX3_rowOf 22 = .ok (.aload_n 0, 1) := by decide +kernel
theorem dX3_rowOf_23 : decode cX3_rowOf 23 = .ok (.getfield 16, 3) := by decide +kernel
theorem dX3_rowOf_26 : decode cX3_rowOf 26 = .ok (.iload_n 1, 1) := by decide +kernel
theorem dX3_rowOf_27 : decode cX3_rowOf 27 = .ok (.iaload, 1) := by decide +kernel
theorem dX3_rowOf_28 : decode cX3_rowOf 28 = .ok (.goto 9, 3) := by decide +kernel
theorem dX3_rowOf_31 : decode cX3_rowOf 31 = .ok (.aload_n 0, 1) := by decide +kernel
theorem dX3_rowOf_32 : decode cX3_rowOf 32 = .ok (.getfield 19, 3) := by decide +kernel
theorem dX3_rowOf_35 : decode cX3_rowOf 35 = .ok (.iload_n 1, 1) := by decide +kernel
theorem dX3_rowOf_36 : decode cX3_rowOf 36 = .ok (.iaload, 1) := by decide +kernel
theorem dX3_rowOf_37 : decode cX3_rowOf 37 = .ok (.ireturn, 1) := by decide +kernel
set_option maxRecDepth 20000 in
theorem ggX3_columnOf_X3_isVehicle : GoodIn wsX3_columnOf wsX3_isVehicle := goodIn_r _ [8, 9, 10, 11, 12, 13, 14, 15, 16, 17, 18, 19, 20, 21, 22, 23, 24, 25, 26, 27, 28, 29] (by decide +kernel) (by decide +kernel)
set_option maxRecDepth 20000 in
theorem gX3_columnOf_X3_isVehicle : GoodIn wsX3_columnOf (wsV RX3 77 RX3 yX3_isVehicle wsX3_isVehicle) := goodIn_app (goodIn_of _ (by decide +kernel)) ggX3_columnOf_X3_isVehicle
theorem dX3_columnOf_0 : decode cX3_columnOf 0 = .ok (.aload_n 0, 1) := by decide +kernel
theorem dX3_columnOf_1 : decode cX3_columnOf 1 = .ok (.iload_n 1, 1) := by decide +kernel
theorem dX3_columnOf_2 : decode cX3_columnOf 2 = .ok (.invokevirtual 77, 3) := by decide +kernel
theorem dX3_columnOf_5 : decode cX3_columnOf 5 = .ok (.ifCond .ne 7, 3) := by decide +kernel
theorem dX3_columnOf_8 : decode cX3_columnOf 8 = .ok (.iconst 0, 1) := by decide +kernel
theorem dX3_columnOf_9 : decode cX3_columnOf 9 = .ok (.goto 28, 3) := by decide +kernel
theorem dX3_columnOf_12 : decode cX3_columnOf 12 = .ok (.aload_n 0, 1) := by decide +kernel
theorem dX3_columnOf_13 : decode cX3_columnOf 13 = .ok (.getfield 13, 3) := by decide +kernel
theorem dX3_columnOf_16 : decode cX3_columnOf 16 = .ok (.iload_n 1, 1) := by decide +kernel
theorem dX3_columnOf_17 : decode cX3_columnOf 17 = .ok (.iaload, 1) := by decide +kernel
theorem dX3_columnOf_18 : decode cX3_columnOf 18 = .ok (.iconst 1, 1) := by decide +kernel
theorem dX3_columnOf_19 : decode cX3_columnOf 19 = .ok (.if_icmp .ne 12, 3) := by decide +kernel
theorem dX3_columnOf_22 : decode cX3_columnOf 22 = .ok (.aload_n 0, 1) := by decide +kernel
theorem dX3_columnOf_23 : decode cX3_columnOf 23 = .ok (.getfield 19, 3) := by decide +kernel
theorem dX3_columnOf_26 : decode cX3_columnOf 26 = .ok (.iload_n 1, 1) := by decide +kernel
theorem dX3_columnOf_27 : decode cX3_columnOf 27 = .ok (.iaload, 1) := by decide +kernel
theorem dX3_columnOf_28 : decode cX3_columnOf 28 = .ok (.goto 9, 3) := by decide +kernel
theorem dX3_columnOf_31 : decode cX3_columnOf 31 = .ok (.aload_n 0, 1) := by decide +kernel
theorem dX3_columnOf_32 : decode cX3_columnOf 32 = .ok (.getfield 16, 3) := by decide +kernel
theorem dX3_columnOf_35 : decode cX3_columnOf 35 = .ok (.iload_n 1, 1) := by decide +kernel
theorem dX3_columnOf_36 : decode cX3_columnOf 36 = .ok (.iaload, 1) := by decide +kernel
theorem dX3_columnOf_37 : decode cX3_columnOf 37 = .ok (.ireturn, 1) := by decide +kernel
set_option maxRecDepth 20000 in
theorem ggX3_at_X3_isLine : GoodIn wsX3_at wsX3_isLine := goodIn_r _ [6] (by decide +kernel) (by decide +kernel)
set_option maxRecDepth 20000 in
theorem gX3_at_X3_isLine : GoodIn wsX3_at (va_wsS RX3 60 yX3_isLine wsX3_isLine) := goodIn_app (goodIn_of _ (by decide +kernel)) ggX3_at_X3_isLine
set_option maxRecDepth 20000 in
theorem ggX3_at_X3_laysYard : GoodIn wsX3_at wsX3_laysYard := goodIn_r _ [10, 2, 11, 12, 13, 14, 15, 16, 17, 5, 18, 19, 20, 21, 22, 23, 24, 25, 26, 27, 28, 29, 30, 31, 32, 33, 34, 35, 36, 37] (by decide +kernel) (by decide +kernel)
set_option maxRecDepth 20000 in
theorem gX3_at_X3_laysYard : GoodIn wsX3_at (wsV RX3 68 RX3 yX3_laysYard wsX3_laysYard) := goodIn_app (goodIn_of _ (by decide +kernel)) ggX3_at_X3_laysYard
theorem dX3_at_0 : decode cX3_at 0 = .ok (.aload_n 0, 1) := by decide +kernel
theorem dX3_at_1 : decode cX3_at 1 = .ok (.iload_n 1, 1) := by decide +kernel
theorem dX3_at_2 : decode cX3_at 2 = .ok (.invokestatic 60, 3) := by decide +kernel
theorem dX3_at_5 : decode cX3_at 5 = .ok (.ifCond .eq 14, 3) := by decide +kernel
theorem dX3_at_8 : decode cX3_at 8 = .ok (.iload_n 2, 1) := by decide +kernel
theorem dX3_at_9 : decode cX3_at 9 = .ok (.invokestatic 60, 3) := by decide +kernel
theorem dX3_at_12 : decode cX3_at 12 = .ok (.ifCond .eq 7, 3) := by decide +kernel
theorem dX3_at_15 : decode cX3_at 15 = .ok (.iconst 0, 1) := by decide +kernel
theorem dX3_at_16 : decode cX3_at 16 = .ok (.goto 4, 3) := by decide +kernel
theorem dX3_at_19 : decode cX3_at 19 = .ok (.iconst 1, 1) := by decide +kernel
theorem dX3_at_20 : decode cX3_at 20 = .ok (.putfield 50, 3) := by decide +kernel
theorem dX3_at_23 : decode cX3_at 23 = .ok (.aload_n 0, 1) := by decide +kernel
theorem dX3_at_24 : decode cX3_at 24 = .ok (.invokevirtual 68, 3) := by decide +kernel
theorem dX3_at_27 : decode cX3_at 27 = .ok (.aload_n 0, 1) := by decide +kernel
theorem dX3_at_28 : decode cX3_at 28 = .ok (.getfield 50, 3) := by decide +kernel
theorem dX3_at_31 : decode cX3_at 31 = .ok (.ifCond .ne 19, 3) := by decide +kernel
theorem dX3_at_34 : decode cX3_at 34 = .ok (.aload_n 0, 1) := by decide +kernel
theorem dX3_at_35 : decode cX3_at 35 = .ok (.getfield 29, 3) := by decide +kernel
theorem dX3_at_38 : decode cX3_at 38 = .ok (.bipush 6, 2) := by decide +kernel
theorem dX3_at_40 : decode cX3_at 40 = .ok (.iload_n 1, 1) := by decide +kernel
theorem dX3_at_41 : decode cX3_at 41 = .ok (.imul, 1) := by decide +kernel
theorem dX3_at_42 : decode cX3_at 42 = .ok (.iload_n 2, 1) := by decide +kernel
theorem dX3_at_43 : decode cX3_at 43 = .ok (.iadd, 1) := by decide +kernel
theorem dX3_at_44 : decode cX3_at 44 = .ok (.iaload, 1) := by decide +kernel
theorem dX3_at_45 : decode cX3_at 45 = .ok (.iconst 1, 1) := by decide +kernel
theorem dX3_at_46 : decode cX3_at 46 = .ok (.isub, 1) := by decide +kernel
theorem dX3_at_47 : decode cX3_at 47 = .ok (.goto 4, 3) := by decide +kernel
theorem dX3_at_50 : decode cX3_at 50 = .ok (.iconst 0, 1) := by decide +kernel
theorem dX3_at_51 : decode cX3_at 51 = .ok (.ireturn, 1) := by decide +kernel
set_option maxRecDepth 20000 in
theorem ggX3_freeWay_X3_laysYard : GoodIn wsX3_freeWay wsX3_laysYard := goodIn_r _ [5, 6, 7, 8, 9, 10, 11, 12, 13, 4, 14, 32, 33, 34, 35, 36, 37, 38, 39, 40, 41, 42, 43, 44, 45, 46, 47, 48, 49, 50] (by decide +kernel) (by decide +kernel)
set_option maxRecDepth 20000 in
theorem gX3_freeWay_X3_laysYard : GoodIn wsX3_freeWay (wsV RX3 68 RX3 yX3_laysYard wsX3_laysYard) := goodIn_app (goodIn_of _ (by decide +kernel)) ggX3_freeWay_X3_laysYard
set_option maxRecDepth 20000 in
theorem ggX3_freeWay_X3_isVehicle : GoodIn wsX3_freeWay wsX3_isVehicle := goodIn_r _ [18, 7, 19, 32, 33, 34, 35, 36, 37, 38, 39, 40, 41, 42, 43, 44, 45, 46, 47, 48, 49, 50] (by decide +kernel) (by decide +kernel)
set_option maxRecDepth 20000 in
theorem gX3_freeWay_X3_isVehicle : GoodIn wsX3_freeWay (wsV RX3 77 RX3 yX3_isVehicle wsX3_isVehicle) := goodIn_app (goodIn_of _ (by decide +kernel)) ggX3_freeWay_X3_isVehicle
set_option maxRecDepth 20000 in
theorem ggX3_freeWay_X3_way : GoodIn wsX3_freeWay wsX3_way := goodIn_r _ [23, 11, 8, 24, 25, 26, 4, 27, 9, 10, 6, 28, 29, 30, 31, 12, 13, 14, 32, 33, 34, 35, 36, 37, 38, 39, 40, 41, 42, 43, 44, 45, 46, 47, 48, 49, 50] (by decide +kernel) (by decide +kernel)
set_option maxRecDepth 20000 in
theorem gX3_freeWay_X3_way : GoodIn wsX3_freeWay (wsV RX3 80 RX3 yX3_way wsX3_way) := goodIn_app (goodIn_of _ (by decide +kernel)) ggX3_freeWay_X3_way
theorem dX3_freeWay_0 : decode cX3_freeWay 0 = .ok (.aload_n 0, 1) := by decide +kernel
theorem dX3_freeWay_1 : decode cX3_freeWay 1 = .ok (.invokevirtual 68, 3) := by decide +kernel
theorem dX3_freeWay_4 : decode cX3_freeWay 4 = .ok (.aload_n 0, 1) := by decide +kernel
theorem dX3_freeWay_5 : decode cX3_freeWay 5 = .ok (.iload_n 1, 1) := by decide +kernel
theorem dX3_freeWay_6 : decode cX3_freeWay 6 = .ok (.invokevirtual 77, 3) := by decide +kernel
theorem dX3_freeWay_9 : decode cX3_freeWay 9 = .ok (.ifCond .eq 12, 3) := by decide +kernel
theorem dX3_freeWay_12 : decode cX3_freeWay 12 = .ok (.aload_n 0, 1) := by decide +kernel
theorem dX3_freeWay_13 : decode cX3_freeWay 13 = .ok (.iload_n 1, 1) := by decide +kernel
theorem dX3_freeWay_14 : decode cX3_freeWay 14 = .ok (.iload_n 2, 1) := by decide +kernel
theorem dX3_freeWay_15 : decode cX3_freeWay 15 = .ok (.invokevirtual 80, 3) := by decide +kernel
theorem dX3_freeWay_18 : decode cX3_freeWay 18 = .ok (.goto 4, 3) := by decide +kernel
theorem dX3_freeWay_21 : decode cX3_freeWay 21 = .ok (.iconst 0, 1) := by decide +kernel
theorem dX3_freeWay_22 : decode cX3_freeWay 22 = .ok (.ireturn, 1) := by decide +kernel
set_option maxRecDepth 20000 in
theorem ggX3_inTheWay_X3_laysYard : GoodIn wsX3_inTheWay wsX3_laysYard := goodIn_r _ [9, 4, 2, 10, 11, 12, 3, 13, 14, 8, 15, 16, 17, 18, 19, 20, 21, 22, 23, 24, 25, 26, 27, 28, 29, 30, 31, 32, 33, 34] (by decide +kernel) (by decide +kernel)
set_option maxRecDepth 20000 in
theorem gX3_inTheWay_X3_laysYard : GoodIn wsX3_inTheWay (wsV RX3 68 RX3 yX3_laysYard wsX3_laysYard) := goodIn_app (goodIn_of _ (by decide +kernel)) ggX3_inTheWay_X3_laysYard
theorem dX3_inTheWay_0 : decode cX3_inTheWay 0 = .ok (.aload_n 0, 1) := by decide +kernel
theorem dX3_inTheWay_1 : decode cX3_inTheWay 1 = .ok (.iconst 0, 1) := by decide +kernel
theorem dX3_inTheWay_2 : decode cX3_inTheWay 2 = .ok (.putfield 50, 3) := by decide +kernel
theorem dX3_inTheWay_5 : decode cX3_inTheWay 5 = .ok (.aload_n 0, 1) := by decide +kernel
theorem dX3_inTheWay_6 : decode cX3_inTheWay 6 = .ok (.invokevirtual 68, 3) := by decide +kernel
theorem dX3_inTheWay_9 : decode cX3_inTheWay 9 = .ok (.iconst 0, 1) := by decide +kernel
theorem dX3_inTheWay_10 : decode cX3_inTheWay 10 = .ok (.istore_n 1, 1) := by decide +kernel
theorem dX3_inTheWay_11 : decode cX3_inTheWay 11 = .ok (.iconst 0, 1) := by decide +kernel
theorem dX3_inTheWay_12 : decode cX3_inTheWay 12 = .ok (.istore_n 2, 1) := by decide +kernel
theorem dX3_inTheWay_13 : decode cX3_inTheWay 13 = .ok (.aload_n 0, 1) := by decide +kernel
theorem dX3_inTheWay_14 : decode cX3_inTheWay 14 = .ok (.getfield 53, 3) := by decide +kernel
theorem dX3_inTheWay_17 : decode cX3_inTheWay 17 = .ok (.ifCond .ne 8, 3) := by decide +kernel
theorem dX3_inTheWay_20 : decode cX3_inTheWay 20 = .ok (.bipush 6, 2) := by decide +kernel
theorem dX3_inTheWay_22 : decode cX3_inTheWay 22 = .ok (.goto 11, 3) := by decide +kernel
theorem dX3_inTheWay_25 : decode cX3_inTheWay 25 = .ok (.aload_n 0, 1) := by decide +kernel
theorem dX3_inTheWay_26 : decode cX3_inTheWay 26 = .ok (.getfield 19, 3) := by decide +kernel
theorem dX3_inTheWay_29 : decode cX3_inTheWay 29 = .ok (.iconst 0, 1) := by decide +kernel
theorem dX3_inTheWay_30 : decode cX3_inTheWay 30 = .ok (.iaload, 1) := by decide +kernel
theorem dX3_inTheWay_31 : decode cX3_inTheWay 31 = .ok (.iconst 2, 1) := by decide +kernel
theorem dX3_inTheWay_32 : decode cX3_inTheWay 32 = .ok (.iadd, 1) := by decide +kernel
theorem dX3_inTheWay_33 : decode cX3_inTheWay 33 = .ok (.istore_n 3, 1) := by decide +kernel
theorem dX3_inTheWay_34 : decode cX3_inTheWay 34 = .ok (.iload_n 3, 1) := by decide +kernel
theorem dX3_inTheWay_35 : decode cX3_inTheWay 35 = .ok (.bipush 6, 2) := by decide +kernel
theorem dX3_inTheWay_37 : decode cX3_inTheWay 37 = .ok (.if_icmp .ge 61, 3) := by decide +kernel
theorem dX3_inTheWay_40 : decode cX3_inTheWay 40 = .ok (.aload_n 0, 1) := by decide +kernel
theorem dX3_inTheWay_41 : decode cX3_inTheWay 41 = .ok (.getfield 29, 3) := by decide +kernel
theorem dX3_inTheWay_44 : decode cX3_inTheWay 44 = .ok (.bipush 12, 2) := by decide +kernel
theorem dX3_inTheWay_46 : decode cX3_inTheWay 46 = .ok (.iload_n 3, 1) := by decide +kernel
theorem dX3_inTheWay_47 : decode cX3_inTheWay 47 = .ok (.iadd, 1) := by decide +kernel
theorem dX3_inTheWay_48 : decode cX3_inTheWay 48 = .ok (.iaload, 1) := by decide +kernel
theorem dX3_inTheWay_49 : decode cX3_inTheWay 49 = .ok (.istore 4, 2) := by decide +kernel
theorem dX3_inTheWay_51 : decode cX3_inTheWay 51 = .ok (.iload 4, 2) := by decide +kernel
theorem dX3_inTheWay_53 : decode cX3_inTheWay 53 = .ok (.ifCond .le 16, 3) := by decide +kernel
theorem dX3_inTheWay_56 : decode cX3_inTheWay 56 = .ok (.iload_n 1, 1) := by decide +kernel
theorem dX3_inTheWay_57 : decode cX3_inTheWay 57 = .ok (.iload 4, 2) := by decide +kernel
theorem dX3_inTheWay_59 : decode cX3_inTheWay 59 = .ok (.ishr, 1) := by decide +kernel
theorem dX3_inTheWay_60 : decode cX3_inTheWay 60 = .ok (.iconst 1, 1) := by decide +kernel
theorem dX3_inTheWay_61 : decode cX3_inTheWay 61 = .ok (.iand, 1) := by decide +kernel
theorem dX3_inTheWay_62 : decode cX3_inTheWay 62 = .ok (.ifCond .ne 7, 3) := by decide +kernel
theorem dX3_inTheWay_65 : decode cX3_inTheWay 65 = .ok (.iconst 1, 1) := by decide +kernel
theorem dX3_inTheWay_66 : decode cX3_inTheWay 66 = .ok (.goto 4, 3) := by decide +kernel
theorem dX3_inTheWay_69 : decode cX3_inTheWay 69 = .ok (.iconst 0, 1) := by decide +kernel
theorem dX3_inTheWay_70 : decode cX3_inTheWay 70 = .ok (.istore 5, 2) := by decide +kernel
theorem dX3_inTheWay_72 : decode cX3_inTheWay 72 = .ok (.iload_n 2, 1) := by decide +kernel
theorem dX3_inTheWay_73 : decode cX3_inTheWay 73 = .ok (.iload 5, 2) := by decide +kernel
theorem dX3_inTheWay_75 : decode cX3_inTheWay 75 = .ok (.ifCond .eq 7, 3) := by decide +kernel
theorem dX3_inTheWay_78 : decode cX3_inTheWay 78 = .ok (.iconst 1, 1) := by decide +kernel
theorem dX3_inTheWay_79 : decode cX3_inTheWay 79 = .ok (.goto 4, 3) := by decide +kernel
theorem dX3_inTheWay_82 : decode cX3_inTheWay 82 = .ok (.iconst 0, 1) := by decide +kernel
theorem dX3_inTheWay_83 : decode cX3_inTheWay 83 = .ok (.iadd, 1) := by decide +kernel
theorem dX3_inTheWay_84 : decode cX3_inTheWay 84 = .ok (.istore_n 2, 1) := by decide +kernel
theorem dX3_inTheWay_85 : decode cX3_inTheWay 85 = .ok (.iload_n 1, 1) := by decide +kernel
theorem dX3_inTheWay_86 : decode cX3_inTheWay 86 = .ok (.iconst 1, 1) := by decide +kernel
theorem dX3_inTheWay_87 : decode cX3_inTheWay 87 = .ok (.iload 4, 2) := by decide +kernel
theorem dX3_inTheWay_89 : decode cX3_inTheWay 89 = .ok (.ishl, 1) := by decide +kernel
theorem dX3_inTheWay_90 : decode cX3_inTheWay 90 = .ok (.ior, 1) := by decide +kernel
theorem dX3_inTheWay_91 : decode cX3_inTheWay 91 = .ok (.istore_n 1, 1) := by decide +kernel
theorem dX3_inTheWay_92 : decode cX3_inTheWay 92 = .ok (.iinc 3 1, 3) := by decide +kernel
theorem dX3_inTheWay_95 : decode cX3_inTheWay 95 = .ok (.goto (-61), 3) := by decide +kernel
theorem dX3_inTheWay_98 : decode cX3_inTheWay 98 = .ok (.iload_n 2, 1) := by decide +kernel
theorem dX3_inTheWay_99 : decode cX3_inTheWay 99 = .ok (.ireturn, 1) := by decide +kernel
theorem dX3_isFree_0 : decode cX3_isFree 0 = .ok (.aload_n 0, 1) := by decide +kernel
theorem dX3_isFree_1 : decode cX3_isFree 1 = .ok (.getfield 53, 3) := by decide +kernel
theorem dX3_isFree_4 : decode cX3_isFree 4 = .ok (.ifCond .le 17, 3) := by decide +kernel
theorem dX3_isFree_7 : decode cX3_isFree 7 = .ok (.aload_n 0, 1) := by decide +kernel
theorem dX3_isFree_8 : decode cX3_isFree 8 = .ok (.getfield 19, 3) := by decide +kernel
theorem dX3_isFree_11 : decode cX3_isFree 11 = .ok (.iconst 0, 1) := by decide +kernel
theorem dX3_isFree_12 : decode cX3_isFree 12 = .ok (.iaload, 1) := by decide +kernel
theorem dX3_isFree_13 : decode cX3_isFree 13 = .ok (.iconst 4, 1) := by decide +kernel
theorem dX3_isFree_14 : decode cX3_isFree 14 = .ok (.if_icmp .ne 7, 3) := by decide +kernel
theorem dX3_isFree_17 : decode cX3_isFree 17 = .ok (.iconst 1, 1) := by decide +kernel
theorem dX3_isFree_18 : decode cX3_isFree 18 = .ok (.goto 4, 3) := by decide +kernel
theorem dX3_isFree_21 : decode cX3_isFree 21 = .ok (.iconst 0, 1) := by decide +kernel
theorem dX3_isFree_22 : decode cX3_isFree 22 = .ok (.ireturn, 1) := by decide +kernel
set_option maxRecDepth 20000 in
theorem ggX3_isSolved_X3_isFree : GoodIn wsX3_isSolved wsX3_isFree := goodIn_r _ [6, 7, 8, 9, 10, 11, 12, 13, 14, 15, 16, 17, 18, 19, 20, 21, 22, 23, 24, 25, 26, 27] (by decide +kernel) (by decide +kernel)
set_option maxRecDepth 20000 in
theorem gX3_isSolved_X3_isFree : GoodIn wsX3_isSolved (wsV RX3 88 RX3 yX3_isFree wsX3_isFree) := goodIn_app (goodIn_of _ (by decide +kernel)) ggX3_isSolved_X3_isFree
theorem dX3_isSolved_0 : decode cX3_isSolved 0 = .ok (.aload_n 0, 1) := by decide +kernel
theorem dX3_isSolved_1 : decode cX3_isSolved 1 = .ok (.iconst 0, 1) := by decide +kernel
theorem dX3_isSolved_2 : decode cX3_isSolved 2 = .ok (.putfield 50, 3) := by decide +kernel
theorem dX3_isSolved_5 : decode cX3_isSolved 5 = .ok (.aload_n 0, 1) := by decide +kernel
theorem dX3_isSolved_6 : decode cX3_isSolved 6 = .ok (.invokevirtual 88, 3) := by decide +kernel
theorem dX3_isSolved_9 : decode cX3_isSolved 9 = .ok (.ireturn, 1) := by decide +kernel
theorem dX3_moves_0 : decode cX3_moves 0 = .ok (.aload_n 0, 1) := by decide +kernel
theorem dX3_moves_1 : decode cX3_moves 1 = .ok (.iconst 0, 1) := by decide +kernel
theorem dX3_moves_2 : decode cX3_moves 2 = .ok (.putfield 50, 3) := by decide +kernel
theorem dX3_moves_5 : decode cX3_moves 5 = .ok (.aload_n 0, 1) := by decide +kernel
theorem dX3_moves_6 : decode cX3_moves 6 = .ok (.getfield 71, 3) := by decide +kernel
theorem dX3_moves_9 : decode cX3_moves 9 = .ok (.ireturn, 1) := by decide +kernel
theorem dX3_driven_0 : decode cX3_driven 0 = .ok (.aload_n 0, 1) := by decide +kernel
theorem dX3_driven_1 : decode cX3_driven 1 = .ok (.iconst 0, 1) := by decide +kernel
theorem dX3_driven_2 : decode cX3_driven 2 = .ok (.putfield 50, 3) := by decide +kernel
theorem dX3_driven_5 : decode cX3_driven 5 = .ok (.aload_n 0, 1) := by decide +kernel
theorem dX3_driven_6 : decode cX3_driven 6 = .ok (.getfield 74, 3) := by decide +kernel
theorem dX3_driven_9 : decode cX3_driven 9 = .ok (.ireturn, 1) := by decide +kernel
theorem dX3_digit_0 : decode cX3_digit 0 = .ok (.iload_n 0, 1) := by decide +kernel
theorem dX3_digit_1 : decode cX3_digit 1 = .ok (.istore_n 2, 1) := by decide +kernel
theorem dX3_digit_2 : decode cX3_digit 2 = .ok (.iconst 0, 1) := by decide +kernel
theorem dX3_digit_3 : decode cX3_digit 3 = .ok (.istore_n 3, 1) := by decide +kernel
theorem dX3_digit_4 : decode cX3_digit 4 = .ok (.iload_n 3, 1) := by decide +kernel
theorem dX3_digit_5 : decode cX3_digit 5 = .ok (.iload_n 1, 1) := by decide +kernel
theorem dX3_digit_6 : decode cX3_digit 6 = .ok (.if_icmp .ge 14, 3) := by decide +kernel
theorem dX3_digit_9 : decode cX3_digit 9 = .ok (.iload_n 2, 1) := by decide +kernel
theorem dX3_digit_10 : decode cX3_digit 10 = .ok (.bipush 6, 2) := by decide +kernel
theorem dX3_digit_12 : decode cX3_digit 12 = .ok (.idiv, 1) := by decide +kernel
theorem dX3_digit_13 : decode cX3_digit 13 = .ok (.istore_n 2, 1) := by decide +kernel
theorem dX3_digit_14 : decode cX3_digit 14 = .ok (.iinc 3 1, 3) := by decide +kernel
theorem dX3_digit_17 : decode cX3_digit 17 = .ok (.goto (-13), 3) := by decide +kernel
theorem dX3_digit_20 : decode cX3_digit 20 = .ok (.iload_n 2, 1) := by decide +kernel
theorem dX3_digit_21 : decode cX3_digit 21 = .ok (.bipush 6, 2) := by decide +kernel
theorem dX3_digit_23 : decode cX3_digit 23 = .ok (.irem, 1) := by decide +kernel
theorem dX3_digit_24 : decode cX3_digit 24 = .ok (.ireturn, 1) := by decide +kernel
theorem dX3_positionNow_0 : decode cX3_positionNow 0 = .ok (.iconst 0, 1) := by decide +kernel
theorem dX3_positionNow_1 : decode cX3_positionNow 1 = .ok (.istore_n 1, 1) := by decide +kernel
theorem dX3_positionNow_2 : decode cX3_positionNow 2 = .ok (.aload_n 0, 1) := by decide +kernel
theorem dX3_positionNow_3 : decode cX3_positionNow 3 = .ok (.getfield 53, 3) := by decide +kernel
theorem dX3_positionNow_6 : decode cX3_positionNow 6 = .ok (.iconst 1, 1) := by decide +kernel
theorem dX3_positionNow_7 : decode cX3_positionNow 7 = .ok (.isub, 1) := by decide +kernel
theorem dX3_positionNow_8 : decode cX3_positionNow 8 = .ok (.istore_n 2, 1) := by decide +kernel
theorem dX3_positionNow_9 : decode cX3_positionNow 9 = .ok (.iload_n 2, 1) := by decide +kernel
theorem dX3_positionNow_10 : decode cX3_positionNow 10 = .ok (.ifCond .lt 21, 3) := by decide +kernel
theorem dX3_positionNow_13 : decode cX3_positionNow 13 = .ok (.bipush 6, 2) := by decide +kernel
theorem dX3_positionNow_15 : decode cX3_positionNow 15 = .ok (.iload_n 1, 1) := by decide +kernel
theorem dX3_positionNow_16 : decode cX3_positionNow 16 = .ok (.imul, 1) := by decide +kernel
theorem dX3_positionNow_17 : decode cX3_positionNow 17 = .ok (.aload_n 0, 1) := by decide +kernel
theorem dX3_positionNow_18 : decode cX3_positionNow 18 = .ok (.getfield 19, 3) := by decide +kernel
theorem dX3_positionNow_21 : decode cX3_positionNow 21 = .ok (.iload_n 2, 1) := by decide +kernel
theorem dX3_positionNow_22 : decode cX3_positionNow 22 = .ok (.iaload, 1) := by decide +kernel
theorem dX3_positionNow_23 : decode cX3_positionNow 23 = .ok (.iadd, 1) := by decide +kernel
theorem dX3_positionNow_24 : decode cX3_positionNow 24 = .ok (.istore_n 1, 1) := by decide +kernel
theorem dX3_positionNow_25 : decode cX3_positionNow 25 = .ok (.iinc 2 (-1), 3) := by decide +kernel
theorem dX3_positionNow_28 : decode cX3_positionNow 28 = .ok (.goto (-19), 3) := by decide +kernel
theorem dX3_positionNow_31 : decode cX3_positionNow 31 = .ok (.iload_n 1, 1) := by decide +kernel
theorem dX3_positionNow_32 : decode cX3_positionNow 32 = .ok (.ireturn, 1) := by decide +kernel
set_option maxRecDepth 20000 in
theorem ggX3_takes_X3_positionNow : GoodIn wsX3_takes wsX3_positionNow := goodIn_r _ [12, 13, 14, 19, 20, 21, 22, 23, 24, 25, 26, 27, 28, 29, 30, 31, 32, 33, 34, 35, 36, 37] (by decide +kernel) (by decide +kernel)
set_option maxRecDepth 20000 in
theorem gX3_takes_X3_positionNow : GoodIn wsX3_takes (wsV RX3 92 RX3 yX3_positionNow wsX3_positionNow) := goodIn_app (goodIn_of _ (by decide +kernel)) ggX3_takes_X3_positionNow
set_option maxRecDepth 20000 in
theorem ggX3_takes_X3_isFree : GoodIn wsX3_takes wsX3_isFree := goodIn_r _ [18, 13, 14, 19, 20, 21, 22, 23, 24, 25, 26, 27, 28, 29, 30, 31, 32, 33, 34, 35, 36, 37] (by decide +kernel) (by decide +kernel)
set_option maxRecDepth 20000 in
theorem gX3_takes_X3_isFree : GoodIn wsX3_takes (wsV RX3 88 RX3 yX3_isFree wsX3_isFree) := goodIn_app (goodIn_of _ (by decide +kernel)) ggX3_takes_X3_isFree
theorem dX3_takes_0 : decode cX3_takes 0 = .ok (.aload_n 0, 1) := by decide +kernel
theorem dX3_takes_1 : decode cX3_takes 1 = .ok (.invokevirtual 92, 3) := by decide +kernel
theorem dX3_takes_4 : decode cX3_takes 4 = .ok (.istore_n 3, 1) := by decide +kernel
theorem dX3_takes_5 : decode cX3_takes 5 = .ok (.iload_n 3, 1) := by decide +kernel
theorem dX3_takes_6 : decode cX3_takes 6 = .ok (.sipush 2048, 3) := by decide +kernel
theorem dX3_takes_9 : decode cX3_takes 9 = .ok (.irem, 1) := by decide +kernel
theorem dX3_takes_10 : decode cX3_takes 10 = .ok (.istore 4, 2) := by decide +kernel
theorem dX3_takes_12 : decode cX3_takes 12 = .ok (.aload_n 0, 1) := by decide +kernel
theorem dX3_takes_13 : decode cX3_takes 13 = .ok (.getfield 44, 3) := by decide +kernel
theorem dX3_takes_16 : decode cX3_takes 16 = .ok (.iload 4, 2) := by decide +kernel
theorem dX3_takes_18 : decode cX3_takes 18 = .ok (.iaload, 1) := by decide +kernel
theorem dX3_takes_19 : decode cX3_takes 19 = .ok (.ifCond .eq 34, 3) := by decide +kernel
theorem dX3_takes_22 : decode cX3_takes 22 = .ok (.aload_n 0, 1) := by decide +kernel
theorem dX3_takes_23 : decode cX3_takes 23 = .ok (.getfield 32, 3) := by decide +kernel
theorem dX3_takes_26 : decode cX3_takes 26 = .ok (.aload_n 0, 1) := by decide +kernel
theorem dX3_takes_27 : decode cX3_takes 27 = .ok (.getfield 44, 3) := by decide +kernel
theorem dX3_takes_30 : decode cX3_takes 30 = .ok (.iload 4, 2) := by decide +kernel
theorem dX3_takes_32 : decode cX3_takes 32 = .ok (.iaload, 1) := by decide +kernel
theorem dX3_takes_33 : decode cX3_takes 33 = .ok (.iconst 1, 1) := by decide +kernel
theorem dX3_takes_34 : decode cX3_takes 34 = .ok (.isub, 1) := by decide +kernel
theorem dX3_takes_35 : decode cX3_takes 35 = .ok (.iaload, 1) := by decide +kernel
theorem dX3_takes_36 : decode cX3_takes 36 = .ok (.iload_n 3, 1) := by decide +kernel
theorem dX3_takes_37 : decode cX3_takes 37 = .ok (.if_icmp .eq 16, 3) := by decide +kernel
theorem dX3_takes_40 : decode cX3_takes 40 = .ok (.iload 4, 2) := by decide +kernel
theorem dX3_takes_42 : decode cX3_takes 42 = .ok (.iconst 1, 1) := by decide +kernel
theorem dX3_takes_43 : decode cX3_takes 43 = .ok (.iadd, 1) := by decide +kernel
theorem dX3_takes_44 : decode cX3_takes 44 = .ok (.sipush 2048, 3) := by decide +kernel
theorem dX3_takes_47 : decode cX3_takes 47 = .ok (.irem, 1) := by decide +kernel
theorem dX3_takes_48 : decode cX3_takes 48 = .ok (.istore 4, 2) := by decide +kernel
theorem dX3_takes_50 : decode cX3_takes 50 = .ok (.goto (-38), 3) := by decide +kernel
theorem dX3_takes_53 : decode cX3_takes 53 = .ok (.aload_n 0, 1) := by decide +kernel
theorem dX3_takes_54 : decode cX3_takes 54 = .ok (.getfield 44, 3) := by decide +kernel
theorem dX3_takes_57 : decode cX3_takes 57 = .ok (.iload 4, 2) := by decide +kernel
theorem dX3_takes_59 : decode cX3_takes 59 = .ok (.iaload, 1) := by decide +kernel
theorem dX3_takes_60 : decode cX3_takes 60 = .ok (.ifCond .ne 120, 3) := by decide +kernel
theorem dX3_takes_63 : decode cX3_takes 63 = .ok (.aload_n 0, 1) := by decide +kernel
theorem dX3_takes_64 : decode cX3_takes 64 = .ok (.getfield 96, 3) := by decide +kernel
theorem dX3_takes_67 : decode cX3_takes 67 = .ok (.sipush 800, 3) := by decide +kernel
theorem dX3_takes_70 : decode cX3_takes 70 = .ok (.if_icmp .ge 110, 3) := by decide +kernel
theorem dX3_takes_73 : decode cX3_takes 73 = .ok (.aload_n 0, 1) := by decide +kernel
theorem dX3_takes_74 : decode cX3_takes 74 = .ok (.getfield 44, 3) := by decide +kernel
theorem dX3_takes_77 : decode cX3_takes 77 = .ok (.iload 4, 2) := by decide +kernel
theorem dX3_takes_79 : decode cX3_takes 79 = .ok (.aload_n 0, 1) := by decide +kernel
theorem dX3_takes_80 : decode cX3_takes 80 = .ok (.getfield 96, 3) := by decide +kernel
theorem dX3_takes_83 : decode cX3_takes 83 = .ok (.iconst 1, 1) := by decide +kernel
theorem dX3_takes_84 : decode cX3_takes 84 = .ok (.iadd, 1) := by decide +kernel
theorem dX3_takes_85 : decode cX3_takes 85 = .ok (.iastore, 1) := by decide +kernel
theorem dX3_takes_86 : decode cX3_takes 86 = .ok (.aload_n 0, 1) := by decide +kernel
theorem dX3_takes_87 : decode cX3_takes 87 = .ok (.getfield 32, 3) := by decide +kernel
theorem dX3_takes_90 : decode cX3_takes 90 = .ok (.aload_n 0, 1) := by decide +kernel
theorem dX3_takes_91 : decode cX3_takes 91 = .ok (.getfield 96, 3) := by decide +kernel
theorem dX3_takes_94 : decode cX3_takes 94 = .ok (.iload_n 3, 1) := by decide +kernel
theorem dX3_takes_95 : decode cX3_takes 95 = .ok (.iastore, 1) := by decide +kernel
theorem dX3_takes_96 : decode cX3_takes 96 = .ok (.aload_n 0, 1) := by decide +kernel
theorem dX3_takes_97 : decode cX3_takes 97 = .ok (.getfield 35, 3) := by decide +kernel
theorem dX3_takes_100 : decode cX3_takes 100 = .ok (.aload_n 0, 1) := by decide +kernel
theorem dX3_takes_101 : decode cX3_takes 101 = .ok (.getfield 96, 3) := by decide +kernel
theorem dX3_takes_104 : decode cX3_takes 104 = .ok (.iload_n 1, 1) := by decide +kernel
theorem dX3_takes_105 : decode cX3_takes 105 = .ok (.iastore, 1) := by decide +kernel
theorem dX3_takes_106 : decode cX3_takes 106 = .ok (.aload_n 0, 1) := by decide +kernel
theorem dX3_takes_107 : decode cX3_takes 107 = .ok (.getfield 38, 3) := by decide +kernel
theorem dX3_takes_110 : decode cX3_takes 110 = .ok (.aload_n 0, 1) := by decide +kernel
theorem dX3_takes_111 : decode cX3_takes 111 = .ok (.getfield 96, 3) := by decide +kernel
theorem dX3_takes_114 : decode cX3_takes 114 = .ok (.iload_n 2, 1) := by decide +kernel
theorem dX3_takes_115 : decode cX3_takes 115 = .ok (.iastore, 1) := by decide +kernel
theorem dX3_takes_116 : decode cX3_takes 116 = .ok (.aload_n 0, 1) := by decide +kernel
theorem dX3_takes_117 : decode cX3_takes 117 = .ok (.getfield 41, 3) := by decide +kernel
theorem dX3_takes_120 : decode cX3_takes 120 = .ok (.aload_n 0, 1) := by decide +kernel
theorem dX3_takes_121 : decode cX3_takes 121 = .ok (.getfield 96, 3) := by decide +kernel
theorem dX3_takes_124 : decode cX3_takes 124 = .ok (.iload_n 1, 1) := by decide +kernel
theorem dX3_takes_125 : decode cX3_takes 125 = .ok (.ifCond .ge 7, 3) := by decide +kernel
theorem dX3_takes_128 : decode cX3_takes 128 = .ok (.iconst 0, 1) := by decide +kernel
theorem dX3_takes_129 : decode cX3_takes 129 = .ok (.goto 11, 3) := by decide +kernel
theorem dX3_takes_132 : decode cX3_takes 132 = .ok (.aload_n 0, 1) := by decide +kernel
theorem dX3_takes_133 : decode cX3_takes 133 = .ok (.getfield 41, 3) := by decide +kernel
theorem dX3_takes_136 : decode cX3_takes 136 = .ok (.iload_n 1, 1) := by decide +kernel
theorem dX3_takes_137 : decode cX3_takes 137 = .ok (.iaload, 1) := by decide +kernel
theorem dX3_takes_138 : decode cX3_takes 138 = .ok (.iconst 1, 1) := by decide +kernel
theorem dX3_takes_139 : decode cX3_takes 139 = .ok (.iadd, 1) := by decide +kernel
theorem dX3_takes_140 : decode cX3_takes 140 = .ok (.iastore, 1) := by decide +kernel
theorem dX3_takes_141 : decode cX3_takes 141 = .ok (.aload_n 0, 1) := by decide +kernel
theorem dX3_takes_142 : decode cX3_takes 142 = .ok (.aload_n 0, 1) := by decide +kernel
theorem dX3_takes_143 : decode cX3_takes 143 = .ok (.getfield 99, 3) := by decide +kernel
theorem dX3_takes_146 : decode cX3_takes 146 = .ok (.ifCond .ge 17, 3) := by decide +kernel
theorem dX3_takes_149 : decode cX3_takes 149 = .ok (.aload_n 0, 1) := by decide +kernel
theorem dX3_takes_150 : decode cX3_takes 150 = .ok (.invokevirtual 88, 3) := by decide +kernel
theorem dX3_takes_153 : decode cX3_takes 153 = .ok (.ifCond .eq 10, 3) := by decide +kernel
theorem dX3_takes_156 : decode cX3_takes 156 = .ok (.aload_n 0, 1) := by decide +kernel
theorem dX3_takes_157 : decode cX3_takes 157 = .ok (.getfield 96, 3) := by decide +kernel
theorem dX3_takes_160 : decode cX3_takes 160 = .ok (.goto 7, 3) := by decide +kernel
theorem dX3_takes_163 : decode cX3_takes 163 = .ok (.aload_n 0, 1) := by decide +kernel
theorem dX3_takes_164 : decode cX3_takes 164 = .ok (.getfield 99, 3) := by decide +kernel
theorem dX3_takes_167 : decode cX3_takes 167 = .ok (.putfield 99, 3) := by decide +kernel
theorem dX3_takes_170 : decode cX3_takes 170 = .ok (.aload_n 0, 1) := by decide +kernel
theorem dX3_takes_171 : decode cX3_takes 171 = .ok (.dup, 1) := by decide +kernel
theorem dX3_takes_172 : decode cX3_takes 172 = .ok (.getfield 96, 3) := by decide +kernel
theorem dX3_takes_175 : decode cX3_takes 175 = .ok (.iconst 1, 1) := by decide +kernel
theorem dX3_takes_176 : decode cX3_takes 176 = .ok (.iadd, 1) := by decide +kernel
theorem dX3_takes_177 : decode cX3_takes 177 = .ok (.putfield 96, 3) := by decide +kernel
theorem dX3_takes_180 : decode cX3_takes 180 = .ok (.return_, 1) := by decide +kernel
set_option maxRecDepth 20000 in
theorem ggX3_tries_X3_way : GoodIn wsX3_tries wsX3_way := goodIn_r _ [6, 1, 7, 8, 9, 10, 5, 11, 12, 13, 14, 15, 16, 17, 18, 19, 20, 21, 42, 43, 44, 45, 46, 47, 48, 49, 50, 51, 52, 53, 54, 55, 56, 57, 58, 59, 60] (by decide +kernel) (by decide +kernel)
set_option maxRecDepth 20000 in
theorem gX3_tries_X3_way : GoodIn wsX3_tries (wsV RX3 80 RX3 yX3_way wsX3_way) := goodIn_app (goodIn_of _ (by decide +kernel)) ggX3_tries_X3_way
set_option maxRecDepth 20000 in
theorem ggX3_tries_X3_takes : GoodIn wsX3_tries wsX3_takes := goodIn_r _ [25, 26, 27, 28, 29, 30, 31, 32, 33, 34, 35, 5, 36, 37, 1, 38, 39, 40, 41, 42, 43, 44, 45, 46, 47, 48, 49, 50, 51, 52, 53, 54, 55, 56, 57, 58, 59, 60] (by decide +kernel) (by decide +kernel)
set_option maxRecDepth 20000 in
theorem gX3_tries_X3_takes : GoodIn wsX3_tries (wsV RX3 102 RX3 yX3_takes wsX3_takes) := goodIn_app (goodIn_of _ (by decide +kernel)) ggX3_tries_X3_takes
theorem dX3_tries_0 : decode cX3_tries 0 = .ok (.aload_n 0, 1) := by decide +kernel
theorem dX3_tries_1 : decode cX3_tries 1 = .ok (.getfield 19, 3) := by decide +kernel
theorem dX3_tries_4 : decode cX3_tries 4 = .ok (.iload_n 2, 1) := by decide +kernel
theorem dX3_tries_5 : decode cX3_tries 5 = .ok (.iaload, 1) := by decide +kernel
theorem dX3_tries_6 : decode cX3_tries 6 = .ok (.istore 4, 2) := by decide +kernel
theorem dX3_tries_8 : decode cX3_tries 8 = .ok (.aload_n 0, 1) := by decide +kernel
theorem dX3_tries_9 : decode cX3_tries 9 = .ok (.iload_n 2, 1) := by decide +kernel
theorem dX3_tries_10 : decode cX3_tries 10 = .ok (.iload_n 3, 1) := by decide +kernel
theorem dX3_tries_11 : decode cX3_tries 11 = .ok (.ifCond .le 7, 3) := by decide +kernel
theorem dX3_tries_14 : decode cX3_tries 14 = .ok (.iconst 1, 1) := by decide +kernel
theorem dX3_tries_15 : decode cX3_tries 15 = .ok (.goto 4, 3) := by decide +kernel
theorem dX3_tries_18 : decode cX3_tries 18 = .ok (.iconst 0, 1) := by decide +kernel
theorem dX3_tries_19 : decode cX3_tries 19 = .ok (.invokevirtual 80, 3) := by decide +kernel
theorem dX3_tries_22 : decode cX3_tries 22 = .ok (.istore 5, 2) := by decide +kernel
theorem dX3_tries_24 : decode cX3_tries 24 = .ok (.iconst 1, 1) := by decide +kernel
theorem dX3_tries_25 : decode cX3_tries 25 = .ok (.istore 6, 2) := by decide +kernel
theorem dX3_tries_27 : decode cX3_tries 27 = .ok (.iload 6, 2) := by decide +kernel
theorem dX3_tries_29 : decode cX3_tries 29 = .ok (.iload 5, 2) := by decide +kernel
theorem dX3_tries_31 : decode cX3_tries 31 = .ok (.if_icmp .gt 38, 3) := by decide +kernel
theorem dX3_tries_34 : decode cX3_tries 34 = .ok (.aload_n 0, 1) := by decide +kernel
theorem dX3_tries_35 : decode cX3_tries 35 = .ok (.getfield 19, 3) := by decide +kernel
theorem dX3_tries_38 : decode cX3_tries 38 = .ok (.iload_n 2, 1) := by decide +kernel
theorem dX3_tries_39 : decode cX3_tries 39 = .ok (.iload 4, 2) := by decide +kernel
theorem dX3_tries_41 : decode cX3_tries 41 = .ok (.iload_n 3, 1) := by decide +kernel
theorem dX3_tries_42 : decode cX3_tries 42 = .ok (.iload 6, 2) := by decide +kernel
theorem dX3_tries_44 : decode cX3_tries 44 = .ok (.imul, 1) := by decide +kernel
theorem dX3_tries_45 : decode cX3_tries 45 = .ok (.iadd, 1) := by decide +kernel
theorem dX3_tries_46 : decode cX3_tries 46 = .ok (.iastore, 1) := by decide +kernel
theorem dX3_tries_47 : decode cX3_tries 47 = .ok (.aload_n 0, 1) := by decide +kernel
theorem dX3_tries_48 : decode cX3_tries 48 = .ok (.iload_n 1, 1) := by decide +kernel
theorem dX3_tries_49 : decode cX3_tries 49 = .ok (.bipush 10, 2) := by decide +kernel
theorem dX3_tries_51 : decode cX3_tries 51 = .ok (.iload_n 2, 1) := by decide +kernel
theorem dX3_tries_52 : decode cX3_tries 52 = .ok (.imul, 1) := by decide +kernel
theorem dX3_tries_53 : decode cX3_tries 53 = .ok (.iload_n 3, 1) := by decide +kernel
theorem dX3_tries_54 : decode cX3_tries 54 = .ok (.iload 6, 2) := by decide +kernel
theorem dX3_tries_56 : decode cX3_tries 56 = .ok (.imul, 1) := by decide +kernel
theorem dX3_tries_57 : decode cX3_tries 57 = .ok (.iadd, 1) := by decide +kernel
theorem dX3_tries_58 : decode cX3_tries 58 = .ok (.iconst 4, 1) := by decide +kernel
theorem dX3_tries_59 : decode cX3_tries 59 = .ok (.iadd, 1) := by decide +kernel
theorem dX3_tries_60 : decode cX3_tries 60 = .ok (.invokevirtual 102, 3) := by decide +kernel
theorem dX3_tries_63 : decode cX3_tries 63 = .ok (.iinc 6 1, 3) := by decide +kernel
theorem dX3_tries_66 : decode cX3_tries 66 = .ok (.goto (-39), 3) := by decide +kernel
theorem dX3_tries_69 : decode cX3_tries 69 = .ok (.aload_n 0, 1) := by decide +kernel
theorem dX3_tries_70 : decode cX3_tries 70 = .ok (.getfield 19, 3) := by decide +kernel
theorem dX3_tries_73 : decode cX3_tries 73 = .ok (.iload_n 2, 1) := by decide +kernel
theorem dX3_tries_74 : decode cX3_tries 74 = .ok (.iload 4, 2) := by decide +kernel
theorem dX3_tries_76 : decode cX3_tries 76 = .ok (.iastore, 1) := by decide +kernel
theorem dX3_tries_77 : decode cX3_tries 77 = .ok (.return_, 1) := by decide +kernel
set_option maxRecDepth 20000 in
theorem ggX3_looks_X3_takes : GoodIn wsX3_looks wsX3_takes := goodIn_r _ [12, 1, 7, 5, 13, 14, 15, 6, 16, 17, 18, 11, 19, 2, 4, 20, 21, 22, 23, 54, 55, 56, 57, 58, 59, 60, 61, 62, 63, 64, 65, 66, 67, 68, 69, 70, 71, 72] (by decide +kernel) (by decide +kernel)
set_option maxRecDepth 20000 in
theorem gX3_looks_X3_takes : GoodIn wsX3_looks (wsV RX3 102 RX3 yX3_takes wsX3_takes) := goodIn_app (goodIn_of _ (by decide +kernel)) ggX3_looks_X3_takes
set_option maxRecDepth 20000 in
theorem ggX3_looks_X3_digit : GoodIn wsX3_looks wsX3_digit := goodIn_r _ [26] (by decide +kernel) (by decide +kernel)
set_option maxRecDepth 20000 in
theorem gX3_looks_X3_digit : GoodIn wsX3_looks (va_wsS RX3 105 yX3_digit wsX3_digit) := goodIn_app (goodIn_of _ (by decide +kernel)) ggX3_looks_X3_digit
set_option maxRecDepth 20000 in
theorem ggX3_looks_X3_laysYard : GoodIn wsX3_looks wsX3_laysYard := goodIn_r _ [30, 31, 2, 32, 33, 34, 4, 35, 36, 11, 37, 54, 55, 56, 57, 58, 59, 60, 61, 62, 63, 64, 65, 66, 67, 68, 69, 70, 71, 72] (by decide +kernel) (by decide +kernel)
set_option maxRecDepth 20000 in
theorem gX3_looks_X3_laysYard : GoodIn wsX3_looks (wsV RX3 68 RX3 yX3_laysYard wsX3_laysYard) := goodIn_app (goodIn_of _ (by decide +kernel)) ggX3_looks_X3_laysYard
set_option maxRecDepth 20000 in
theorem ggX3_looks_X3_tries : GoodIn wsX3_looks wsX3_tries := goodIn_r _ [41, 4, 42, 43, 44, 11, 45, 32, 46, 47, 48, 49, 33, 34, 31, 50, 51, 52, 53, 35, 36, 37, 8, 9, 10, 12, 1, 7, 5, 13, 14, 15, 6, 16, 17, 18, 19, 2, 20, 21, 22, 23, 54, 55, 56, 57, 58, 59, 60, 61, 62, 63, 64, 65, 66, 67, 68, 69, 70, 71, 72] (by decide +kernel) (by decide +kernel)
set_option maxRecDepth 20000 in
theorem gX3_looks_X3_tries : GoodIn wsX3_looks (wsV RX3 109 RX3 yX3_tries wsX3_tries) := goodIn_app (goodIn_of _ (by decide +kernel)) ggX3_looks_X3_tries
theorem dX3_looks_0 : decode cX3_looks 0 = .ok (.iconst 0, 1) := by decide +kernel
theorem dX3_looks_1 : decode cX3_looks 1 = .ok (.istore_n 1, 1) := by decide +kernel
theorem dX3_looks_2 : decode cX3_looks 2 = .ok (.iload_n 1, 1) := by decide +kernel
theorem dX3_looks_3 : decode cX3_looks 3 = .ok (.sipush 2048, 3) := by decide +kernel
theorem dX3_looks_6 : decode cX3_looks 6 = .ok (.if_icmp .ge 16, 3) := by decide +kernel
theorem dX3_looks_9 : decode cX3_looks 9 = .ok (.aload_n 0, 1) := by decide +kernel
theorem dX3_looks_10 : decode cX3_looks 10 = .ok (.getfield 44, 3) := by decide +kernel
theorem dX3_looks_13 : decode cX3_looks 13 = .ok (.iload_n 1, 1) := by decide +kernel
theorem dX3_looks_14 : decode cX3_looks 14 = .ok (.iconst 0, 1) := by decide +kernel
theorem dX3_looks_15 : decode cX3_looks 15 = .ok (.iastore, 1) := by decide +kernel
theorem dX3_looks_16 : decode cX3_looks 16 = .ok (.iinc 1 1, 3) := by decide +kernel
theorem dX3_looks_19 : decode cX3_looks 19 = .ok (.goto (-17), 3) := by decide +kernel
theorem dX3_looks_22 : decode cX3_looks 22 = .ok (.iconst 0, 1) := by decide +kernel
theorem dX3_looks_23 : decode cX3_looks 23 = .ok (.istore_n 1, 1) := by decide +kernel
theorem dX3_looks_24 : decode cX3_looks 24 = .ok (.iload_n 1, 1) := by decide +kernel
theorem dX3_looks_25 : decode cX3_looks 25 = .ok (.aload_n 0, 1) := by decide +kernel
theorem dX3_looks_26 : decode cX3_looks 26 = .ok (.getfield 53, 3) := by decide +kernel
theorem dX3_looks_29 : decode cX3_looks 29 = .ok (.if_icmp .ge 21, 3) := by decide +kernel
theorem dX3_looks_32 : decode cX3_looks 32 = .ok (.aload_n 0, 1) := by decide +kernel
theorem dX3_looks_33 : decode cX3_looks 33 = .ok (.getfield 47, 3) := by decide +kernel
theorem dX3_looks_36 : decode cX3_looks 36 = .ok (.iload_n 1, 1) := by decide +kernel
theorem dX3_looks_37 : decode cX3_looks 37 = .ok (.aload_n 0, 1) := by decide +kernel
theorem dX3_looks_38 : decode cX3_looks 38 = .ok (.getfield 19, 3) := by decide +kernel
theorem dX3_looks_41 : decode cX3_looks 41 = .ok (.iload_n 1, 1) := by decide +kernel
theorem dX3_looks_42 : decode cX3_looks 42 = .ok (.iaload, 1) := by decide +kernel
theorem dX3_looks_43 : decode cX3_looks 43 = .ok (.iastore, 1) := by decide +kernel
theorem dX3_looks_44 : decode cX3_looks 44 = .ok (.iinc 1 1, 3) := by decide +kernel
theorem dX3_looks_47 : decode cX3_looks 47 = .ok (.goto (-23), 3) := by decide +kernel
theorem dX3_looks_50 : decode cX3_looks 50 = .ok (.aload_n 0, 1) := by decide +kernel
theorem dX3_looks_51 : decode cX3_looks 51 = .ok (.iconst 0, 1) := by decide +kernel
theorem dX3_looks_52 : decode cX3_looks 52 = .ok (.putfield 96, 3) := by decide +kernel
theorem dX3_looks_55 : decode cX3_looks 55 = .ok (.aload_n 0, 1) := by decide +kernel
theorem dX3_looks_56 : decode cX3_looks 56 = .ok (.iconst (-1), 1) := by decide +kernel
theorem dX3_looks_57 : decode cX3_looks 57 = .ok (.putfield 99, 3) := by decide +kernel
theorem dX3_looks_60 : decode cX3_looks 60 = .ok (.aload_n 0, 1) := by decide +kernel
theorem dX3_looks_61 : decode cX3_looks 61 = .ok (.iconst (-1), 1) := by decide +kernel
theorem dX3_looks_62 : decode cX3_looks 62 = .ok (.iconst 0, 1) := by decide +kernel
theorem dX3_looks_63 : decode cX3_looks 63 = .ok (.invokevirtual 102, 3) := by decide +kernel
theorem dX3_looks_66 : decode cX3_looks 66 = .ok (.iconst 0, 1) := by decide +kernel
theorem dX3_looks_67 : decode cX3_looks 67 = .ok (.istore_n 1, 1) := by decide +kernel
theorem dX3_looks_68 : decode cX3_looks 68 = .ok (.iload_n 1, 1) := by decide +kernel
theorem dX3_looks_69 : decode cX3_looks 69 = .ok (.aload_n 0, 1) := by decide +kernel
theorem dX3_looks_70 : decode cX3_looks 70 = .ok (.getfield 96, 3) := by decide +kernel
theorem dX3_looks_73 : decode cX3_looks 73 = .ok (.if_icmp .ge 85, 3) := by decide +kernel
theorem dX3_looks_76 : decode cX3_looks 76 = .ok (.aload_n 0, 1) := by decide +kernel
theorem dX3_looks_77 : decode cX3_looks 77 = .ok (.getfield 96, 3) := by decide +kernel
theorem dX3_looks_80 : decode cX3_looks 80 = .ok (.sipush 800, 3) := by decide +kernel
theorem dX3_looks_83 : decode cX3_looks 83 = .ok (.if_icmp .ge 75, 3) := by decide +kernel
theorem dX3_looks_86 : decode cX3_looks 86 = .ok (.iconst 0, 1) := by decide +kernel
theorem dX3_looks_87 : decode cX3_looks 87 = .ok (.istore_n 2, 1) := by decide +kernel
theorem dX3_looks_88 : decode cX3_looks 88 = .ok (.iload_n 2, 1) := by decide +kernel
theorem dX3_looks_89 : decode cX3_looks 89 = .ok (.aload_n 0, 1) := by decide +kernel
theorem dX3_looks_90 : decode cX3_looks 90 = .ok (.getfield 53, 3) := by decide +kernel
theorem dX3_looks_93 : decode cX3_looks 93 = .ok (.if_icmp .ge 25, 3) := by decide +kernel
theorem dX3_looks_96 : decode cX3_looks 96 = .ok (.aload_n 0, 1) := by decide +kernel
theorem dX3_looks_97 : decode cX3_looks 97 = .ok (.getfield 19, 3) := by decide +kernel
theorem dX3_looks_100 : decode cX3_looks 100 = .ok (.iload_n 2, 1) := by decide +kernel
theorem dX3_looks_101 : decode cX3_looks 101 = .ok (.aload_n 0, 1) := by decide +kernel
theorem dX3_looks_102 : decode cX3_looks 102 = .ok (.getfield 32, 3) := by decide +kernel
theorem dX3_looks_105 : decode cX3_looks 105 = .ok (.iload_n 1, 1) := by decide +kernel
theorem dX3_looks_106 : decode cX3_looks 106 = .ok (.iaload, 1) := by decide +kernel
theorem dX3_looks_107 : decode cX3_looks 107 = .ok (.iload_n 2, 1) := by decide +kernel
theorem dX3_looks_108 : decode cX3_looks 108 = .ok (.invokestatic 105, 3) := by decide +kernel
theorem dX3_looks_111 : decode cX3_looks 111 = .ok (.iastore, 1) := by decide +kernel
theorem dX3_looks_112 : decode cX3_looks 112 = .ok (.iinc 2 1, 3) := by decide +kernel
theorem dX3_looks_115 : decode cX3_looks 115 = .ok (.goto (-27), 3) := by decide +kernel
theorem dX3_looks_118 : decode cX3_looks 118 = .ok (.aload_n 0, 1) := by decide +kernel
theorem dX3_looks_119 : decode cX3_looks 119 = .ok (.invokevirtual 68, 3) := by decide +kernel
theorem dX3_looks_122 : decode cX3_looks 122 = .ok (.iconst 0, 1) := by decide +kernel
theorem dX3_looks_123 : decode cX3_looks 123 = .ok (.istore_n 2, 1) := by decide +kernel
theorem dX3_looks_124 : decode cX3_looks 124 = .ok (.iload_n 2, 1) := by decide +kernel
theorem dX3_looks_125 : decode cX3_looks 125 = .ok (.aload_n 0, 1) := by decide +kernel
theorem dX3_looks_126 : decode cX3_looks 126 = .ok (.getfield 53, 3) := by decide +kernel
theorem dX3_looks_129 : decode cX3_looks 129 = .ok (.if_icmp .ge 23, 3) := by decide +kernel
theorem dX3_looks_132 : decode cX3_looks 132 = .ok (.aload_n 0, 1) := by decide +kernel
theorem dX3_looks_133 : decode cX3_looks 133 = .ok (.iload_n 1, 1) := by decide +kernel
theorem dX3_looks_134 : decode cX3_looks 134 = .ok (.iload_n 2, 1) := by decide +kernel
theorem dX3_looks_135 : decode cX3_looks 135 = .ok (.iconst (-1), 1) := by decide +kernel
theorem dX3_looks_136 : decode cX3_looks 136 = .ok (.invokevirtual 109, 3) := by decide +kernel
theorem dX3_looks_139 : decode cX3_looks 139 = .ok (.aload_n 0, 1) := by decide +kernel
theorem dX3_looks_140 : decode cX3_looks 140 = .ok (.iload_n 1, 1) := by decide +kernel
theorem dX3_looks_141 : decode cX3_looks 141 = .ok (.iload_n 2, 1) := by decide +kernel
theorem dX3_looks_142 : decode cX3_looks 142 = .ok (.iconst 1, 1) := by decide +kernel
theorem dX3_looks_143 : decode cX3_looks 143 = .ok (.invokevirtual 109, 3) := by decide +kernel
theorem dX3_looks_146 : decode cX3_looks 146 = .ok (.iinc 2 1, 3) := by decide +kernel
theorem dX3_looks_149 : decode cX3_looks 149 = .ok (.goto (-25), 3) := by decide +kernel
theorem dX3_looks_152 : decode cX3_looks 152 = .ok (.iinc 1 1, 3) := by decide +kernel
theorem dX3_looks_155 : decode cX3_looks 155 = .ok (.goto (-87), 3) := by decide +kernel
theorem dX3_looks_158 : decode cX3_looks 158 = .ok (.iconst 0, 1) := by decide +kernel
theorem dX3_looks_159 : decode cX3_looks 159 = .ok (.istore_n 1, 1) := by decide +kernel
theorem dX3_looks_160 : decode cX3_looks 160 = .ok (.iload_n 1, 1) := by decide +kernel
theorem dX3_looks_161 : decode cX3_looks 161 = .ok (.aload_n 0, 1) := by decide +kernel
theorem dX3_looks_162 : decode cX3_looks 162 = .ok (.getfield 53, 3) := by decide +kernel
theorem dX3_looks_165 : decode cX3_looks 165 = .ok (.if_icmp .ge 21, 3) := by decide +kernel
theorem dX3_looks_168 : decode cX3_looks 168 = .ok (.aload_n 0, 1) := by decide +kernel
theorem dX3_looks_169 : decode cX3_looks 169 = .ok (.getfield 19, 3) := by decide +kernel
theorem dX3_looks_172 : decode cX3_looks 172 = .ok (.iload_n 1, 1) := by decide +kernel
theorem dX3_looks_173 : decode cX3_looks 173 = .ok (.aload_n 0, 1) := by decide +kernel
theorem dX3_looks_174 : decode cX3_looks 174 = .ok (.getfield 47, 3) := by decide +kernel
theorem dX3_looks_177 : decode cX3_looks 177 = .ok (.iload_n 1, 1) := by decide +kernel
theorem dX3_looks_178 : decode cX3_looks 178 = .ok (.iaload, 1) := by decide +kernel
theorem dX3_looks_179 : decode cX3_looks 179 = .ok (.iastore, 1) := by decide +kernel
theorem dX3_looks_180 : decode cX3_looks 180 = .ok (.iinc 1 1, 3) := by decide +kernel
theorem dX3_looks_183 : decode cX3_looks 183 = .ok (.goto (-23), 3) := by decide +kernel
theorem dX3_looks_186 : decode cX3_looks 186 = .ok (.return_, 1) := by decide +kernel
set_option maxRecDepth 20000 in
theorem ggX3_positions_X3_looks : GoodIn wsX3_positions wsX3_looks := goodIn_r _ [7, 8, 9, 10, 11, 2, 12, 13, 14, 15, 16, 6, 17, 18, 19, 20, 21, 22, 23, 24, 25, 26, 27, 28, 29, 30, 31, 32, 33, 34, 35, 36, 37, 38, 39, 40, 41, 42, 43, 44, 45, 46, 47, 48, 49, 50, 51, 52, 53, 54, 55, 56, 57, 58, 59, 60, 61, 62, 63, 64, 65, 66, 67, 68, 69, 70, 71, 72, 73, 74, 75, 76, 77] (by decide +kernel) (by decide +kernel)
set_option maxRecDepth 20000 in
theorem gX3_positions_X3_looks : GoodIn wsX3_positions (wsV RX3 113 RX3 yX3_looks wsX3_looks) := goodIn_app (goodIn_of _ (by decide +kernel)) ggX3_positions_X3_looks
theorem dX3_positions_0 : decode cX3_positions 0 = .ok (.aload_n 0, 1) := by decide +kernel
theorem dX3_positions_1 : decode cX3_positions 1 = .ok (.iconst 0, 1) := by decide +kernel
theorem dX3_positions_2 : decode cX3_positions 2 = .ok (.putfield 50, 3) := by decide +kernel
theorem dX3_positions_5 : decode cX3_positions 5 = .ok (.aload_n 0, 1) := by decide +kernel
theorem dX3_positions_6 : decode cX3_positions 6 = .ok (.invokevirtual 113, 3) := by decide +kernel
theorem dX3_positions_9 : decode cX3_positions 9 = .ok (.aload_n 0, 1) := by decide +kernel
theorem dX3_positions_10 : decode cX3_positions 10 = .ok (.getfield 96, 3) := by decide +kernel
theorem dX3_positions_13 : decode cX3_positions 13 = .ok (.ireturn, 1) := by decide +kernel
set_option maxRecDepth 20000 in
theorem ggX3_fewestMoves_X3_looks : GoodIn wsX3_fewestMoves wsX3_looks := goodIn_r _ [8, 9, 10, 11, 12, 13, 2, 14, 15, 16, 17, 7, 18, 19, 20, 3, 21, 22, 23, 24, 25, 26, 27, 28, 29, 30, 31, 32, 33, 34, 35, 36, 37, 38, 39, 40, 41, 42, 43, 44, 45, 46, 47, 48, 49, 50, 51, 52, 53, 54, 55, 56, 57, 58, 59, 60, 61, 62, 63, 64, 65, 66, 67, 68, 69, 70, 71, 72, 73, 74, 75, 76, 77] (by decide +kernel) (by decide +kernel)
set_option maxRecDepth 20000 in
theorem gX3_fewestMoves_X3_looks : GoodIn wsX3_fewestMoves (wsV RX3 113 RX3 yX3_looks wsX3_looks) := goodIn_app (goodIn_of _ (by decide +kernel)) ggX3_fewestMoves_X3_looks
theorem dX3_fewestMoves_0 : decode cX3_fewestMoves 0 = .ok (.aload_n 0, 1) := by decide +kernel
theorem dX3_fewestMoves_1 : decode cX3_fewestMoves 1 = .ok (.iconst 0, 1) := by decide +kernel
theorem dX3_fewestMoves_2 : decode cX3_fewestMoves 2 = .ok (.putfield 50, 3) := by decide +kernel
theorem dX3_fewestMoves_5 : decode cX3_fewestMoves 5 = .ok (.aload_n 0, 1) := by decide +kernel
theorem dX3_fewestMoves_6 : decode cX3_fewestMoves 6 = .ok (.invokevirtual 113, 3) := by decide +kernel
theorem dX3_fewestMoves_9 : decode cX3_fewestMoves 9 = .ok (.aload_n 0, 1) := by decide +kernel
theorem dX3_fewestMoves_10 : decode cX3_fewestMoves 10 = .ok (.getfield 99, 3) := by decide +kernel
theorem dX3_fewestMoves_13 : decode cX3_fewestMoves 13 = .ok (.ifCond .ge 7, 3) := by decide +kernel
theorem dX3_fewestMoves_16 : decode cX3_fewestMoves 16 = .ok (.iconst (-1), 1) := by decide +kernel
theorem dX3_fewestMoves_17 : decode cX3_fewestMoves 17 = .ok (.goto 12, 3) := by decide +kernel
theorem dX3_fewestMoves_20 : decode cX3_fewestMoves 20 = .ok (.aload_n 0, 1) := by decide +kernel
theorem dX3_fewestMoves_21 : decode cX3_fewestMoves 21 = .ok (.getfield 41, 3) := by decide +kernel
theorem dX3_fewestMoves_24 : decode cX3_fewestMoves 24 = .ok (.aload_n 0, 1) := by decide +kernel
theorem dX3_fewestMoves_25 : decode cX3_fewestMoves 25 = .ok (.getfield 99, 3) := by decide +kernel
theorem dX3_fewestMoves_28 : decode cX3_fewestMoves 28 = .ok (.iaload, 1) := by decide +kernel
theorem dX3_fewestMoves_29 : decode cX3_fewestMoves 29 = .ok (.ireturn, 1) := by decide +kernel
theorem dX3_firstMoveTo_0 : decode cX3_firstMoveTo 0 = .ok (.iload_n 1, 1) := by decide +kernel
theorem dX3_firstMoveTo_1 : decode cX3_firstMoveTo 1 = .ok (.istore_n 2, 1) := by decide +kernel
theorem dX3_firstMoveTo_2 : decode cX3_firstMoveTo 2 = .ok (.aload_n 0, 1) := by decide +kernel
theorem dX3_firstMoveTo_3 : decode cX3_firstMoveTo 3 = .ok (.getfield 35, 3) := by decide +kernel
theorem dX3_firstMoveTo_6 : decode cX3_firstMoveTo 6 = .ok (.iload_n 2, 1) := by decide +kernel
theorem dX3_firstMoveTo_7 : decode cX3_firstMoveTo 7 = .ok (.iaload, 1) := by decide +kernel
theorem dX3_firstMoveTo_8 : decode cX3_firstMoveTo 8 = .ok (.ifCond .le 13, 3) := by decide +kernel
theorem dX3_firstMoveTo_11 : decode cX3_firstMoveTo 11 = .ok (.aload_n 0, 1) := by decide +kernel
theorem dX3_firstMoveTo_12 : decode cX3_firstMoveTo 12 = .ok (.getfield 35, 3) := by decide +kernel
theorem dX3_firstMoveTo_15 : decode cX3_firstMoveTo 15 = .ok (.iload_n 2, 1) := by decide +kernel
theorem dX3_firstMoveTo_16 : decode cX3_firstMoveTo 16 = .ok (.iaload, 1) := by decide +kernel
theorem dX3_firstMoveTo_17 : decode cX3_firstMoveTo 17 = .ok (.istore_n 2, 1) := by decide +kernel
theorem dX3_firstMoveTo_18 : decode cX3_firstMoveTo 18 = .ok (.goto (-16), 3) := by decide +kernel
theorem dX3_firstMoveTo_21 : decode cX3_firstMoveTo 21 = .ok (.aload_n 0, 1) := by decide +kernel
theorem dX3_firstMoveTo_22 : decode cX3_firstMoveTo 22 = .ok (.getfield 38, 3) := by decide +kernel
theorem dX3_firstMoveTo_25 : decode cX3_firstMoveTo 25 = .ok (.iload_n 2, 1) := by decide +kernel
theorem dX3_firstMoveTo_26 : decode cX3_firstMoveTo 26 = .ok (.iaload, 1) := by decide +kernel
theorem dX3_firstMoveTo_27 : decode cX3_firstMoveTo 27 = .ok (.ireturn, 1) := by decide +kernel
set_option maxRecDepth 20000 in
theorem ggX3_hint_X3_looks : GoodIn wsX3_hint wsX3_looks := goodIn_r _ [7, 8, 9, 10, 11, 12, 2, 13, 14, 15, 16, 6, 17, 18, 19, 20, 21, 22, 23, 24, 25, 26, 27, 28, 29, 30, 31, 32, 33, 34, 35, 36, 37, 38, 39, 40, 41, 42, 43, 44, 45, 46, 47, 48, 49, 50, 51, 52, 53, 54, 55, 56, 57, 58, 63, 64, 65, 66, 67, 68, 69, 70, 71, 72, 73, 74, 75, 76, 77, 78, 79, 80, 81] (by decide +kernel) (by decide +kernel)
set_option maxRecDepth 20000 in
theorem gX3_hint_X3_looks : GoodIn wsX3_hint (wsV RX3 113 RX3 yX3_looks wsX3_looks) := goodIn_app (goodIn_of _ (by decide +kernel)) ggX3_hint_X3_looks
set_option maxRecDepth 20000 in
theorem ggX3_hint_X3_firstMoveTo : GoodIn wsX3_hint wsX3_firstMoveTo := goodIn_r _ [62, 18, 19, 63, 64, 65, 66, 67, 68, 69, 70, 71, 72, 73, 74, 75, 76, 77, 78, 79, 80, 81] (by decide +kernel) (by decide +kernel)
set_option maxRecDepth 20000 in
theorem gX3_hint_X3_firstMoveTo : GoodIn wsX3_hint (wsV RX3 116 RX3 yX3_firstMoveTo wsX3_firstMoveTo) := goodIn_app (goodIn_of _ (by decide +kernel)) ggX3_hint_X3_firstMoveTo
theorem dX3_hint_0 : decode cX3_hint 0 = .ok (.aload_n 0, 1) := by decide +kernel
theorem dX3_hint_1 : decode cX3_hint 1 = .ok (.iconst 0, 1) := by decide +kernel
theorem dX3_hint_2 : decode cX3_hint 2 = .ok (.putfield 50, 3) := by decide +kernel
theorem dX3_hint_5 : decode cX3_hint 5 = .ok (.aload_n 0, 1) := by decide +kernel
theorem dX3_hint_6 : decode cX3_hint 6 = .ok (.invokevirtual 113, 3) := by decide +kernel
theorem dX3_hint_9 : decode cX3_hint 9 = .ok (.aload_n 0, 1) := by decide +kernel
theorem dX3_hint_10 : decode cX3_hint 10 = .ok (.getfield 99, 3) := by decide +kernel
theorem dX3_hint_13 : decode cX3_hint 13 = .ok (.ifCond .gt 7, 3) := by decide +kernel
theorem dX3_hint_16 : decode cX3_hint 16 = .ok (.iconst (-1), 1) := by decide +kernel
theorem dX3_hint_17 : decode cX3_hint 17 = .ok (.goto 11, 3) := by decide +kernel
theorem dX3_hint_20 : decode cX3_hint 20 = .ok (.aload_n 0, 1) := by decide +kernel
theorem dX3_hint_21 : decode cX3_hint 21 = .ok (.aload_n 0, 1) := by decide +kernel
theorem dX3_hint_22 : decode cX3_hint 22 = .ok (.getfield 99, 3) := by decide +kernel
theorem dX3_hint_25 : decode cX3_hint 25 = .ok (.invokevirtual 116, 3) := by decide +kernel
theorem dX3_hint_28 : decode cX3_hint 28 = .ok (.ireturn, 1) := by decide +kernel
set_option maxRecDepth 20000 in
theorem ggX3_solve_X3_looks : GoodIn wsX3_solve wsX3_looks := goodIn_r _ [10, 11, 12, 13, 14, 15, 2, 16, 17, 18, 19, 9, 20, 4, 5, 3, 21, 22, 23, 24, 25, 26, 27, 28, 29, 30, 31, 32, 33, 34, 35, 36, 37, 38, 39, 40, 41, 42, 43, 44, 45, 46, 47, 48, 49, 50, 51, 52, 53, 54, 55, 56, 57, 58, 65, 66, 67, 68, 69, 70, 71, 72, 73, 74, 75, 76, 77, 78, 79, 80, 81, 82, 83] (by decide +kernel) (by decide +kernel)
set_option maxRecDepth 20000 in
theorem gX3_solve_X3_looks : GoodIn wsX3_solve (wsV RX3 113 RX3 yX3_looks wsX3_looks) := goodIn_app (goodIn_of _ (by decide +kernel)) ggX3_solve_X3_looks
set_option maxRecDepth 20000 in
theorem ggX3_solve_X3_goes : GoodIn wsX3_solve wsX3_goes := goodIn_r _ [62, 14, 63, 64, 65, 66, 67, 68, 69, 70, 71, 72, 73, 74, 75, 76, 77, 78, 79, 80, 81, 82, 83] (by decide +kernel) (by decide +kernel)
set_option maxRecDepth 20000 in
theorem gX3_solve_X3_goes : GoodIn wsX3_solve (wsV RX3 84 RX3 yX3_goes wsX3_goes) := goodIn_app (goodIn_of _ (by decide +kernel)) ggX3_solve_X3_goes
theorem dX3_solve_0 : decode cX3_solve 0 = .ok (.aload_n 0, 1) := by decide +kernel
theorem dX3_solve_1 : decode cX3_solve 1 = .ok (.iconst 0, 1) := by decide +kernel
theorem dX3_solve_2 : decode cX3_solve 2 = .ok (.putfield 50, 3) := by decide +kernel
theorem dX3_solve_5 : decode cX3_solve 5 = .ok (.aload_n 0, 1) := by decide +kernel
theorem dX3_solve_6 : decode cX3_solve 6 = .ok (.invokevirtual 113, 3) := by decide +kernel
theorem dX3_solve_9 : decode cX3_solve 9 = .ok (.aload_n 0, 1) := by decide +kernel
theorem dX3_solve_10 : decode cX3_solve 10 = .ok (.getfield 99, 3) := by decide +kernel
theorem dX3_solve_13 : decode cX3_solve 13 = .ok (.ifCond .ge 5, 3) := by decide +kernel
theorem dX3_solve_16 : decode cX3_solve 16 = .ok (.iconst (-1), 1) := by decide +kernel
theorem dX3_solve_17 : decode cX3_solve 17 = .ok (.ireturn, 1) := by decide +kernel
theorem dX3_solve_18 : decode cX3_solve 18 = .ok (.aload_n 0, 1) := by decide +kernel
theorem dX3_solve_19 : decode cX3_solve 19 = .ok (.getfield 41, 3) := by decide +kernel
theorem dX3_solve_22 : decode cX3_solve 22 = .ok (.aload_n 0, 1) := by decide +kernel
theorem dX3_solve_23 : decode cX3_solve 23 = .ok (.getfield 99, 3) := by decide +kernel
theorem dX3_solve_26 : decode cX3_solve 26 = .ok (.iaload, 1) := by decide +kernel
theorem dX3_solve_27 : decode cX3_solve 27 = .ok (.istore_n 1, 1) := by decide +kernel
theorem dX3_solve_28 : decode cX3_solve 28 = .ok (.iconst 0, 1) := by decide +kernel
theorem dX3_solve_29 : decode cX3_solve 29 = .ok (.istore_n 2, 1) := by decide +kernel
theorem dX3_solve_30 : decode cX3_solve 30 = .ok (.iload_n 2, 1) := by decide +kernel
theorem dX3_solve_31 : decode cX3_solve 31 = .ok (.iload_n 1, 1) := by decide +kernel
theorem dX3_solve_32 : decode cX3_solve 32 = .ok (.if_icmp .ge 60, 3) := by decide +kernel
theorem dX3_solve_35 : decode cX3_solve 35 = .ok (.aload_n 0, 1) := by decide +kernel
theorem dX3_solve_36 : decode cX3_solve 36 = .ok (.getfield 99, 3) := by decide +kernel
theorem dX3_solve_39 : decode cX3_solve 39 = .ok (.istore_n 3, 1) := by decide +kernel
theorem dX3_solve_40 : decode cX3_solve 40 = .ok (.aload_n 0, 1) := by decide +kernel
theorem dX3_solve_41 : decode cX3_solve 41 = .ok (.getfield 41, 3) := by decide +kernel
theorem dX3_solve_44 : decode cX3_solve 44 = .ok (.iload_n 3, 1) := by decide +kernel
theorem dX3_solve_45 : decode cX3_solve 45 = .ok (.iaload, 1) := by decide +kernel
theorem dX3_solve_46 : decode cX3_solve 46 = .ok (.iload_n 2, 1) := by decide +kernel
theorem dX3_solve_47 : decode cX3_solve 47 = .ok (.iconst 1, 1) := by decide +kernel
theorem dX3_solve_48 : decode cX3_solve 48 = .ok (.iadd, 1) := by decide +kernel
theorem dX3_solve_49 : decode cX3_solve 49 = .ok (.if_icmp .le 13, 3) := by decide +kernel
theorem dX3_solve_52 : decode cX3_solve 52 = .ok (.aload_n 0, 1) := by decide +kernel
theorem dX3_solve_53 : decode cX3_solve 53 = .ok (.getfield 35, 3) := by decide +kernel
theorem dX3_solve_56 : decode cX3_solve 56 = .ok (.iload_n 3, 1) := by decide +kernel
theorem dX3_solve_57 : decode cX3_solve 57 = .ok (.iaload, 1) := by decide +kernel
theorem dX3_solve_58 : decode cX3_solve 58 = .ok (.istore_n 3, 1) := by decide +kernel
theorem dX3_solve_59 : decode cX3_solve 59 = .ok (.goto (-19), 3) := by decide +kernel
theorem dX3_solve_62 : decode cX3_solve 62 = .ok (.aload_n 0, 1) := by decide +kernel
theorem dX3_solve_63 : decode cX3_solve 63 = .ok (.aload_n 0, 1) := by decide +kernel
theorem dX3_solve_64 : decode cX3_solve 64 = .ok (.getfield 38, 3) := by decide +kernel
theorem dX3_solve_67 : decode cX3_solve 67 = .ok (.iload_n 3, 1) := by decide +kernel
theorem dX3_solve_68 : decode cX3_solve 68 = .ok (.iaload, 1) := by decide +kernel
theorem dX3_solve_69 : decode cX3_solve 69 = .ok (.bipush 10, 2) := by decide +kernel
theorem dX3_solve_71 : decode cX3_solve 71 = .ok (.idiv, 1) := by decide +kernel
theorem dX3_solve_72 : decode cX3_solve 72 = .ok (.aload_n 0, 1) := by decide +kernel
theorem dX3_solve_73 : decode cX3_solve 73 = .ok (.getfield 38, 3) := by decide +kernel
theorem dX3_solve_76 : decode cX3_solve 76 = .ok (.iload_n 3, 1) := by decide +kernel
theorem dX3_solve_77 : decode cX3_solve 77 = .ok (.iaload, 1) := by decide +kernel
theorem dX3_solve_78 : decode cX3_solve 78 = .ok (.bipush 10, 2) := by decide +kernel
theorem dX3_solve_80 : decode cX3_solve 80 = .ok (.irem, 1) := by decide +kernel
theorem dX3_solve_81 : decode cX3_solve 81 = .ok (.iconst 4, 1) := by decide +kernel
theorem dX3_solve_82 : decode cX3_solve 82 = .ok (.isub, 1) := by decide +kernel
theorem dX3_solve_83 : decode cX3_solve 83 = .ok (.invokevirtual 84, 3) := by decide +kernel
theorem dX3_solve_86 : decode cX3_solve 86 = .ok (.iinc 2 1, 3) := by decide +kernel
theorem dX3_solve_89 : decode cX3_solve 89 = .ok (.goto (-59), 3) := by decide +kernel
theorem dX3_solve_92 : decode cX3_solve 92 = .ok (.iload_n 1, 1) := by decide +kernel
theorem dX3_solve_93 : decode cX3_solve 93 = .ok (.ireturn, 1) := by decide +kernel
set_option maxRecDepth 20000 in
theorem ggX3_canReach_X3_isVehicle : GoodIn wsX3_canReach wsX3_isVehicle := goodIn_r _ [8, 9, 1, 63, 64, 65, 66, 67, 68, 69, 70, 71, 72, 73, 74, 75, 76, 77, 78, 79, 80, 81] (by decide +kernel) (by decide +kernel)
set_option maxRecDepth 20000 in
theorem gX3_canReach_X3_isVehicle : GoodIn wsX3_canReach (wsV RX3 77 RX3 yX3_isVehicle wsX3_isVehicle) := goodIn_app (goodIn_of _ (by decide +kernel)) ggX3_canReach_X3_isVehicle
set_option maxRecDepth 20000 in
theorem ggX3_canReach_X3_isLine : GoodIn wsX3_canReach wsX3_isLine := goodIn_r _ [12] (by decide +kernel) (by decide +kernel)
set_option maxRecDepth 20000 in
theorem gX3_canReach_X3_isLine : GoodIn wsX3_canReach (va_wsS RX3 60 yX3_isLine wsX3_isLine) := goodIn_app (goodIn_of _ (by decide +kernel)) ggX3_canReach_X3_isLine
set_option maxRecDepth 20000 in
theorem ggX3_canReach_X3_looks : GoodIn wsX3_canReach wsX3_looks := goodIn_r _ [16, 17, 9, 18, 19, 2, 20, 3, 21, 22, 23, 7, 24, 25, 26, 27, 28, 29, 30, 31, 32, 33, 34, 35, 36, 37, 38, 39, 40, 41, 42, 43, 44, 45, 46, 47, 48, 49, 50, 51, 52, 53, 54, 55, 56, 57, 58, 59, 60, 61, 62, 10, 11, 12, 63, 64, 65, 66, 67, 68, 69, 70, 71, 72, 73, 74, 75, 76, 77, 78, 79, 80, 81] (by decide +kernel) (by decide +kernel)
set_option maxRecDepth 20000 in
theorem gX3_canReach_X3_looks : GoodIn wsX3_canReach (wsV RX3 113 RX3 yX3_looks wsX3_looks) := goodIn_app (goodIn_of _ (by decide +kernel)) ggX3_canReach_X3_looks
set_option maxRecDepth 20000 in
theorem ggX3_canReach_X3_digit : GoodIn wsX3_canReach wsX3_digit := goodIn_r _ [38] (by decide +kernel) (by decide +kernel)
set_option maxRecDepth 20000 in
theorem gX3_canReach_X3_digit : GoodIn wsX3_canReach (va_wsS RX3 105 yX3_digit wsX3_digit) := goodIn_app (goodIn_of _ (by decide +kernel)) ggX3_canReach_X3_digit
theorem dX3_canReach_0 : decode cX3_canReach 0 = .ok (.aload_n 0, 1) := by decide +kernel
theorem dX3_canReach_1 : decode cX3_canReach 1 = .ok (.iload_n 1, 1) := by decide +kernel
theorem dX3_canReach_2 : decode cX3_canReach 2 = .ok (.invokevirtual 77, 3) := by decide +kernel
theorem dX3_canReach_5 : decode cX3_canReach 5 = .ok (.ifCond .ne 5, 3) := by decide +kernel
theorem dX3_canReach_8 : decode cX3_canReach 8 = .ok (.iconst 0, 1) := by decide +kernel
theorem dX3_canReach_9 : decode cX3_canReach 9 = .ok (.ireturn, 1) := by decide +kernel
theorem dX3_canReach_10 : decode cX3_canReach 10 = .ok (.aload_n 0, 1) := by decide +kernel
theorem dX3_canReach_11 : decode cX3_canReach 11 = .ok (.iload_n 2, 1) := by decide +kernel
theorem dX3_canReach_12 : decode cX3_canReach 12 = .ok (.invokestatic 60, 3) := by decide +kernel
theorem dX3_canReach_15 : decode cX3_canReach 15 = .ok (.ifCond .eq 7, 3) := by decide +kernel
theorem dX3_canReach_18 : decode cX3_canReach 18 = .ok (.iconst 0, 1) := by decide +kernel
theorem dX3_canReach_19 : decode cX3_canReach 19 = .ok (.goto 4, 3) := by decide +kernel
theorem dX3_canReach_22 : decode cX3_canReach 22 = .ok (.iconst 2, 1) := by decide +kernel
theorem dX3_canReach_23 : decode cX3_canReach 23 = .ok (.putfield 50, 3) := by decide +kernel
theorem dX3_canReach_26 : decode cX3_canReach 26 = .ok (.aload_n 0, 1) := by decide +kernel
theorem dX3_canReach_27 : decode cX3_canReach 27 = .ok (.getfield 50, 3) := by decide +kernel
theorem dX3_canReach_30 : decode cX3_canReach 30 = .ok (.ifCond .eq 5, 3) := by decide +kernel
theorem dX3_canReach_33 : decode cX3_canReach 33 = .ok (.iconst 0, 1) := by decide +kernel
theorem dX3_canReach_34 : decode cX3_canReach 34 = .ok (.ireturn, 1) := by decide +kernel
theorem dX3_canReach_35 : decode cX3_canReach 35 = .ok (.aload_n 0, 1) := by decide +kernel
theorem dX3_canReach_36 : decode cX3_canReach 36 = .ok (.invokevirtual 113, 3) := by decide +kernel
theorem dX3_canReach_39 : decode cX3_canReach 39 = .ok (.iconst 0, 1) := by decide +kernel
theorem dX3_canReach_40 : decode cX3_canReach 40 = .ok (.istore_n 3, 1) := by decide +kernel
theorem dX3_canReach_41 : decode cX3_canReach 41 = .ok (.iconst 0, 1) := by decide +kernel
theorem dX3_canReach_42 : decode cX3_canReach 42 = .ok (.istore 4, 2) := by decide +kernel
theorem dX3_canReach_44 : decode cX3_canReach 44 = .ok (.iload 4, 2) := by decide +kernel
theorem dX3_canReach_46 : decode cX3_canReach 46 = .ok (.aload_n 0, 1) := by decide +kernel
theorem dX3_canReach_47 : decode cX3_canReach 47 = .ok (.getfield 96, 3) := by decide +kernel
theorem dX3_canReach_50 : decode cX3_canReach 50 = .ok (.if_icmp .ge 34, 3) := by decide +kernel
theorem dX3_canReach_53 : decode cX3_canReach 53 = .ok (.iload_n 3, 1) := by decide +kernel
theorem dX3_canReach_54 : decode cX3_canReach 54 = .ok (.ifCond .ne 18, 3) := by decide +kernel
theorem dX3_canReach_57 : decode cX3_canReach 57 = .ok (.aload_n 0, 1) := by decide +kernel
theorem dX3_canReach_58 : decode cX3_canReach 58 = .ok (.getfield 32, 3) := by decide +kernel
theorem dX3_canReach_61 : decode cX3_canReach 61 = .ok (.iload 4, 2) := by decide +kernel
theorem dX3_canReach_63 : decode cX3_canReach 63 = .ok (.iaload, 1) := by decide +kernel
theorem dX3_canReach_64 : decode cX3_canReach 64 = .ok (.iload_n 1, 1) := by decide +kernel
theorem dX3_canReach_65 : decode cX3_canReach 65 = .ok (.invokestatic 105, 3) := by decide +kernel
theorem dX3_canReach_68 : decode cX3_canReach 68 = .ok (.iload_n 2, 1) := by decide +kernel
theorem dX3_canReach_69 : decode cX3_canReach 69 = .ok (.if_icmp .ne 7, 3) := by decide +kernel
theorem dX3_canReach_72 : decode cX3_canReach 72 = .ok (.iconst 1, 1) := by decide +kernel
theorem dX3_canReach_73 : decode cX3_canReach 73 = .ok (.goto 4, 3) := by decide +kernel
theorem dX3_canReach_76 : decode cX3_canReach 76 = .ok (.iconst 0, 1) := by decide +kernel
theorem dX3_canReach_77 : decode cX3_canReach 77 = .ok (.istore_n 3, 1) := by decide +kernel
theorem dX3_canReach_78 : decode cX3_canReach 78 = .ok (.iinc 4 1, 3) := by decide +kernel
theorem dX3_canReach_81 : decode cX3_canReach 81 = .ok (.goto (-37), 3) := by decide +kernel
theorem dX3_canReach_84 : decode cX3_canReach 84 = .ok (.iload_n 3, 1) := by decide +kernel
theorem dX3_canReach_85 : decode cX3_canReach 85 = .ok (.ireturn, 1) := by decide +kernel
