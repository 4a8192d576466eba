set_option maxRecDepth 20000 in
theorem ggX4_init_X1_init : GoodIn wsX4_init wsX1_init := goodIn_r _ [34, 35, 2, 3, 9, 36, 37, 38, 39, 40, 26, 27, 41, 42, 43, 44, 45, 46, 47, 5, 48, 49, 50, 51, 52, 53, 54, 55, 101, 102, 103, 104, 105, 121, 122, 123, 124, 125, 126, 127, 128, 129, 130, 131] (by decide +kernel) (by decide +kernel)
set_option maxRecDepth 20000 in
theorem gX4_init_X1_init_n28 : GoodIn wsX4_init (wsX1_init) := ggX4_init_X1_init
set_option maxRecDepth 20000 in
theorem ggX4_init_X0_init : GoodIn wsX4_init wsX0_init := goodIn_r _ [58, 59, 2, 3, 5, 60, 61, 62, 63, 64, 65, 66, 67, 68, 106, 107, 108] (by decide +kernel) (by decide +kernel)
set_option maxRecDepth 20000 in
theorem gX4_init_X0_init : GoodIn wsX4_init (wsX0_init) := ggX4_init_X0_init
set_option maxRecDepth 20000 in
theorem ggX4_init_X2_init : GoodIn wsX4_init wsX2_init := goodIn_r _ [71, 72, 2, 3, 73, 74, 63, 75, 5, 76, 77, 78, 79, 80, 81, 82, 83, 84, 85, 86, 109, 110, 111, 112, 113, 114, 115, 116, 117, 118, 119, 120] (by decide +kernel) (by decide +kernel)
set_option maxRecDepth 20000 in
theorem gX4_init_X2_init : GoodIn wsX4_init (wsX2_init) := ggX4_init_X2_init
set_option maxRecDepth 20000 in
theorem ggX4_init_X3_init : GoodIn wsX4_init wsX3_init := goodIn_r _ [43, 44, 2, 3, 45, 46, 47, 5, 48, 49, 50, 51, 52, 53, 54, 55, 121, 122, 123, 124, 125, 126, 127, 128, 129, 130, 131] (by decide +kernel) (by decide +kernel)
set_option maxRecDepth 20000 in
theorem gX4_init_X3_init_n52 : GoodIn wsX4_init (wsX3_init) := ggX4_init_X3_init
set_option maxRecDepth 20000 in
theorem ggX4_init_J7_fill_53178 : GoodIn wsX4_init wsJ7_fill_53178 := goodIn_r _ [68] (by decide +kernel) (by decide +kernel)
set_option maxRecDepth 20000 in
theorem gX4_init_J7_fill_53178 : GoodIn wsX4_init (va_wsS RX4 71 yJ7_fill_53178 wsJ7_fill_53178) := goodIn_app (goodIn_of _ (by decide +kernel)) ggX4_init_J7_fill_53178
theorem dX4_init_0 : decode cX4_init 0 = .ok (.aload_n 0, 1) := by decide +kernel
theorem dX4_init_1 : decode cX4_init 1 = .ok (.invokespecial 3, 3) := by decide +kernel
theorem dX4_init_4 : decode cX4_init 4 = .ok (.aload_n 0, 1) := by decide +kernel
theorem dX4_init_5 : decode cX4_init 5 = .ok (.bipush 6, 2) := by decide +kernel
theorem dX4_init_7 : decode cX4_init 7 = .ok (.bipush 60, 2) := by decide +kernel
theorem dX4_init_9 : decode cX4_init 9 = .ok (.multianewarray 9 2, 4) := by decide +kernel
theorem dX4_init_13 : decode cX4_init 13 = .ok (.putfield 11, 3) := by decide +kernel
theorem dX4_init_16 : decode cX4_init 16 = .ok (.aload_n 0, 1) := by decide +kernel
theorem dX4_init_17 : decode cX4_init 17 = .ok (.bipush 6, 2) := by decide +kernel
theorem dX4_init_19 : decode cX4_init 19 = .ok (.newarray .int, 2) := by decide +kernel
theorem dX4_init_21 : decode cX4_init 21 = .ok (.putfield 14, 3) := by decide +kernel
theorem dX4_init_24 : decode cX4_init 24 = .ok (.aload_n 0, 1) := by decide +kernel
theorem dX4_init_25 : decode cX4_init 25 = .ok (.iconst 4, 1) := by decide +kernel
theorem dX4_init_26 : decode cX4_init 26 = .ok (.bipush 120, 2) := by decide +kernel
theorem dX4_init_28 : decode cX4_init 28 = .ok (.multianewarray 18 2, 4) := by decide +kernel
theorem dX4_init_32 : decode cX4_init 32 = .ok (.putfield 20, 3) := by decide +kernel
theorem dX4_init_35 : decode cX4_init 35 = .ok (.aload_n 0, 1) := by decide +kernel
theorem dX4_init_36 : decode cX4_init 36 = .ok (.iconst 4, 1) := by decide +kernel
theorem dX4_init_37 : decode cX4_init 37 = .ok (.newarray .int, 2) := by decide +kernel
theorem dX4_init_39 : decode cX4_init 39 = .ok (.putfield 23, 3) := by decide +kernel
theorem dX4_init_42 : decode cX4_init 42 = .ok (.aload_n 0, 1) := by decide +kernel
theorem dX4_init_43 : decode cX4_init 43 = .ok (.new 26, 3) := by decide +kernel
theorem dX4_init_46 : decode cX4_init 46 = .ok (.dup, 1) := by decide +kernel
theorem dX4_init_47 : decode cX4_init 47 = .ok (.invokespecial 28, 3) := by decide +kernel
theorem dX4_init_50 : decode cX4_init 50 = .ok (.putfield 29, 3) := by decide +kernel
theorem dX4_init_53 : decode cX4_init 53 = .ok (.aload_n 0, 1) := by decide +kernel
theorem dX4_init_54 : decode cX4_init 54 = .ok (.new 33, 3) := by decide +kernel
theorem dX4_init_57 : decode cX4_init 57 = .ok (.dup, 1) := by decide +kernel
theorem dX4_init_58 : decode cX4_init 58 = .ok (.invokespecial 35, 3) := by decide +kernel
theorem dX4_init_61 : decode cX4_init 61 = .ok (.putfield 36, 3) := by decide +kernel
theorem dX4_init_64 : decode cX4_init 64 = .ok (.aload_n 0, 1) := by decide +kernel
theorem dX4_init_65 : decode cX4_init 65 = .ok (.new 40, 3) := by decide +kernel
theorem dX4_init_68 : decode cX4_init 68 = .ok (.dup, 1) := by decide +kernel
theorem dX4_init_69 : decode cX4_init 69 = .ok (.invokespecial 42, 3) := by decide +kernel
theorem dX4_init_72 : decode cX4_init 72 = .ok (.putfield 43, 3) := by decide +kernel
theorem dX4_init_75 : decode cX4_init 75 = .ok (.aload_n 0, 1) := by decide +kernel
theorem dX4_init_76 : decode cX4_init 76 = .ok (.bipush 6, 2) := by decide +kernel
theorem dX4_init_78 : decode cX4_init 78 = .ok (.newarray .int, 2) := by decide +kernel
theorem dX4_init_80 : decode cX4_init 80 = .ok (.putfield 47, 3) := by decide +kernel
theorem dX4_init_83 : decode cX4_init 83 = .ok (.aload_n 0, 1) := by decide +kernel
theorem dX4_init_84 : decode cX4_init 84 = .ok (.new 50, 3) := by decide +kernel
theorem dX4_init_87 : decode cX4_init 87 = .ok (.dup, 1) := by decide +kernel
theorem dX4_init_88 : decode cX4_init 88 = .ok (.invokespecial 52, 3) := by decide +kernel
theorem dX4_init_91 : decode cX4_init 91 = .ok (.putfield 53, 3) := by decide +kernel
theorem dX4_init_94 : decode cX4_init 94 = .ok (.aload_n 0, 1) := by decide +kernel
theorem dX4_init_95 : decode cX4_init 95 = .ok (.iconst 0, 1) := by decide +kernel
theorem dX4_init_96 : decode cX4_init 96 = .ok (.putfield 57, 3) := by decide +kernel
theorem dX4_init_99 : decode cX4_init 99 = .ok (.aload_n 0, 1) := by decide +kernel
theorem dX4_init_100 : decode cX4_init 100 = .ok (.lconst 0, 1) := by decide +kernel
theorem dX4_init_101 : decode cX4_init 101 = .ok (.putfield 61, 3) := by decide +kernel
theorem dX4_init_104 : decode cX4_init 104 = .ok (.aload_n 0, 1) := by decide +kernel
theorem dX4_init_105 : decode cX4_init 105 = .ok (.lconst 1, 1) := by decide +kernel
theorem dX4_init_106 : decode cX4_init 106 = .ok (.putfield 65, 3) := by decide +kernel
theorem dX4_init_109 : decode cX4_init 109 = .ok (.aload_n 0, 1) := by decide +kernel
theorem dX4_init_110 : decode cX4_init 110 = .ok (.iconst 0, 1) := by decide +kernel
theorem dX4_init_111 : decode cX4_init 111 = .ok (.putfield 68, 3) := by decide +kernel
theorem dX4_init_114 : decode cX4_init 114 = .ok (.aload_n 0, 1) := by decide +kernel
theorem dX4_init_115 : decode cX4_init 115 = .ok (.getfield 14, 3) := by decide +kernel
theorem dX4_init_118 : decode cX4_init 118 = .ok (.iconst (-1), 1) := by decide +kernel
theorem dX4_init_119 : decode cX4_init 119 = .ok (.invokestatic 71, 3) := by decide +kernel
theorem dX4_init_122 : decode cX4_init 122 = .ok (.aload_n 0, 1) := by decide +kernel
theorem dX4_init_123 : decode cX4_init 123 = .ok (.getfield 23, 3) := by decide +kernel
theorem dX4_init_126 : decode cX4_init 126 = .ok (.iconst (-1), 1) := by decide +kernel
theorem dX4_init_127 : decode cX4_init 127 = .ok (.invokestatic 71, 3) := by decide +kernel
theorem dX4_init_130 : decode cX4_init 130 = .ok (.return_, 1) := by decide +kernel
set_option maxRecDepth 20000 in
theorem ggX4_row_X4_isRow : GoodIn wsX4_row wsX4_isRow := goodIn_r _ [4] (by decide +kernel) (by decide +kernel)
set_option maxRecDepth 20000 in
theorem gX4_row_X4_isRow : GoodIn wsX4_row (va_wsS RX4 77 yX4_isRow wsX4_isRow) := goodIn_app (goodIn_of _ (by decide +kernel)) ggX4_row_X4_isRow
set_option maxRecDepth 20000 in
theorem ggX4_row_X4_find : GoodIn wsX4_row wsX4_find := goodIn_r _ [8, 9, 10, 21, 22, 23, 24, 25, 26, 27, 28, 29, 30, 31, 32, 33] (by decide +kernel) (by decide +kernel)
set_option maxRecDepth 20000 in
theorem gX4_row_X4_find : GoodIn wsX4_row (wsV RX4 81 RX4 yX4_find wsX4_find) := goodIn_app (goodIn_of _ (by decide +kernel)) ggX4_row_X4_find
set_option maxRecDepth 20000 in
theorem ggX4_row_X4_layOutRow : GoodIn wsX4_row wsX4_layOutRow := goodIn_r _ [14, 15, 16, 17, 18, 19, 20, 21, 22, 23, 24, 25, 26, 27, 28, 29, 30, 31, 32, 33] (by decide +kernel) (by decide +kernel)
set_option maxRecDepth 20000 in
theorem gX4_row_X4_layOutRow : GoodIn wsX4_row (wsV RX4 85 RX4 yX4_layOutRow wsX4_layOutRow) := goodIn_app (goodIn_of _ (by decide +kernel)) ggX4_row_X4_layOutRow
theorem dX4_row_0 : decode cX4_row 0 = .ok (.iload_n 1, 1) := by decide +kernel
theorem dX4_row_1 : decode cX4_row 1 = .ok (.invokestatic 77, 3) := by decide +kernel
theorem dX4_row_4 : decode cX4_row 4 = .ok (.ifCond .eq 9, 3) := by decide +kernel
theorem dX4_row_7 : decode cX4_row 7 = .ok (.iload_n 2, 1) := by decide +kernel
theorem dX4_row_8 : decode cX4_row 8 = .ok (.bipush 60, 2) := by decide +kernel
theorem dX4_row_10 : decode cX4_row 10 = .ok (.if_icmp .le 5, 3) := by decide +kernel
theorem dX4_row_13 : decode cX4_row 13 = .ok (.iconst (-1), 1) := by decide +kernel
theorem dX4_row_14 : decode cX4_row 14 = .ok (.ireturn, 1) := by decide +kernel
theorem dX4_row_15 : decode cX4_row 15 = .ok (.iload_n 2, 1) := by decide +kernel
theorem dX4_row_16 : decode cX4_row 16 = .ok (.ifCond .ge 9, 3) := by decide +kernel
theorem dX4_row_19 : decode cX4_row 19 = .ok (.aload_n 0, 1) := by decide +kernel
theorem dX4_row_20 : decode cX4_row 20 = .ok (.iconst 5, 1) := by decide +kernel
theorem dX4_row_21 : decode cX4_row 21 = .ok (.invokevirtual 81, 3) := by decide +kernel
theorem dX4_row_24 : decode cX4_row 24 = .ok (.ireturn, 1) := by decide +kernel
theorem dX4_row_25 : decode cX4_row 25 = .ok (.aload_n 0, 1) := by decide +kernel
theorem dX4_row_26 : decode cX4_row 26 = .ok (.iload_n 1, 1) := by decide +kernel
theorem dX4_row_27 : decode cX4_row 27 = .ok (.iload_n 2, 1) := by decide +kernel
theorem dX4_row_28 : decode cX4_row 28 = .ok (.iconst 0, 1) := by decide +kernel
theorem dX4_row_29 : decode cX4_row 29 = .ok (.invokevirtual 85, 3) := by decide +kernel
theorem dX4_row_32 : decode cX4_row 32 = .ok (.iload_n 2, 1) := by decide +kernel
theorem dX4_row_33 : decode cX4_row 33 = .ok (.ireturn, 1) := by decide +kernel
set_option maxRecDepth 20000 in
theorem ggX4_lay_X4_refusePlace : GoodIn wsX4_lay wsX4_refusePlace := goodIn_r _ [7, 8, 9, 10, 6, 11, 12, 13, 14, 15, 16, 17, 18, 19, 20, 21, 22, 23, 24, 25, 26, 27, 28, 29, 30, 31, 32, 33] (by decide +kernel) (by decide +kernel)
set_option maxRecDepth 20000 in
theorem gX4_lay_X4_refusePlace : GoodIn wsX4_lay (wsV RX4 89 RX4 yX4_refusePlace wsX4_refusePlace) := goodIn_app (goodIn_of _ (by decide +kernel)) ggX4_lay_X4_refusePlace
theorem dX4_lay_0 : decode cX4_lay 0 = .ok (.aload_n 0, 1) := by decide +kernel
theorem dX4_lay_1 : decode cX4_lay 1 = .ok (.iload_n 1, 1) := by decide +kernel
theorem dX4_lay_2 : decode cX4_lay 2 = .ok (.iload_n 2, 1) := by decide +kernel
theorem dX4_lay_3 : decode cX4_lay 3 = .ok (.invokevirtual 89, 3) := by decide +kernel
theorem dX4_lay_6 : decode cX4_lay 6 = .ok (.istore 4, 2) := by decide +kernel
theorem dX4_lay_8 : decode cX4_lay 8 = .ok (.iload 4, 2) := by decide +kernel
theorem dX4_lay_10 : decode cX4_lay 10 = .ok (.ifCond .eq 6, 3) := by decide +kernel
theorem dX4_lay_13 : decode cX4_lay 13 = .ok (.iload 4, 2) := by decide +kernel
theorem dX4_lay_15 : decode cX4_lay 15 = .ok (.ireturn, 1) := by decide +kernel
theorem dX4_lay_16 : decode cX4_lay 16 = .ok (.aload_n 0, 1) := by decide +kernel
theorem dX4_lay_17 : decode cX4_lay 17 = .ok (.aload_n 0, 1) := by decide +kernel
theorem dX4_lay_18 : decode cX4_lay 18 = .ok (.getfield 11, 3) := by decide +kernel
theorem dX4_lay_21 : decode cX4_lay 21 = .ok (.iload_n 1, 1) := by decide +kernel
theorem dX4_lay_22 : decode cX4_lay 22 = .ok (.aaload, 1) := by decide +kernel
theorem dX4_lay_23 : decode cX4_lay 23 = .ok (.iload_n 2, 1) := by decide +kernel
theorem dX4_lay_24 : decode cX4_lay 24 = .ok (.iaload, 1) := by decide +kernel
theorem dX4_lay_25 : decode cX4_lay 25 = .ok (.putfield 57, 3) := by decide +kernel
theorem dX4_lay_28 : decode cX4_lay 28 = .ok (.aload_n 0, 1) := by decide +kernel
theorem dX4_lay_29 : decode cX4_lay 29 = .ok (.getfield 11, 3) := by decide +kernel
theorem dX4_lay_32 : decode cX4_lay 32 = .ok (.iload_n 1, 1) := by decide +kernel
theorem dX4_lay_33 : decode cX4_lay 33 = .ok (.aaload, 1) := by decide +kernel
theorem dX4_lay_34 : decode cX4_lay 34 = .ok (.iload_n 2, 1) := by decide +kernel
theorem dX4_lay_35 : decode cX4_lay 35 = .ok (.iload_n 3, 1) := by decide +kernel
theorem dX4_lay_36 : decode cX4_lay 36 = .ok (.iastore, 1) := by decide +kernel
theorem dX4_lay_37 : decode cX4_lay 37 = .ok (.iconst 1, 1) := by decide +kernel
theorem dX4_lay_38 : decode cX4_lay 38 = .ok (.ireturn, 1) := by decide +kernel
set_option maxRecDepth 20000 in
theorem ggX4_at_X4_refusePlace : GoodIn wsX4_at wsX4_refusePlace := goodIn_r _ [7, 8, 9, 10, 6, 11, 12, 13, 14, 15, 16, 17, 18, 19, 20, 21, 22, 23, 24, 25, 26, 27, 28, 29, 30, 31, 32, 33] (by decide +kernel) (by decide +kernel)
set_option maxRecDepth 20000 in
theorem gX4_at_X4_refusePlace : GoodIn wsX4_at (wsV RX4 89 RX4 yX4_refusePlace wsX4_refusePlace) := goodIn_app (goodIn_of _ (by decide +kernel)) ggX4_at_X4_refusePlace
theorem dX4_at_0 : decode cX4_at 0 = .ok (.aload_n 0, 1) := by decide +kernel
theorem dX4_at_1 : decode cX4_at 1 = .ok (.iload_n 1, 1) := by decide +kernel
theorem dX4_at_2 : decode cX4_at 2 = .ok (.iload_n 2, 1) := by decide +kernel
theorem dX4_at_3 : decode cX4_at 3 = .ok (.invokevirtual 89, 3) := by decide +kernel
theorem dX4_at_6 : decode cX4_at 6 = .ok (.istore_n 3, 1) := by decide +kernel
theorem dX4_at_7 : decode cX4_at 7 = .ok (.iload_n 3, 1) := by decide +kernel
theorem dX4_at_8 : decode cX4_at 8 = .ok (.ifCond .eq 5, 3) := by decide +kernel
theorem dX4_at_11 : decode cX4_at 11 = .ok (.iload_n 3, 1) := by decide +kernel
theorem dX4_at_12 : decode cX4_at 12 = .ok (.ireturn, 1) := by decide +kernel
theorem dX4_at_13 : decode cX4_at 13 = .ok (.aload_n 0, 1) := by decide +kernel
theorem dX4_at_14 : decode cX4_at 14 = .ok (.aload_n 0, 1) := by decide +kernel
theorem dX4_at_15 : decode cX4_at 15 = .ok (.getfield 11, 3) := by decide +kernel
theorem dX4_at_18 : decode cX4_at 18 = .ok (.iload_n 1, 1) := by decide +kernel
theorem dX4_at_19 : decode cX4_at 19 = .ok (.aaload, 1) := by decide +kernel
theorem dX4_at_20 : decode cX4_at 20 = .ok (.iload_n 2, 1) := by decide +kernel
theorem dX4_at_21 : decode cX4_at 21 = .ok (.iaload, 1) := by decide +kernel
theorem dX4_at_22 : decode cX4_at 22 = .ok (.putfield 57, 3) := by decide +kernel
theorem dX4_at_25 : decode cX4_at 25 = .ok (.iconst 1, 1) := by decide +kernel
theorem dX4_at_26 : decode cX4_at 26 = .ok (.ireturn, 1) := by decide +kernel
set_option maxRecDepth 20000 in
theorem ggX4_tear_X4_isRow : GoodIn wsX4_tear wsX4_isRow := goodIn_r _ [5] (by decide +kernel) (by decide +kernel)
set_option maxRecDepth 20000 in
theorem gX4_tear_X4_isRow : GoodIn wsX4_tear (va_wsS RX4 77 yX4_isRow wsX4_isRow) := goodIn_app (goodIn_of _ (by decide +kernel)) ggX4_tear_X4_isRow
set_option maxRecDepth 20000 in
theorem ggX4_tear_X4_find : GoodIn wsX4_tear wsX4_find := goodIn_r _ [9, 10, 11, 12, 13, 14, 15, 16, 17, 18, 19, 20, 21, 22, 23, 24] (by decide +kernel) (by decide +kernel)
set_option maxRecDepth 20000 in
theorem gX4_tear_X4_find : GoodIn wsX4_tear (wsV RX4 81 RX4 yX4_find wsX4_find) := goodIn_app (goodIn_of _ (by decide +kernel)) ggX4_tear_X4_find
theorem dX4_tear_0 : decode cX4_tear 0 = .ok (.iload_n 1, 1) := by decide +kernel
theorem dX4_tear_1 : decode cX4_tear 1 = .ok (.invokestatic 77, 3) := by decide +kernel
theorem dX4_tear_4 : decode cX4_tear 4 = .ok (.ifCond .ne 5, 3) := by decide +kernel
theorem dX4_tear_7 : decode cX4_tear 7 = .ok (.iconst (-1), 1) := by decide +kernel
theorem dX4_tear_8 : decode cX4_tear 8 = .ok (.ireturn, 1) := by decide +kernel
theorem dX4_tear_9 : decode cX4_tear 9 = .ok (.aload_n 0, 1) := by decide +kernel
theorem dX4_tear_10 : decode cX4_tear 10 = .ok (.getfield 14, 3) := by decide +kernel
theorem dX4_tear_13 : decode cX4_tear 13 = .ok (.iload_n 1, 1) := by decide +kernel
theorem dX4_tear_14 : decode cX4_tear 14 = .ok (.iaload, 1) := by decide +kernel
theorem dX4_tear_15 : decode cX4_tear 15 = .ok (.iconst (-1), 1) := by decide +kernel
theorem dX4_tear_16 : decode cX4_tear 16 = .ok (.if_icmp .ne 9, 3) := by decide +kernel
theorem dX4_tear_19 : decode cX4_tear 19 = .ok (.aload_n 0, 1) := by decide +kernel
theorem dX4_tear_20 : decode cX4_tear 20 = .ok (.iconst 1, 1) := by decide +kernel
theorem dX4_tear_21 : decode cX4_tear 21 = .ok (.invokevirtual 81, 3) := by decide +kernel
theorem dX4_tear_24 : decode cX4_tear 24 = .ok (.ireturn, 1) := by decide +kernel
theorem dX4_tear_25 : decode cX4_tear 25 = .ok (.aload_n 0, 1) := by decide +kernel
theorem dX4_tear_26 : decode cX4_tear 26 = .ok (.getfield 14, 3) := by decide +kernel
theorem dX4_tear_29 : decode cX4_tear 29 = .ok (.iload_n 1, 1) := by decide +kernel
theorem dX4_tear_30 : decode cX4_tear 30 = .ok (.iconst (-1), 1) := by decide +kernel
theorem dX4_tear_31 : decode cX4_tear 31 = .ok (.iastore, 1) := by decide +kernel
theorem dX4_tear_32 : decode cX4_tear 32 = .ok (.iconst 1, 1) := by decide +kernel
theorem dX4_tear_33 : decode cX4_tear 33 = .ok (.ireturn, 1) := by decide +kernel
set_option maxRecDepth 20000 in
theorem ggX4_copy_X4_isRow : GoodIn wsX4_copy wsX4_isRow := goodIn_r _ [10] (by decide +kernel) (by decide +kernel)
set_option maxRecDepth 20000 in
theorem gX4_copy_X4_isRow : GoodIn wsX4_copy (va_wsS RX4 77 yX4_isRow wsX4_isRow) := goodIn_app (goodIn_of _ (by decide +kernel)) ggX4_copy_X4_isRow
set_option maxRecDepth 20000 in
theorem ggX4_copy_X4_find : GoodIn wsX4_copy wsX4_find := goodIn_r _ [14, 15, 16, 20, 21, 22, 23, 24, 25, 26, 27, 28, 29, 30, 31, 32] (by decide +kernel) (by decide +kernel)
set_option maxRecDepth 20000 in
theorem gX4_copy_X4_find : GoodIn wsX4_copy (wsV RX4 81 RX4 yX4_find wsX4_find) := goodIn_app (goodIn_of _ (by decide +kernel)) ggX4_copy_X4_find
set_option maxRecDepth 20000 in
theorem ggX4_copy_X4_hasPlaces : GoodIn wsX4_copy wsX4_hasPlaces := goodIn_r _ [19] (by decide +kernel) (by decide +kernel)
set_option maxRecDepth 20000 in
theorem gX4_copy_X4_hasPlaces : GoodIn wsX4_copy (va_wsS RX4 93 yX4_hasPlaces wsX4_hasPlaces) := goodIn_app (goodIn_of _ (by decide +kernel)) ggX4_copy_X4_hasPlaces
theorem dX4_copy_0 : decode cX4_copy 0 = .ok (.iload_n 1, 1) := by decide +kernel
theorem dX4_copy_1 : decode cX4_copy 1 = .ok (.invokestatic 77, 3) := by decide +kernel
theorem dX4_copy_4 : decode cX4_copy 4 = .ok (.ifCond .eq 10, 3) := by decide +kernel
theorem dX4_copy_7 : decode cX4_copy 7 = .ok (.iload_n 3, 1) := by decide +kernel
theorem dX4_copy_8 : decode cX4_copy 8 = .ok (.invokestatic 77, 3) := by decide +kernel
theorem dX4_copy_11 : decode cX4_copy 11 = .ok (.ifCond .ne 5, 3) := by decide +kernel
theorem dX4_copy_14 : decode cX4_copy 14 = .ok (.iconst (-1), 1) := by decide +kernel
theorem dX4_copy_15 : decode cX4_copy 15 = .ok (.ireturn, 1) := by decide +kernel
theorem dX4_copy_16 : decode cX4_copy 16 = .ok (.iload 5, 2) := by decide +kernel
theorem dX4_copy_18 : decode cX4_copy 18 = .ok (.ifCond .ge 9, 3) := by decide +kernel
theorem dX4_copy_21 : decode cX4_copy 21 = .ok (.aload_n 0, 1) := by decide +kernel
theorem dX4_copy_22 : decode cX4_copy 22 = .ok (.iconst 5, 1) := by decide +kernel
theorem dX4_copy_23 : decode cX4_copy 23 = .ok (.invokevirtual 81, 3) := by decide +kernel
theorem dX4_copy_26 : decode cX4_copy 26 = .ok (.ireturn, 1) := by decide +kernel
theorem dX4_copy_27 : decode cX4_copy 27 = .ok (.aload_n 0, 1) := by decide +kernel
theorem dX4_copy_28 : decode cX4_copy 28 = .ok (.getfield 14, 3) := by decide +kernel
theorem dX4_copy_31 : decode cX4_copy 31 = .ok (.iload_n 1, 1) := by decide +kernel
theorem dX4_copy_32 : decode cX4_copy 32 = .ok (.iaload, 1) := by decide +kernel
theorem dX4_copy_33 : decode cX4_copy 33 = .ok (.iconst (-1), 1) := by decide +kernel
theorem dX4_copy_34 : decode cX4_copy 34 = .ok (.if_icmp .eq 13, 3) := by decide +kernel
theorem dX4_copy_37 : decode cX4_copy 37 = .ok (.aload_n 0, 1) := by decide +kernel
theorem dX4_copy_38 : decode cX4_copy 38 = .ok (.getfield 14, 3) := by decide +kernel
theorem dX4_copy_41 : decode cX4_copy 41 = .ok (.iload_n 3, 1) := by decide +kernel
theorem dX4_copy_42 : decode cX4_copy 42 = .ok (.iaload, 1) := by decide +kernel
theorem dX4_copy_43 : decode cX4_copy 43 = .ok (.iconst (-1), 1) := by decide +kernel
theorem dX4_copy_44 : decode cX4_copy 44 = .ok (.if_icmp .ne 9, 3) := by decide +kernel
theorem dX4_copy_47 : decode cX4_copy 47 = .ok (.aload_n 0, 1) := by decide +kernel
theorem dX4_copy_48 : decode cX4_copy 48 = .ok (.iconst 1, 1) := by decide +kernel
theorem dX4_copy_49 : decode cX4_copy 49 = .ok (.invokevirtual 81, 3) := by decide +kernel
theorem dX4_copy_52 : decode cX4_copy 52 = .ok (.ireturn, 1) := by decide +kernel
theorem dX4_copy_53 : decode cX4_copy 53 = .ok (.aload_n 0, 1) := by decide +kernel
theorem dX4_copy_54 : decode cX4_copy 54 = .ok (.getfield 14, 3) := by decide +kernel
theorem dX4_copy_57 : decode cX4_copy 57 = .ok (.iload_n 1, 1) := by decide +kernel
theorem dX4_copy_58 : decode cX4_copy 58 = .ok (.iaload, 1) := by decide +kernel
theorem dX4_copy_59 : decode cX4_copy 59 = .ok (.iload_n 2, 1) := by decide +kernel
theorem dX4_copy_60 : decode cX4_copy 60 = .ok (.iload 5, 2) := by decide +kernel
theorem dX4_copy_62 : decode cX4_copy 62 = .ok (.invokestatic 93, 3) := by decide +kernel
theorem dX4_copy_65 : decode cX4_copy 65 = .ok (.ifCond .eq 19, 3) := by decide +kernel
theorem dX4_copy_68 : decode cX4_copy 68 = .ok (.aload_n 0, 1) := by decide +kernel
theorem dX4_copy_69 : decode cX4_copy 69 = .ok (.getfield 14, 3) := by decide +kernel
theorem dX4_copy_72 : decode cX4_copy 72 = .ok (.iload_n 3, 1) := by decide +kernel
theorem dX4_copy_73 : decode cX4_copy 73 = .ok (.iaload, 1) := by decide +kernel
theorem dX4_copy_74 : decode cX4_copy 74 = .ok (.iload 4, 2) := by decide +kernel
theorem dX4_copy_76 : decode cX4_copy 76 = .ok (.iload 5, 2) := by decide +kernel
theorem dX4_copy_78 : decode cX4_copy 78 = .ok (.invokestatic 93, 3) := by decide +kernel
theorem dX4_copy_81 : decode cX4_copy 81 = .ok (.ifCond .ne 9, 3) := by decide +kernel
theorem dX4_copy_84 : decode cX4_copy 84 = .ok (.aload_n 0, 1) := by decide +kernel
theorem dX4_copy_85 : decode cX4_copy 85 = .ok (.iconst 2, 1) := by decide +kernel
theorem dX4_copy_86 : decode cX4_copy 86 = .ok (.invokevirtual 81, 3) := by decide +kernel
theorem dX4_copy_89 : decode cX4_copy 89 = .ok (.ireturn, 1) := by decide +kernel
theorem dX4_copy_90 : decode cX4_copy 90 = .ok (.aload_n 0, 1) := by decide +kernel
theorem dX4_copy_91 : decode cX4_copy 91 = .ok (.getfield 11, 3) := by decide +kernel
theorem dX4_copy_94 : decode cX4_copy 94 = .ok (.iload_n 1, 1) := by decide +kernel
theorem dX4_copy_95 : decode cX4_copy 95 = .ok (.aaload, 1) := by decide +kernel
theorem dX4_copy_96 : decode cX4_copy 96 = .ok (.iload_n 2, 1) := by decide +kernel
theorem dX4_copy_97 : decode cX4_copy 97 = .ok (.aload_n 0, 1) := by decide +kernel
theorem dX4_copy_98 : decode cX4_copy 98 = .ok (.getfield 11, 3) := by decide +kernel
theorem dX4_copy_101 : decode cX4_copy 101 = .ok (.iload_n 3, 1) := by decide +kernel
theorem dX4_copy_102 : decode cX4_copy 102 = .ok (.aaload, 1) := by decide +kernel
theorem dX4_copy_103 : decode cX4_copy 103 = .ok (.iload 4, 2) := by decide +kernel
theorem dX4_copy_105 : decode cX4_copy 105 = .ok (.iload 5, 2) := by decide +kernel
theorem dX4_copy_107 : decode cX4_copy 107 = .ok (.invokestatic 97, 3) := by decide +kernel
theorem dX4_copy_110 : decode cX4_copy 110 = .ok (.iconst 1, 1) := by decide +kernel
theorem dX4_copy_111 : decode cX4_copy 111 = .ok (.ireturn, 1) := by decide +kernel
set_option maxRecDepth 20000 in
theorem ggX4_mean_X4_isRow : GoodIn wsX4_mean wsX4_isRow := goodIn_r _ [7] (by decide +kernel) (by decide +kernel)
set_option maxRecDepth 20000 in
theorem gX4_mean_X4_isRow : GoodIn wsX4_mean (va_wsS RX4 77 yX4_isRow wsX4_isRow) := goodIn_app (goodIn_of _ (by decide +kernel)) ggX4_mean_X4_isRow
set_option maxRecDepth 20000 in
theorem ggX4_mean_X4_find : GoodIn wsX4_mean wsX4_find := goodIn_r _ [11, 12, 13, 14, 15, 16, 17, 18, 19, 20, 21, 22, 23, 24, 25, 26] (by decide +kernel) (by decide +kernel)
set_option maxRecDepth 20000 in
theorem gX4_mean_X4_find : GoodIn wsX4_mean (wsV RX4 81 RX4 yX4_find wsX4_find) := goodIn_app (goodIn_of _ (by decide +kernel)) ggX4_mean_X4_find
theorem dX4_mean_0 : decode cX4_mean 0 = .ok (.iload_n 1, 1) := by decide +kernel
theorem dX4_mean_1 : decode cX4_mean 1 = .ok (.invokestatic 77, 3) := by decide +kernel
theorem dX4_mean_4 : decode cX4_mean 4 = .ok (.ifCond .ne 5, 3) := by decide +kernel
theorem dX4_mean_7 : decode cX4_mean 7 = .ok (.iconst (-1), 1) := by decide +kernel
theorem dX4_mean_8 : decode cX4_mean 8 = .ok (.ireturn, 1) := by decide +kernel
theorem dX4_mean_9 : decode cX4_mean 9 = .ok (.aload_n 0, 1) := by decide +kernel
theorem dX4_mean_10 : decode cX4_mean 10 = .ok (.getfield 14, 3) := by decide +kernel
theorem dX4_mean_13 : decode cX4_mean 13 = .ok (.iload_n 1, 1) := by decide +kernel
theorem dX4_mean_14 : decode cX4_mean 14 = .ok (.iaload, 1) := by decide +kernel
theorem dX4_mean_15 : decode cX4_mean 15 = .ok (.istore_n 2, 1) := by decide +kernel
theorem dX4_mean_16 : decode cX4_mean 16 = .ok (.iload_n 2, 1) := by decide +kernel
theorem dX4_mean_17 : decode cX4_mean 17 = .ok (.iconst (-1), 1) := by decide +kernel
theorem dX4_mean_18 : decode cX4_mean 18 = .ok (.if_icmp .ne 9, 3) := by decide +kernel
theorem dX4_mean_21 : decode cX4_mean 21 = .ok (.aload_n 0, 1) := by decide +kernel
theorem dX4_mean_22 : decode cX4_mean 22 = .ok (.iconst 1, 1) := by decide +kernel
theorem dX4_mean_23 : decode cX4_mean 23 = .ok (.invokevirtual 81, 3) := by decide +kernel
theorem dX4_mean_26 : decode cX4_mean 26 = .ok (.ireturn, 1) := by decide +kernel
theorem dX4_mean_27 : decode cX4_mean 27 = .ok (.iload_n 2, 1) := by decide +kernel
theorem dX4_mean_28 : decode cX4_mean 28 = .ok (.iconst 1, 1) := by decide +kernel
theorem dX4_mean_29 : decode cX4_mean 29 = .ok (.if_icmp .ge 9, 3) := by decide +kernel
theorem dX4_mean_32 : decode cX4_mean 32 = .ok (.aload_n 0, 1) := by decide +kernel
theorem dX4_mean_33 : decode cX4_mean 33 = .ok (.iconst 4, 1) := by decide +kernel
theorem dX4_mean_34 : decode cX4_mean 34 = .ok (.invokevirtual 81, 3) := by decide +kernel
theorem dX4_mean_37 : decode cX4_mean 37 = .ok (.ireturn, 1) := by decide +kernel
theorem dX4_mean_38 : decode cX4_mean 38 = .ok (.lconst 0, 1) := by decide +kernel
theorem dX4_mean_39 : decode cX4_mean 39 = .ok (.lstore_n 3, 1) := by decide +kernel
theorem dX4_mean_40 : decode cX4_mean 40 = .ok (.iconst 0, 1) := by decide +kernel
theorem dX4_mean_41 : decode cX4_mean 41 = .ok (.istore 5, 2) := by decide +kernel
theorem dX4_mean_43 : decode cX4_mean 43 = .ok (.iload 5, 2) := by decide +kernel
theorem dX4_mean_45 : decode cX4_mean 45 = .ok (.iload_n 2, 1) := by decide +kernel
theorem dX4_mean_46 : decode cX4_mean 46 = .ok (.if_icmp .ge 22, 3) := by decide +kernel
theorem dX4_mean_49 : decode cX4_mean 49 = .ok (.lload_n 3, 1) := by decide +kernel
theorem dX4_mean_50 : decode cX4_mean 50 = .ok (.aload_n 0, 1) := by decide +kernel
theorem dX4_mean_51 : decode cX4_mean 51 = .ok (.getfield 11, 3) := by decide +kernel
theorem dX4_mean_54 : decode cX4_mean 54 = .ok (.iload_n 1, 1) := by decide +kernel
theorem dX4_mean_55 : decode cX4_mean 55 = .ok (.aaload, 1) := by decide +kernel
theorem dX4_mean_56 : decode cX4_mean 56 = .ok (.iload 5, 2) := by decide +kernel
theorem dX4_mean_58 : decode cX4_mean 58 = .ok (.iaload, 1) := by decide +kernel
theorem dX4_mean_59 : decode cX4_mean 59 = .ok (.i2l, 1) := by decide +kernel
theorem dX4_mean_60 : decode cX4_mean 60 = .ok (.ladd, 1) := by decide +kernel
theorem dX4_mean_61 : decode cX4_mean 61 = .ok (.lstore_n 3, 1) := by decide +kernel
theorem dX4_mean_62 : decode cX4_mean 62 = .ok (.iinc 5 1, 3) := by decide +kernel
theorem dX4_mean_65 : decode cX4_mean 65 = .ok (.goto (-22), 3) := by decide +kernel
theorem dX4_mean_68 : decode cX4_mean 68 = .ok (.aload_n 0, 1) := by decide +kernel
theorem dX4_mean_69 : decode cX4_mean 69 = .ok (.lload_n 3, 1) := by decide +kernel
theorem dX4_mean_70 : decode cX4_mean 70 = .ok (.iload_n 2, 1) := by decide +kernel
theorem dX4_mean_71 : decode cX4_mean 71 = .ok (.i2l, 1) := by decide +kernel
theorem dX4_mean_72 : decode cX4_mean 72 = .ok (.ldiv, 1) := by decide +kernel
theorem dX4_mean_73 : decode cX4_mean 73 = .ok (.l2i, 1) := by decide +kernel
theorem dX4_mean_74 : decode cX4_mean 74 = .ok (.putfield 57, 3) := by decide +kernel
theorem dX4_mean_77 : decode cX4_mean 77 = .ok (.iconst 1, 1) := by decide +kernel
theorem dX4_mean_78 : decode cX4_mean 78 = .ok (.ireturn, 1) := by decide +kernel
set_option maxRecDepth 20000 in
theorem ggX4_text_X4_isText : GoodIn wsX4_text wsX4_isText := goodIn_r _ [6] (by decide +kernel) (by decide +kernel)
set_option maxRecDepth 20000 in
theorem gX4_text_X4_isText : GoodIn wsX4_text (va_wsS RX4 103 yX4_isText wsX4_isText) := goodIn_app (goodIn_of _ (by decide +kernel)) ggX4_text_X4_isText
set_option maxRecDepth 20000 in
theorem ggX4_text_X4_find : GoodIn wsX4_text wsX4_find := goodIn_r _ [10, 11, 12, 17, 18, 19, 20, 21, 22, 23, 24, 25, 26, 27, 28, 29] (by decide +kernel) (by decide +kernel)
set_option maxRecDepth 20000 in
theorem gX4_text_X4_find : GoodIn wsX4_text (wsV RX4 81 RX4 yX4_find wsX4_find) := goodIn_app (goodIn_of _ (by decide +kernel)) ggX4_text_X4_find
set_option maxRecDepth 20000 in
theorem ggX4_text_J7_fill_031fb : GoodIn wsX4_text wsJ7_fill_031fb := goodIn_r _ [16] (by decide +kernel) (by decide +kernel)
set_option maxRecDepth 20000 in
theorem gX4_text_J7_fill_031fb : GoodIn wsX4_text (va_wsS RX4 106 yJ7_fill_031fb wsJ7_fill_031fb) := goodIn_app (goodIn_of _ (by decide +kernel)) ggX4_text_J7_fill_031fb
theorem dX4_text_0 : decode cX4_text 0 = .ok (.iload_n 1, 1) := by decide +kernel
theorem dX4_text_1 : decode cX4_text 1 = .ok (.invokestatic 103, 3) := by decide +kernel
theorem dX4_text_4 : decode cX4_text 4 = .ok (.ifCond .eq 9, 3) := by decide +kernel
theorem dX4_text_7 : decode cX4_text 7 = .ok (.iload_n 2, 1) := by decide +kernel
theorem dX4_text_8 : decode cX4_text 8 = .ok (.bipush 120, 2) := by decide +kernel
theorem dX4_text_10 : decode cX4_text 10 = .ok (.if_icmp .le 5, 3) := by decide +kernel
theorem dX4_text_13 : decode cX4_text 13 = .ok (.iconst (-1), 1) := by decide +kernel
theorem dX4_text_14 : decode cX4_text 14 = .ok (.ireturn, 1) := by decide +kernel
theorem dX4_text_15 : decode cX4_text 15 = .ok (.iload_n 2, 1) := by decide +kernel
theorem dX4_text_16 : decode cX4_text 16 = .ok (.ifCond .ge 9, 3) := by decide +kernel
theorem dX4_text_19 : decode cX4_text 19 = .ok (.aload_n 0, 1) := by decide +kernel
theorem dX4_text_20 : decode cX4_text 20 = .ok (.iconst 5, 1) := by decide +kernel
theorem dX4_text_21 : decode cX4_text 21 = .ok (.invokevirtual 81, 3) := by decide +kernel
theorem dX4_text_24 : decode cX4_text 24 = .ok (.ireturn, 1) := by decide +kernel
theorem dX4_text_25 : decode cX4_text 25 = .ok (.aload_n 0, 1) := by decide +kernel
theorem dX4_text_26 : decode cX4_text 26 = .ok (.getfield 20, 3) := by decide +kernel
theorem dX4_text_29 : decode cX4_text 29 = .ok (.iload_n 1, 1) := by decide +kernel
theorem dX4_text_30 : decode cX4_text 30 = .ok (.aaload, 1) := by decide +kernel
theorem dX4_text_31 : decode cX4_text 31 = .ok (.bipush 32, 2) := by decide +kernel
theorem dX4_text_33 : decode cX4_text 33 = .ok (.invokestatic 106, 3) := by decide +kernel
theorem dX4_text_36 : decode cX4_text 36 = .ok (.aload_n 0, 1) := by decide +kernel
theorem dX4_text_37 : decode cX4_text 37 = .ok (.getfield 23, 3) := by decide +kernel
theorem dX4_text_40 : decode cX4_text 40 = .ok (.iload_n 1, 1) := by decide +kernel
theorem dX4_text_41 : decode cX4_text 41 = .ok (.iload_n 2, 1) := by decide +kernel
theorem dX4_text_42 : decode cX4_text 42 = .ok (.iastore, 1) := by decide +kernel
theorem dX4_text_43 : decode cX4_text 43 = .ok (.iload_n 2, 1) := by decide +kernel
theorem dX4_text_44 : decode cX4_text 44 = .ok (.ireturn, 1) := by decide +kernel
set_option maxRecDepth 20000 in
theorem ggX4_put_X4_isText : GoodIn wsX4_put wsX4_isText := goodIn_r _ [6] (by decide +kernel) (by decide +kernel)
set_option maxRecDepth 20000 in
theorem gX4_put_X4_isText : GoodIn wsX4_put (va_wsS RX4 103 yX4_isText wsX4_isText) := goodIn_app (goodIn_of _ (by decide +kernel)) ggX4_put_X4_isText
set_option maxRecDepth 20000 in
theorem ggX4_put_X4_find : GoodIn wsX4_put wsX4_find := goodIn_r _ [10, 11, 12, 16, 17, 18, 19, 20, 21, 22, 23, 24, 25, 26, 27, 28] (by decide +kernel) (by decide +kernel)
set_option maxRecDepth 20000 in
theorem gX4_put_X4_find : GoodIn wsX4_put (wsV RX4 81 RX4 yX4_find wsX4_find) := goodIn_app (goodIn_of _ (by decide +kernel)) ggX4_put_X4_find
set_option maxRecDepth 20000 in
theorem ggX4_put_X4_hasPlaces : GoodIn wsX4_put wsX4_hasPlaces := goodIn_r _ [15] (by decide +kernel) (by decide +kernel)
set_option maxRecDepth 20000 in
theorem gX4_put_X4_hasPlaces : GoodIn wsX4_put (va_wsS RX4 93 yX4_hasPlaces wsX4_hasPlaces) := goodIn_app (goodIn_of _ (by decide +kernel)) ggX4_put_X4_hasPlaces
theorem dX4_put_0 : decode cX4_put 0 = .ok (.iload_n 1, 1) := by decide +kernel
theorem dX4_put_1 : decode cX4_put 1 = .ok (.invokestatic 103, 3) := by decide +kernel
theorem dX4_put_4 : decode cX4_put 4 = .ok (.ifCond .ne 5, 3) := by decide +kernel
theorem dX4_put_7 : decode cX4_put 7 = .ok (.iconst (-1), 1) := by decide +kernel
theorem dX4_put_8 : decode cX4_put 8 = .ok (.ireturn, 1) := by decide +kernel
theorem dX4_put_9 : decode cX4_put 9 = .ok (.aload_n 0, 1) := by decide +kernel
theorem dX4_put_10 : decode cX4_put 10 = .ok (.getfield 23, 3) := by decide +kernel
theorem dX4_put_13 : decode cX4_put 13 = .ok (.iload_n 1, 1) := by decide +kernel
theorem dX4_put_14 : decode cX4_put 14 = .ok (.iaload, 1) := by decide +kernel
theorem dX4_put_15 : decode cX4_put 15 = .ok (.iconst (-1), 1) := by decide +kernel
theorem dX4_put_16 : decode cX4_put 16 = .ok (.if_icmp .ne 9, 3) := by decide +kernel
theorem dX4_put_19 : decode cX4_put 19 = .ok (.aload_n 0, 1) := by decide +kernel
theorem dX4_put_20 : decode cX4_put 20 = .ok (.iconst 1, 1) := by decide +kernel
theorem dX4_put_21 : decode cX4_put 21 = .ok (.invokevirtual 81, 3) := by decide +kernel
theorem dX4_put_24 : decode cX4_put 24 = .ok (.ireturn, 1) := by decide +kernel
theorem dX4_put_25 : decode cX4_put 25 = .ok (.aload_n 0, 1) := by decide +kernel
theorem dX4_put_26 : decode cX4_put 26 = .ok (.getfield 23, 3) := by decide +kernel
theorem dX4_put_29 : decode cX4_put 29 = .ok (.iload_n 1, 1) := by decide +kernel
theorem dX4_put_30 : decode cX4_put 30 = .ok (.iaload, 1) := by decide +kernel
theorem dX4_put_31 : decode cX4_put 31 = .ok (.iload_n 2, 1) := by decide +kernel
theorem dX4_put_32 : decode cX4_put 32 = .ok (.iconst 1, 1) := by decide +kernel
theorem dX4_put_33 : decode cX4_put 33 = .ok (.invokestatic 93, 3) := by decide +kernel
theorem dX4_put_36 : decode cX4_put 36 = .ok (.ifCond .ne 9, 3) := by decide +kernel
theorem dX4_put_39 : decode cX4_put 39 = .ok (.aload_n 0, 1) := by decide +kernel
theorem dX4_put_40 : decode cX4_put 40 = .ok (.iconst 2, 1) := by decide +kernel
theorem dX4_put_41 : decode cX4_put 41 = .ok (.invokevirtual 81, 3) := by decide +kernel
theorem dX4_put_44 : decode cX4_put 44 = .ok (.ireturn, 1) := by decide +kernel
theorem dX4_put_45 : decode cX4_put 45 = .ok (.aload_n 0, 1) := by decide +kernel
theorem dX4_put_46 : decode cX4_put 46 = .ok (.getfield 20, 3) := by decide +kernel
theorem dX4_put_49 : decode cX4_put 49 = .ok (.iload_n 1, 1) := by decide +kernel
theorem dX4_put_50 : decode cX4_put 50 = .ok (.aaload, 1) := by decide +kernel
theorem dX4_put_51 : decode cX4_put 51 = .ok (.iload_n 2, 1) := by decide +kernel
theorem dX4_put_52 : decode cX4_put 52 = .ok (.baload, 1) := by decide +kernel
theorem dX4_put_53 : decode cX4_put 53 = .ok (.istore 4, 2) := by decide +kernel
theorem dX4_put_55 : decode cX4_put 55 = .ok (.aload_n 0, 1) := by decide +kernel
theorem dX4_put_56 : decode cX4_put 56 = .ok (.getfield 20, 3) := by decide +kernel
theorem dX4_put_59 : decode cX4_put 59 = .ok (.iload_n 1, 1) := by decide +kernel
theorem dX4_put_60 : decode cX4_put 60 = .ok (.aaload, 1) := by decide +kernel
theorem dX4_put_61 : decode cX4_put 61 = .ok (.iload_n 2, 1) := by decide +kernel
theorem dX4_put_62 : decode cX4_put 62 = .ok (.iload_n 3, 1) := by decide +kernel
theorem dX4_put_63 : decode cX4_put 63 = .ok (.i2b, 1) := by decide +kernel
theorem dX4_put_64 : decode cX4_put 64 = .ok (.bastore, 1) := by decide +kernel
theorem dX4_put_65 : decode cX4_put 65 = .ok (.iload 4, 2) := by decide +kernel
theorem dX4_put_67 : decode cX4_put 67 = .ok (.sipush 1000, 3) := by decide +kernel
theorem dX4_put_70 : decode cX4_put 70 = .ok (.iadd, 1) := by decide +kernel
theorem dX4_put_71 : decode cX4_put 71 = .ok (.ireturn, 1) := by decide +kernel
set_option maxRecDepth 20000 in
theorem ggX4_fault_X4_isText : GoodIn wsX4_fault wsX4_isText := goodIn_r _ [7] (by decide +kernel) (by decide +kernel)
set_option maxRecDepth 20000 in
theorem gX4_fault_X4_isText : GoodIn wsX4_fault (va_wsS RX4 103 yX4_isText wsX4_isText) := goodIn_app (goodIn_of _ (by decide +kernel)) ggX4_fault_X4_isText
set_option maxRecDepth 20000 in
theorem ggX4_fault_X4_find : GoodIn wsX4_fault wsX4_find := goodIn_r _ [11, 12, 13, 99, 100, 101, 102, 103, 104, 105, 106, 107, 108, 109, 110, 111] (by decide +kernel) (by decide +kernel)
set_option maxRecDepth 20000 in
theorem gX4_fault_X4_find : GoodIn wsX4_fault (wsV RX4 81 RX4 yX4_find wsX4_find) := goodIn_app (goodIn_of _ (by decide +kernel)) ggX4_fault_X4_find
set_option maxRecDepth 20000 in
theorem ggX4_fault_X1_read : GoodIn wsX4_fault wsX1_read := goodIn_r _ [18, 19, 20, 21, 22, 23, 24, 25, 26, 27, 28, 29, 30, 31, 32, 33, 34, 35, 36, 37, 38, 17, 39, 40, 41, 42, 43, 44, 45, 46, 47, 48, 49, 50, 51, 52, 53, 54, 55, 56, 57, 58, 59, 60, 61, 62, 63, 64, 65, 66, 67, 68, 69, 70, 71, 72, 73, 74, 75, 76, 77, 78, 79, 80, 81, 82, 83, 84, 85, 86, 87, 88, 89, 90, 91, 92, 93, 94, 95, 96, 97, 98, 112, 113, 114, 115, 116, 117, 118, 119, 120, 121, 122, 123, 124, 125, 126, 127] (by decide +kernel) (by decide +kernel)
set_option maxRecDepth 20000 in
theorem gX4_fault_X1_read : GoodIn wsX4_fault (wsV RX4 109 RX1 yX1_read wsX1_read) := goodIn_app (goodIn_of _ (by decide +kernel)) ggX4_fault_X1_read
theorem dX4_fault_0 : decode cX4_fault 0 = .ok (.iload_n 1, 1) := by decide +kernel
theorem dX4_fault_1 : decode cX4_fault 1 = .ok (.invokestatic 103, 3) := by decide +kernel
theorem dX4_fault_4 : decode cX4_fault 4 = .ok (.ifCond .ne 5, 3) := by decide +kernel
theorem dX4_fault_7 : decode cX4_fault 7 = .ok (.iconst (-1), 1) := by decide +kernel
theorem dX4_fault_8 : decode cX4_fault 8 = .ok (.ireturn, 1) := by decide +kernel
theorem dX4_fault_9 : decode cX4_fault 9 = .ok (.aload_n 0, 1) := by decide +kernel
theorem dX4_fault_10 : decode cX4_fault 10 = .ok (.getfield 23, 3) := by decide +kernel
theorem dX4_fault_13 : decode cX4_fault 13 = .ok (.iload_n 1, 1) := by decide +kernel
theorem dX4_fault_14 : decode cX4_fault 14 = .ok (.iaload, 1) := by decide +kernel
theorem dX4_fault_15 : decode cX4_fault 15 = .ok (.iconst (-1), 1) := by decide +kernel
theorem dX4_fault_16 : decode cX4_fault 16 = .ok (.if_icmp .ne 9, 3) := by decide +kernel
theorem dX4_fault_19 : decode cX4_fault 19 = .ok (.aload_n 0, 1) := by decide +kernel
theorem dX4_fault_20 : decode cX4_fault 20 = .ok (.iconst 1, 1) := by decide +kernel
theorem dX4_fault_21 : decode cX4_fault 21 = .ok (.invokevirtual 81, 3) := by decide +kernel
theorem dX4_fault_24 : decode cX4_fault 24 = .ok (.ireturn, 1) := by decide +kernel
theorem dX4_fault_25 : decode cX4_fault 25 = .ok (.aload_n 0, 1) := by decide +kernel
theorem dX4_fault_26 : decode cX4_fault 26 = .ok (.getfield 29, 3) := by decide +kernel
theorem dX4_fault_29 : decode cX4_fault 29 = .ok (.aload_n 0, 1) := by decide +kernel
theorem dX4_fault_30 : decode cX4_fault 30 = .ok (.getfield 20, 3) := by decide +kernel
theorem dX4_fault_33 : decode cX4_fault 33 = .ok (.iload_n 1, 1) := by decide +kernel
theorem dX4_fault_34 : decode cX4_fault 34 = .ok (.aaload, 1) := by decide +kernel
theorem dX4_fault_35 : decode cX4_fault 35 = .ok (.aload_n 0, 1) := by decide +kernel
theorem dX4_fault_36 : decode cX4_fault 36 = .ok (.getfield 23, 3) := by decide +kernel
theorem dX4_fault_39 : decode cX4_fault 39 = .ok (.iload_n 1, 1) := by decide +kernel
theorem dX4_fault_40 : decode cX4_fault 40 = .ok (.iaload, 1) := by decide +kernel
theorem dX4_fault_41 : decode cX4_fault 41 = .ok (.invokevirtual 109, 3) := by decide +kernel
theorem dX4_fault_44 : decode cX4_fault 44 = .ok (.ireturn, 1) := by decide +kernel
set_option maxRecDepth 20000 in
theorem ggX4_village_X4_isText : GoodIn wsX4_village wsX4_isText := goodIn_r _ [11] (by decide +kernel) (by decide +kernel)
set_option maxRecDepth 20000 in
theorem gX4_village_X4_isText : GoodIn wsX4_village (va_wsS RX4 103 yX4_isText wsX4_isText) := goodIn_app (goodIn_of _ (by decide +kernel)) ggX4_village_X4_isText
set_option maxRecDepth 20000 in
theorem ggX4_village_X4_find : GoodIn wsX4_village wsX4_find := goodIn_r _ [15, 16, 17, 133, 134, 135, 136, 137, 138, 139, 140, 141, 142, 143, 144, 145] (by decide +kernel) (by decide +kernel)
set_option maxRecDepth 20000 in
theorem gX4_village_X4_find : GoodIn wsX4_village (wsV RX4 81 RX4 yX4_find wsX4_find) := goodIn_app (goodIn_of _ (by decide +kernel)) ggX4_village_X4_find
set_option maxRecDepth 20000 in
theorem ggX4_village_X1_read : GoodIn wsX4_village wsX1_read := goodIn_r _ [22, 23, 24, 25, 26, 27, 28, 29, 30, 31, 32, 33, 34, 35, 36, 37, 38, 39, 40, 41, 42, 21, 43, 44, 45, 46, 47, 48, 49, 50, 51, 52, 53, 54, 55, 56, 57, 58, 59, 60, 61, 62, 63, 64, 65, 66, 67, 68, 69, 70, 71, 72, 73, 74, 75, 76, 77, 78, 79, 80, 81, 82, 83, 84, 85, 86, 87, 88, 89, 90, 91, 92, 93, 94, 95, 96, 97, 98, 99, 100, 101, 102, 157, 158, 159, 160, 161, 146, 147, 148, 149, 150, 151, 152, 153, 154, 155, 156] (by decide +kernel) (by decide +kernel)
set_option maxRecDepth 20000 in
theorem gX4_village_X1_read : GoodIn wsX4_village (wsV RX4 109 RX1 yX1_read wsX1_read) := goodIn_app (goodIn_of _ (by decide +kernel)) ggX4_village_X1_read
set_option maxRecDepth 20000 in
theorem ggX4_village_X1_handOver : GoodIn wsX4_village wsX1_handOver := goodIn_r _ [106, 31, 157, 158, 159, 160, 161] (by decide +kernel) (by decide +kernel)
set_option maxRecDepth 20000 in
theorem gX4_village_X1_handOver : GoodIn wsX4_village (wsV RX4 113 RX1 yX1_handOver wsX1_handOver) := goodIn_app (goodIn_of _ (by decide +kernel)) ggX4_village_X1_handOver
set_option maxRecDepth 20000 in
theorem ggX4_village_X0_forget : GoodIn wsX4_village wsX0_forget := goodIn_r _ [111, 112, 113, 114, 115, 116, 117, 162, 163, 164] (by decide +kernel) (by decide +kernel)
set_option maxRecDepth 20000 in
theorem gX4_village_X0_forget : GoodIn wsX4_village (wsV RX4 117 RX0 yX0_forget wsX0_forget) := goodIn_app (goodIn_of _ (by decide +kernel)) ggX4_village_X0_forget
set_option maxRecDepth 20000 in
theorem ggX4_village_X2_learn : GoodIn wsX4_village wsX2_learn := goodIn_r _ [122, 123, 124, 125, 126, 127, 128, 129, 130, 131, 35, 132, 99, 100, 146, 147, 148, 149, 150, 151, 152, 153, 154, 155, 156, 165, 166, 167, 168, 169, 170, 171, 172, 173, 174, 175, 176] (by decide +kernel) (by decide +kernel)
set_option maxRecDepth 20000 in
theorem gX4_village_X2_learn : GoodIn wsX4_village (wsV RX4 120 RX2 yX2_learn wsX2_learn) := goodIn_app (goodIn_of _ (by decide +kernel)) ggX4_village_X2_learn
theorem dX4_village_0 : decode cX4_village 0 = .ok (.iload_n 1, 1) := by decide +kernel
theorem dX4_village_1 : decode cX4_village 1 = .ok (.invokestatic 103, 3) := by decide +kernel
theorem dX4_village_4 : decode cX4_village 4 = .ok (.ifCond .ne 5, 3) := by decide +kernel
theorem dX4_village_7 : decode cX4_village 7 = .ok (.iconst (-1), 1) := by decide +kernel
theorem dX4_village_8 : decode cX4_village 8 = .ok (.ireturn, 1) := by decide +kernel
theorem dX4_village_9 : decode cX4_village 9 = .ok (.aload_n 0, 1) := by decide +kernel
theorem dX4_village_10 : decode cX4_village 10 = .ok (.getfield 23, 3) := by decide +kernel
theorem dX4_village_13 : decode cX4_village 13 = .ok (.iload_n 1, 1) := by decide +kernel
theorem dX4_village_14 : decode cX4_village 14 = .ok (.iaload, 1) := by decide +kernel
theorem dX4_village_15 : decode cX4_village 15 = .ok (.iconst (-1), 1) := by decide +kernel
theorem dX4_village_16 : decode cX4_village 16 = .ok (.if_icmp .ne 9, 3) := by decide +kernel
theorem dX4_village_19 : decode cX4_village 19 = .ok (.aload_n 0, 1) := by decide +kernel
theorem dX4_village_20 : decode cX4_village 20 = .ok (.iconst 1, 1) := by decide +kernel
theorem dX4_village_21 : decode cX4_village 21 = .ok (.invokevirtual 81, 3) := by decide +kernel
theorem dX4_village_24 : decode cX4_village 24 = .ok (.ireturn, 1) := by decide +kernel
theorem dX4_village_25 : decode cX4_village 25 = .ok (.aload_n 0, 1) := by decide +kernel
theorem dX4_village_26 : decode cX4_village 26 = .ok (.getfield 29, 3) := by decide +kernel
theorem dX4_village_29 : decode cX4_village 29 = .ok (.aload_n 0, 1) := by decide +kernel
theorem dX4_village_30 : decode cX4_village 30 = .ok (.getfield 20, 3) := by decide +kernel
theorem dX4_village_33 : decode cX4_village 33 = .ok (.iload_n 1, 1) := by decide +kernel
theorem dX4_village_34 : decode cX4_village 34 = .ok (.aaload, 1) := by decide +kernel
theorem dX4_village_35 : decode cX4_village 35 = .ok (.aload_n 0, 1) := by decide +kernel
theorem dX4_village_36 : decode cX4_village 36 = .ok (.getfield 23, 3) := by decide +kernel
theorem dX4_village_39 : decode cX4_village 39 = .ok (.iload_n 1, 1) := by decide +kernel
theorem dX4_village_40 : decode cX4_village 40 = .ok (.iaload, 1) := by decide +kernel
theorem dX4_village_41 : decode cX4_village 41 = .ok (.invokevirtual 109, 3) := by decide +kernel
theorem dX4_village_44 : decode cX4_village 44 = .ok (.bipush (-9), 2) := by decide +kernel
theorem dX4_village_46 : decode cX4_village 46 = .ok (.if_icmp .eq 6, 3) := by decide +kernel
theorem dX4_village_49 : decode cX4_village 49 = .ok (.bipush (-4), 2) := by decide +kernel
theorem dX4_village_51 : decode cX4_village 51 = .ok (.ireturn, 1) := by decide +kernel
theorem dX4_village_52 : decode cX4_village 52 = .ok (.aload_n 0, 1) := by decide +kernel
theorem dX4_village_53 : decode cX4_village 53 = .ok (.aload_n 0, 1) := by decide +kernel
theorem dX4_village_54 : decode cX4_village 54 = .ok (.getfield 29, 3) := by decide +kernel
theorem dX4_village_57 : decode cX4_village 57 = .ok (.aload_n 0, 1) := by decide +kernel
theorem dX4_village_58 : decode cX4_village 58 = .ok (.getfield 53, 3) := by decide +kernel
theorem dX4_village_61 : decode cX4_village 61 = .ok (.invokevirtual 113, 3) := by decide +kernel
theorem dX4_village_64 : decode cX4_village 64 = .ok (.putfield 53, 3) := by decide +kernel
theorem dX4_village_67 : decode cX4_village 67 = .ok (.aload_n 0, 1) := by decide +kernel
theorem dX4_village_68 : decode cX4_village 68 = .ok (.getfield 36, 3) := by decide +kernel
theorem dX4_village_71 : decode cX4_village 71 = .ok (.invokevirtual 117, 3) := by decide +kernel
theorem dX4_village_74 : decode cX4_village 74 = .ok (.aload_n 0, 1) := by decide +kernel
theorem dX4_village_75 : decode cX4_village 75 = .ok (.getfield 43, 3) := by decide +kernel
theorem dX4_village_78 : decode cX4_village 78 = .ok (.aload_n 0, 1) := by decide +kernel
theorem dX4_village_79 : decode cX4_village 79 = .ok (.getfield 53, 3) := by decide +kernel
theorem dX4_village_82 : decode cX4_village 82 = .ok (.invokevirtual 120, 3) := by decide +kernel
theorem dX4_village_85 : decode cX4_village 85 = .ok (.aload_n 0, 1) := by decide +kernel
theorem dX4_village_86 : decode cX4_village 86 = .ok (.getfield 53, 3) := by decide +kernel
theorem dX4_village_89 : decode cX4_village 89 = .ok (.getfield 124, 3) := by decide +kernel
theorem dX4_village_92 : decode cX4_village 92 = .ok (.ireturn, 1) := by decide +kernel
set_option maxRecDepth 20000 in
theorem ggX4_one_X3_isPerson : GoodIn wsX4_one wsX3_isPerson := goodIn_r _ [7, 8, 30, 31, 32, 33, 34, 35, 36, 37, 38, 39, 40] (by decide +kernel) (by decide +kernel)
set_option maxRecDepth 20000 in
theorem gX4_one_X3_isPerson : GoodIn wsX4_one (wsV RX4 127 RX3 yX3_isPerson wsX3_isPerson) := goodIn_app (goodIn_of _ (by decide +kernel)) ggX4_one_X3_isPerson
set_option maxRecDepth 20000 in
theorem ggX4_one_X3_ofPerson : GoodIn wsX4_one wsX3_ofPerson := goodIn_r _ [12, 13, 14, 15, 16, 30, 31, 32, 33, 34, 35, 36, 37, 38, 39, 40] (by decide +kernel) (by decide +kernel)
set_option maxRecDepth 20000 in
theorem gX4_one_X3_ofPerson : GoodIn wsX4_one (wsV RX4 130 RX3 yX3_ofPerson wsX3_ofPerson) := goodIn_app (goodIn_of _ (by decide +kernel)) ggX4_one_X3_ofPerson
theorem dX4_one_0 : decode cX4_one 0 = .ok (.aload_n 0, 1) := by decide +kernel
theorem dX4_one_1 : decode cX4_one 1 = .ok (.getfield 53, 3) := by decide +kernel
theorem dX4_one_4 : decode cX4_one 4 = .ok (.iload_n 1, 1) := by decide +kernel
theorem dX4_one_5 : decode cX4_one 5 = .ok (.invokevirtual 127, 3) := by decide +kernel
theorem dX4_one_8 : decode cX4_one 8 = .ok (.ifCond .eq 12, 3) := by decide +kernel
theorem dX4_one_11 : decode cX4_one 11 = .ok (.iload_n 2, 1) := by decide +kernel
theorem dX4_one_12 : decode cX4_one 12 = .ok (.ifCond .lt 8, 3) := by decide +kernel
theorem dX4_one_15 : decode cX4_one 15 = .ok (.iload_n 2, 1) := by decide +kernel
theorem dX4_one_16 : decode cX4_one 16 = .ok (.iconst 3, 1) := by decide +kernel
theorem dX4_one_17 : decode cX4_one 17 = .ok (.if_icmp .le 5, 3) := by decide +kernel
theorem dX4_one_20 : decode cX4_one 20 = .ok (.iconst (-1), 1) := by decide +kernel
theorem dX4_one_21 : decode cX4_one 21 = .ok (.ireturn, 1) := by decide +kernel
theorem dX4_one_22 : decode cX4_one 22 = .ok (.aload_n 0, 1) := by decide +kernel
theorem dX4_one_23 : decode cX4_one 23 = .ok (.aload_n 0, 1) := by decide +kernel
theorem dX4_one_24 : decode cX4_one 24 = .ok (.getfield 53, 3) := by decide +kernel
theorem dX4_one_27 : decode cX4_one 27 = .ok (.iload_n 1, 1) := by decide +kernel
theorem dX4_one_28 : decode cX4_one 28 = .ok (.iload_n 2, 1) := by decide +kernel
theorem dX4_one_29 : decode cX4_one 29 = .ok (.invokevirtual 130, 3) := by decide +kernel
theorem dX4_one_32 : decode cX4_one 32 = .ok (.putfield 57, 3) := by decide +kernel
theorem dX4_one_35 : decode cX4_one 35 = .ok (.iconst 1, 1) := by decide +kernel
theorem dX4_one_36 : decode cX4_one 36 = .ok (.ireturn, 1) := by decide +kernel
set_option maxRecDepth 20000 in
theorem ggX4_mark_X3_isPerson : GoodIn wsX4_mark wsX3_isPerson := goodIn_r _ [6, 7, 61, 62, 63, 64, 65, 66, 67, 68, 69, 70, 71] (by decide +kernel) (by decide +kernel)
set_option maxRecDepth 20000 in
theorem gX4_mark_X3_isPerson : GoodIn wsX4_mark (wsV RX4 127 RX3 yX3_isPerson wsX3_isPerson) := goodIn_app (goodIn_of _ (by decide +kernel)) ggX4_mark_X3_isPerson
set_option maxRecDepth 20000 in
theorem ggX4_mark_X3_isOfKind : GoodIn wsX4_mark wsX3_isOfKind := goodIn_r _ [11, 12, 61, 62, 63, 64, 65, 66, 67, 68, 69, 70, 71] (by decide +kernel) (by decide +kernel)
set_option maxRecDepth 20000 in
theorem gX4_mark_X3_isOfKind : GoodIn wsX4_mark (wsV RX4 133 RX3 yX3_isOfKind wsX3_isOfKind) := goodIn_app (goodIn_of _ (by decide +kernel)) ggX4_mark_X3_isOfKind
set_option maxRecDepth 20000 in
theorem ggX4_mark_X4_find : GoodIn wsX4_mark wsX4_find := goodIn_r _ [17, 18, 19, 48, 49, 50, 51, 52, 53, 54, 55, 56, 57, 58, 59, 60] (by decide +kernel) (by decide +kernel)
set_option maxRecDepth 20000 in
theorem gX4_mark_X4_find : GoodIn wsX4_mark (wsV RX4 81 RX4 yX4_find wsX4_find) := goodIn_app (goodIn_of _ (by decide +kernel)) ggX4_mark_X4_find
set_option maxRecDepth 20000 in
theorem ggX4_mark_X3_houseTells : GoodIn wsX4_mark wsX3_houseTells := goodIn_r _ [23, 24, 25, 26, 27, 28, 5, 29, 12, 30, 31, 32, 33, 34, 35, 36, 37, 38, 39, 40, 41, 42, 43, 44, 45, 46, 47, 3, 4, 6, 7, 61, 62, 63, 64, 65, 66, 67, 68, 69, 70, 71] (by decide +kernel) (by decide +kernel)
set_option maxRecDepth 20000 in
theorem gX4_mark_X3_houseTells : GoodIn wsX4_mark (wsV RX4 137 RX3 yX3_houseTells wsX3_houseTells) := goodIn_app (goodIn_of _ (by decide +kernel)) ggX4_mark_X3_houseTells
theorem dX4_mark_0 : decode cX4_mark 0 = .ok (.aload_n 0, 1) := by decide +kernel
theorem dX4_mark_1 : decode cX4_mark 1 = .ok (.getfield 53, 3) := by decide +kernel
theorem dX4_mark_4 : decode cX4_mark 4 = .ok (.iload_n 1, 1) := by decide +kernel
theorem dX4_mark_5 : decode cX4_mark 5 = .ok (.invokevirtual 127, 3) := by decide +kernel
theorem dX4_mark_8 : decode cX4_mark 8 = .ok (.ifCond .eq 12, 3) := by decide +kernel
theorem dX4_mark_11 : decode cX4_mark 11 = .ok (.iload_n 2, 1) := by decide +kernel
theorem dX4_mark_12 : decode cX4_mark 12 = .ok (.ifCond .le 8, 3) := by decide +kernel
theorem dX4_mark_15 : decode cX4_mark 15 = .ok (.iload_n 2, 1) := by decide +kernel
theorem dX4_mark_16 : decode cX4_mark 16 = .ok (.iconst 5, 1) := by decide +kernel
theorem dX4_mark_17 : decode cX4_mark 17 = .ok (.if_icmp .le 5, 3) := by decide +kernel
theorem dX4_mark_20 : decode cX4_mark 20 = .ok (.iconst (-1), 1) := by decide +kernel
theorem dX4_mark_21 : decode cX4_mark 21 = .ok (.ireturn, 1) := by decide +kernel
theorem dX4_mark_22 : decode cX4_mark 22 = .ok (.aload_n 0, 1) := by decide +kernel
theorem dX4_mark_23 : decode cX4_mark 23 = .ok (.getfield 53, 3) := by decide +kernel
theorem dX4_mark_26 : decode cX4_mark 26 = .ok (.iload_n 1, 1) := by decide +kernel
theorem dX4_mark_27 : decode cX4_mark 27 = .ok (.iload_n 2, 1) := by decide +kernel
theorem dX4_mark_28 : decode cX4_mark 28 = .ok (.invokevirtual 133, 3) := by decide +kernel
theorem dX4_mark_31 : decode cX4_mark 31 = .ok (.ifCond .ne 9, 3) := by decide +kernel
theorem dX4_mark_34 : decode cX4_mark 34 = .ok (.aload_n 0, 1) := by decide +kernel
theorem dX4_mark_35 : decode cX4_mark 35 = .ok (.iconst 3, 1) := by decide +kernel
theorem dX4_mark_36 : decode cX4_mark 36 = .ok (.invokevirtual 81, 3) := by decide +kernel
theorem dX4_mark_39 : decode cX4_mark 39 = .ok (.ireturn, 1) := by decide +kernel
theorem dX4_mark_40 : decode cX4_mark 40 = .ok (.aload_n 0, 1) := by decide +kernel
theorem dX4_mark_41 : decode cX4_mark 41 = .ok (.getfield 53, 3) := by decide +kernel
theorem dX4_mark_44 : decode cX4_mark 44 = .ok (.iload_n 1, 1) := by decide +kernel
theorem dX4_mark_45 : decode cX4_mark 45 = .ok (.iload_n 2, 1) := by decide +kernel
theorem dX4_mark_46 : decode cX4_mark 46 = .ok (.invokevirtual 137, 3) := by decide +kernel
theorem dX4_mark_49 : decode cX4_mark 49 = .ok (.ireturn, 1) := by decide +kernel
set_option maxRecDepth 20000 in
theorem ggX4_debt_X3_isDebt : GoodIn wsX4_debt wsX3_isDebt := goodIn_r _ [7, 8, 33, 34, 35, 36, 37, 38, 39, 40, 41, 42, 43] (by decide +kernel) (by decide +kernel)
set_option maxRecDepth 20000 in
theorem gX4_debt_X3_isDebt : GoodIn wsX4_debt (wsV RX4 140 RX3 yX3_isDebt wsX3_isDebt) := goodIn_app (goodIn_of _ (by decide +kernel)) ggX4_debt_X3_isDebt
set_option maxRecDepth 20000 in
theorem ggX4_debt_X4_ofDebt : GoodIn wsX4_debt wsX4_ofDebt := goodIn_r _ [13, 1, 14, 15, 16, 17, 18, 19, 20, 21, 22, 23, 24, 25, 26, 27, 28, 29, 30, 31, 32, 33, 34, 35, 36, 37, 38, 39, 40, 41, 42, 43, 44, 45, 46] (by decide +kernel) (by decide +kernel)
set_option maxRecDepth 20000 in
theorem gX4_debt_X4_ofDebt : GoodIn wsX4_debt (wsV RX4 143 RX4 yX4_ofDebt wsX4_ofDebt) := goodIn_app (goodIn_of _ (by decide +kernel)) ggX4_debt_X4_ofDebt
theorem dX4_debt_0 : decode cX4_debt 0 = .ok (.aload_n 0, 1) := by decide +kernel
theorem dX4_debt_1 : decode cX4_debt 1 = .ok (.getfield 53, 3) := by decide +kernel
theorem dX4_debt_4 : decode cX4_debt 4 = .ok (.iload_n 1, 1) := by decide +kernel
theorem dX4_debt_5 : decode cX4_debt 5 = .ok (.invokevirtual 140, 3) := by decide +kernel
theorem dX4_debt_8 : decode cX4_debt 8 = .ok (.ifCond .eq 12, 3) := by decide +kernel
theorem dX4_debt_11 : decode cX4_debt 11 = .ok (.iload_n 2, 1) := by decide +kernel
theorem dX4_debt_12 : decode cX4_debt 12 = .ok (.ifCond .lt 8, 3) := by decide +kernel
theorem dX4_debt_15 : decode cX4_debt 15 = .ok (.iload_n 2, 1) := by decide +kernel
theorem dX4_debt_16 : decode cX4_debt 16 = .ok (.iconst 4, 1) := by decide +kernel
theorem dX4_debt_17 : decode cX4_debt 17 = .ok (.if_icmp .le 5, 3) := by decide +kernel
theorem dX4_debt_20 : decode cX4_debt 20 = .ok (.iconst (-1), 1) := by decide +kernel
theorem dX4_debt_21 : decode cX4_debt 21 = .ok (.ireturn, 1) := by decide +kernel
theorem dX4_debt_22 : decode cX4_debt 22 = .ok (.aload_n 0, 1) := by decide +kernel
theorem dX4_debt_23 : decode cX4_debt 23 = .ok (.aload_n 0, 1) := by decide +kernel
theorem dX4_debt_24 : decode cX4_debt 24 = .ok (.iload_n 1, 1) := by decide +kernel
theorem dX4_debt_25 : decode cX4_debt 25 = .ok (.iload_n 2, 1) := by decide +kernel
theorem dX4_debt_26 : decode cX4_debt 26 = .ok (.invokevirtual 143, 3) := by decide +kernel
theorem dX4_debt_29 : decode cX4_debt 29 = .ok (.putfield 57, 3) := by decide +kernel
theorem dX4_debt_32 : decode cX4_debt 32 = .ok (.iconst 1, 1) := by decide +kernel
theorem dX4_debt_33 : decode cX4_debt 33 = .ok (.ireturn, 1) := by decide +kernel
theorem dX4_law_0 : decode cX4_law 0 = .ok (.iload_n 1, 1) := by decide +kernel
theorem dX4_law_1 : decode cX4_law 1 = .ok (.ifCond .lt 8, 3) := by decide +kernel
theorem dX4_law_4 : decode cX4_law 4 = .ok (.iload_n 1, 1) := by decide +kernel
theorem dX4_law_5 : decode cX4_law 5 = .ok (.iconst 4, 1) := by decide +kernel
theorem dX4_law_6 : decode cX4_law 6 = .ok (.if_icmp .lt 5, 3) := by decide +kernel
theorem dX4_law_9 : decode cX4_law 9 = .ok (.iconst (-1), 1) := by decide +kernel
theorem dX4_law_10 : decode cX4_law 10 = .ok (.ireturn, 1) := by decide +kernel
theorem dX4_law_11 : decode cX4_law 11 = .ok (.aload_n 0, 1) := by decide +kernel
theorem dX4_law_12 : decode cX4_law 12 = .ok (.getfield 53, 3) := by decide +kernel
theorem dX4_law_15 : decode cX4_law 15 = .ok (.getfield 146, 3) := by decide +kernel
theorem dX4_law_18 : decode cX4_law 18 = .ok (.istore_n 2, 1) := by decide +kernel
theorem dX4_law_19 : decode cX4_law 19 = .ok (.aload_n 0, 1) := by decide +kernel
theorem dX4_law_20 : decode cX4_law 20 = .ok (.getfield 53, 3) := by decide +kernel
theorem dX4_law_23 : decode cX4_law 23 = .ok (.iload_n 1, 1) := by decide +kernel
theorem dX4_law_24 : decode cX4_law 24 = .ok (.putfield 146, 3) := by decide +kernel
theorem dX4_law_27 : decode cX4_law 27 = .ok (.iload_n 2, 1) := by decide +kernel
theorem dX4_law_28 : decode cX4_law 28 = .ok (.ireturn, 1) := by decide +kernel
set_option maxRecDepth 20000 in
theorem ggX4_cards_X3_isPerson : GoodIn wsX4_cards wsX3_isPerson := goodIn_r _ [7, 8, 22, 23, 24, 25, 26, 27, 28, 29, 30, 31, 32] (by decide +kernel) (by decide +kernel)
set_option maxRecDepth 20000 in
theorem gX4_cards_X3_isPerson : GoodIn wsX4_cards (wsV RX4 127 RX3 yX3_isPerson wsX3_isPerson) := goodIn_app (goodIn_of _ (by decide +kernel)) ggX4_cards_X3_isPerson
theorem dX4_cards_0 : decode cX4_cards 0 = .ok (.aload_n 0, 1) := by decide +kernel
theorem dX4_cards_1 : decode cX4_cards 1 = .ok (.getfield 53, 3) := by decide +kernel
theorem dX4_cards_4 : decode cX4_cards 4 = .ok (.iload_n 1, 1) := by decide +kernel
theorem dX4_cards_5 : decode cX4_cards 5 = .ok (.invokevirtual 127, 3) := by decide +kernel
theorem dX4_cards_8 : decode cX4_cards 8 = .ok (.ifCond .eq 13, 3) := by decide +kernel
theorem dX4_cards_11 : decode cX4_cards 11 = .ok (.iload_n 2, 1) := by decide +kernel
theorem dX4_cards_12 : decode cX4_cards 12 = .ok (.ifCond .lt 9, 3) := by decide +kernel
theorem dX4_cards_15 : decode cX4_cards 15 = .ok (.iload_n 2, 1) := by decide +kernel
theorem dX4_cards_16 : decode cX4_cards 16 = .ok (.bipush 99, 2) := by decide +kernel
theorem dX4_cards_18 : decode cX4_cards 18 = .ok (.if_icmp .le 5, 3) := by decide +kernel
theorem dX4_cards_21 : decode cX4_cards 21 = .ok (.iconst (-1), 1) := by decide +kernel
theorem dX4_cards_22 : decode cX4_cards 22 = .ok (.ireturn, 1) := by decide +kernel
theorem dX4_cards_23 : decode cX4_cards 23 = .ok (.aload_n 0, 1) := by decide +kernel
theorem dX4_cards_24 : decode cX4_cards 24 = .ok (.getfield 53, 3) := by decide +kernel
theorem dX4_cards_27 : decode cX4_cards 27 = .ok (.getfield 149, 3) := by decide +kernel
theorem dX4_cards_30 : decode cX4_cards 30 = .ok (.iload_n 1, 1) := by decide +kernel
theorem dX4_cards_31 : decode cX4_cards 31 = .ok (.iaload, 1) := by decide +kernel
theorem dX4_cards_32 : decode cX4_cards 32 = .ok (.istore_n 3, 1) := by decide +kernel
theorem dX4_cards_33 : decode cX4_cards 33 = .ok (.aload_n 0, 1) := by decide +kernel
theorem dX4_cards_34 : decode cX4_cards 34 = .ok (.getfield 53, 3) := by decide +kernel
theorem dX4_cards_37 : decode cX4_cards 37 = .ok (.getfield 149, 3) := by decide +kernel
theorem dX4_cards_40 : decode cX4_cards 40 = .ok (.iload_n 1, 1) := by decide +kernel
theorem dX4_cards_41 : decode cX4_cards 41 = .ok (.iload_n 2, 1) := by decide +kernel
theorem dX4_cards_42 : decode cX4_cards 42 = .ok (.iastore, 1) := by decide +kernel
theorem dX4_cards_43 : decode cX4_cards 43 = .ok (.iload_n 3, 1) := by decide +kernel
theorem dX4_cards_44 : decode cX4_cards 44 = .ok (.ireturn, 1) := by decide +kernel
set_option maxRecDepth 20000 in
theorem ggX4_habit_X3_isPerson : GoodIn wsX4_habit wsX3_isPerson := goodIn_r _ [7, 8, 26, 27, 28, 29, 30, 31, 32, 33, 34, 35, 36] (by decide +kernel) (by decide +kernel)
set_option maxRecDepth 20000 in
theorem gX4_habit_X3_isPerson : GoodIn wsX4_habit (wsV RX4 127 RX3 yX3_isPerson wsX3_isPerson) := goodIn_app (goodIn_of _ (by decide +kernel)) ggX4_habit_X3_isPerson
set_option maxRecDepth 20000 in
theorem ggX4_habit_X4_isHour : GoodIn wsX4_habit wsX4_isHour := goodIn_r _ [12] (by decide +kernel) (by decide +kernel)
set_option maxRecDepth 20000 in
theorem gX4_habit_X4_isHour : GoodIn wsX4_habit (va_wsS RX4 152 yX4_isHour wsX4_isHour) := goodIn_app (goodIn_of _ (by decide +kernel)) ggX4_habit_X4_isHour
theorem dX4_habit_0 : decode cX4_habit 0 = .ok (.aload_n 0, 1) := by decide +kernel
theorem dX4_habit_1 : decode cX4_habit 1 = .ok (.getfield 53, 3) := by decide +kernel
theorem dX4_habit_4 : decode cX4_habit 4 = .ok (.iload_n 1, 1) := by decide +kernel
theorem dX4_habit_5 : decode cX4_habit 5 = .ok (.invokevirtual 127, 3) := by decide +kernel
theorem dX4_habit_8 : decode cX4_habit 8 = .ok (.ifCond .eq 19, 3) := by decide +kernel
theorem dX4_habit_11 : decode cX4_habit 11 = .ok (.iload_n 2, 1) := by decide +kernel
theorem dX4_habit_12 : decode cX4_habit 12 = .ok (.invokestatic 152, 3) := by decide +kernel
theorem dX4_habit_15 : decode cX4_habit 15 = .ok (.ifCond .eq 12, 3) := by decide +kernel
theorem dX4_habit_18 : decode cX4_habit 18 = .ok (.iload_n 3, 1) := by decide +kernel
theorem dX4_habit_19 : decode cX4_habit 19 = .ok (.ifCond .lt 8, 3) := by decide +kernel
theorem dX4_habit_22 : decode cX4_habit 22 = .ok (.iload_n 3, 1) := by decide +kernel
theorem dX4_habit_23 : decode cX4_habit 23 = .ok (.iconst 1, 1) := by decide +kernel
theorem dX4_habit_24 : decode cX4_habit 24 = .ok (.if_icmp .le 5, 3) := by decide +kernel
theorem dX4_habit_27 : decode cX4_habit 27 = .ok (.iconst (-1), 1) := by decide +kernel
theorem dX4_habit_28 : decode cX4_habit 28 = .ok (.ireturn, 1) := by decide +kernel
theorem dX4_habit_29 : decode cX4_habit 29 = .ok (.aload_n 0, 1) := by decide +kernel
theorem dX4_habit_30 : decode cX4_habit 30 = .ok (.getfield 53, 3) := by decide +kernel
theorem dX4_habit_33 : decode cX4_habit 33 = .ok (.getfield 155, 3) := by decide +kernel
theorem dX4_habit_36 : decode cX4_habit 36 = .ok (.iload_n 1, 1) := by decide +kernel
theorem dX4_habit_37 : decode cX4_habit 37 = .ok (.iaload, 1) := by decide +kernel
theorem dX4_habit_38 : decode cX4_habit 38 = .ok (.iload_n 2, 1) := by decide +kernel
theorem dX4_habit_39 : decode cX4_habit 39 = .ok (.ishr, 1) := by decide +kernel
theorem dX4_habit_40 : decode cX4_habit 40 = .ok (.iconst 1, 1) := by decide +kernel
theorem dX4_habit_41 : decode cX4_habit 41 = .ok (.iand, 1) := by decide +kernel
theorem dX4_habit_42 : decode cX4_habit 42 = .ok (.istore 4, 2) := by decide +kernel
theorem dX4_habit_44 : decode cX4_habit 44 = .ok (.aload_n 0, 1) := by decide +kernel
theorem dX4_habit_45 : decode cX4_habit 45 = .ok (.getfield 53, 3) := by decide +kernel
theorem dX4_habit_48 : decode cX4_habit 48 = .ok (.getfield 155, 3) := by decide +kernel
theorem dX4_habit_51 : decode cX4_habit 51 = .ok (.iload_n 1, 1) := by decide +kernel
theorem dX4_habit_52 : decode cX4_habit 52 = .ok (.aload_n 0, 1) := by decide +kernel
theorem dX4_habit_53 : decode cX4_habit 53 = .ok (.getfield 53, 3) := by decide +kernel
theorem dX4_habit_56 : decode cX4_habit 56 = .ok (.getfield 155, 3) := by decide +kernel
theorem dX4_habit_59 : decode cX4_habit 59 = .ok (.iload_n 1, 1) := by decide +kernel
theorem dX4_habit_60 : decode cX4_habit 60 = .ok (.iaload, 1) := by decide +kernel
theorem dX4_habit_61 : decode cX4_habit 61 = .ok (.iconst 1, 1) := by decide +kernel
theorem dX4_habit_62 : decode cX4_habit 62 = .ok (.iload_n 2, 1) := by decide +kernel
theorem dX4_habit_63 : decode cX4_habit 63 = .ok (.ishl, 1) := by decide +kernel
theorem dX4_habit_64 : decode cX4_habit 64 = .ok (.iconst (-1), 1) := by decide +kernel
theorem dX4_habit_65 : decode cX4_habit 65 = .ok (.ixor, 1) := by decide +kernel
theorem dX4_habit_66 : decode cX4_habit 66 = .ok (.iand, 1) := by decide +kernel
theorem dX4_habit_67 : decode cX4_habit 67 = .ok (.iload_n 3, 1) := by decide +kernel
theorem dX4_habit_68 : decode cX4_habit 68 = .ok (.iload_n 2, 1) := by decide +kernel
theorem dX4_habit_69 : decode cX4_habit 69 = .ok (.ishl, 1) := by decide +kernel
theorem dX4_habit_70 : decode cX4_habit 70 = .ok (.ior, 1) := by decide +kernel
theorem dX4_habit_71 : decode cX4_habit 71 = .ok (.iastore, 1) := by decide +kernel
theorem dX4_habit_72 : decode cX4_habit 72 = .ok (.iload 4, 2) := by decide +kernel
theorem dX4_habit_74 : decode cX4_habit 74 = .ok (.ireturn, 1) := by decide +kernel
set_option maxRecDepth 20000 in
theorem ggX4_empty_X3_isPerson : GoodIn wsX4_empty wsX3_isPerson := goodIn_r _ [6, 7, 48, 49, 50, 51, 52, 53, 54, 55, 56, 57, 58] (by decide +kernel) (by decide +kernel)
set_option maxRecDepth 20000 in
theorem gX4_empty_X3_isPerson : GoodIn wsX4_empty (wsV RX4 127 RX3 yX3_isPerson wsX3_isPerson) := goodIn_app (goodIn_of _ (by decide +kernel)) ggX4_empty_X3_isPerson
set_option maxRecDepth 20000 in
theorem ggX4_empty_X3_emptyHours : GoodIn wsX4_empty wsX3_emptyHours := goodIn_r _ [11, 12, 13, 14, 5, 15, 7, 16, 17, 18, 19, 20, 21, 22, 23, 24, 25, 26, 27, 28, 29, 30, 31, 32, 33, 34, 48, 49, 50, 51, 52, 53, 54, 55, 56, 57, 58] (by decide +kernel) (by decide +kernel)
set_option maxRecDepth 20000 in
theorem gX4_empty_X3_emptyHours : GoodIn wsX4_empty (wsV RX4 158 RX3 yX3_emptyHours wsX3_emptyHours) := goodIn_app (goodIn_of _ (by decide +kernel)) ggX4_empty_X3_emptyHours
theorem dX4_empty_0 : decode cX4_empty 0 = .ok (.aload_n 0, 1) := by decide +kernel
theorem dX4_empty_1 : decode cX4_empty 1 = .ok (.getfield 53, 3) := by decide +kernel
theorem dX4_empty_4 : decode cX4_empty 4 = .ok (.iload_n 1, 1) := by decide +kernel
theorem dX4_empty_5 : decode cX4_empty 5 = .ok (.invokevirtual 127, 3) := by decide +kernel
theorem dX4_empty_8 : decode cX4_empty 8 = .ok (.ifCond .eq 14, 3) := by decide +kernel
theorem dX4_empty_11 : decode cX4_empty 11 = .ok (.aload_n 0, 1) := by decide +kernel
theorem dX4_empty_12 : decode cX4_empty 12 = .ok (.getfield 53, 3) := by decide +kernel
theorem dX4_empty_15 : decode cX4_empty 15 = .ok (.iload_n 1, 1) := by decide +kernel
theorem dX4_empty_16 : decode cX4_empty 16 = .ok (.invokevirtual 158, 3) := by decide +kernel
theorem dX4_empty_19 : decode cX4_empty 19 = .ok (.goto 4, 3) := by decide +kernel
theorem dX4_empty_22 : decode cX4_empty 22 = .ok (.iconst (-1), 1) := by decide +kernel
theorem dX4_empty_23 : decode cX4_empty 23 = .ok (.ireturn, 1) := by decide +kernel
set_option maxRecDepth 20000 in
theorem ggX4_when_X3_isDebt : GoodIn wsX4_when wsX3_isDebt := goodIn_r _ [6, 7, 55, 56, 57, 58, 59, 60, 61, 62, 63, 64, 65] (by decide +kernel) (by decide +kernel)
set_option maxRecDepth 20000 in
theorem gX4_when_X3_isDebt : GoodIn wsX4_when (wsV RX4 140 RX3 yX3_isDebt wsX3_isDebt) := goodIn_app (goodIn_of _ (by decide +kernel)) ggX4_when_X3_isDebt
set_option maxRecDepth 20000 in
theorem ggX4_when_X3_payableHours : GoodIn wsX4_when wsX3_payableHours := goodIn_r _ [11, 12, 13, 14, 5, 15, 16, 17, 18, 19, 20, 21, 22, 23, 24, 25, 26, 27, 28, 29, 30, 31, 32, 33, 34, 35, 36, 37, 38, 39, 40, 41, 55, 56, 57, 58, 59, 60, 61, 62, 63, 64, 65] (by decide +kernel) (by decide +kernel)
set_option maxRecDepth 20000 in
theorem gX4_when_X3_payableHours : GoodIn wsX4_when (wsV RX4 161 RX3 yX3_payableHours wsX3_payableHours) := goodIn_app (goodIn_of _ (by decide +kernel)) ggX4_when_X3_payableHours
theorem dX4_when_0 : decode cX4_when 0 = .ok (.aload_n 0, 1) := by decide +kernel
theorem dX4_when_1 : decode cX4_when 1 = .ok (.getfield 53, 3) := by decide +kernel
theorem dX4_when_4 : decode cX4_when 4 = .ok (.iload_n 1, 1) := by decide +kernel
theorem dX4_when_5 : decode cX4_when 5 = .ok (.invokevirtual 140, 3) := by decide +kernel
theorem dX4_when_8 : decode cX4_when 8 = .ok (.ifCond .eq 14, 3) := by decide +kernel
theorem dX4_when_11 : decode cX4_when 11 = .ok (.aload_n 0, 1) := by decide +kernel
theorem dX4_when_12 : decode cX4_when 12 = .ok (.getfield 53, 3) := by decide +kernel
theorem dX4_when_15 : decode cX4_when 15 = .ok (.iload_n 1, 1) := by decide +kernel
theorem dX4_when_16 : decode cX4_when 16 = .ok (.invokevirtual 161, 3) := by decide +kernel
theorem dX4_when_19 : decode cX4_when 19 = .ok (.goto 4, 3) := by decide +kernel
theorem dX4_when_22 : decode cX4_when 22 = .ok (.iconst (-1), 1) := by decide +kernel
theorem dX4_when_23 : decode cX4_when 23 = .ok (.ireturn, 1) := by decide +kernel
set_option maxRecDepth 20000 in
theorem ggX4_hour_X4_isHour : GoodIn wsX4_hour wsX4_isHour := goodIn_r _ [7] (by decide +kernel) (by decide +kernel)
set_option maxRecDepth 20000 in
theorem gX4_hour_X4_isHour : GoodIn wsX4_hour (va_wsS RX4 152 yX4_isHour wsX4_isHour) := goodIn_app (goodIn_of _ (by decide +kernel)) ggX4_hour_X4_isHour
set_option maxRecDepth 20000 in
theorem ggX4_hour_X3_peopleOut : GoodIn wsX4_hour wsX3_peopleOut := goodIn_r _ [12, 13, 14, 75, 76, 77, 78, 79, 80, 81, 82, 83, 84, 85] (by decide +kernel) (by decide +kernel)
set_option maxRecDepth 20000 in
theorem gX4_hour_X3_peopleOut : GoodIn wsX4_hour (wsV RX4 164 RX3 yX3_peopleOut wsX3_peopleOut) := goodIn_app (goodIn_of _ (by decide +kernel)) ggX4_hour_X3_peopleOut
set_option maxRecDepth 20000 in
theorem ggX4_hour_X3_payableDebts : GoodIn wsX4_hour wsX3_payableDebts := goodIn_r _ [18, 19, 20, 21, 22, 11, 23, 24, 25, 26, 27, 28, 29, 30, 31, 32, 33, 34, 35, 36, 37, 38, 39, 40, 41, 42, 43, 75, 76, 77, 78, 79, 80, 81, 82, 83, 84, 85] (by decide +kernel) (by decide +kernel)
set_option maxRecDepth 20000 in
theorem gX4_hour_X3_payableDebts : GoodIn wsX4_hour (wsV RX4 167 RX3 yX3_payableDebts wsX3_payableDebts) := goodIn_app (goodIn_of _ (by decide +kernel)) ggX4_hour_X3_payableDebts
set_option maxRecDepth 20000 in
theorem ggX4_hour_X2_mostAtOnce : GoodIn wsX4_hour wsX2_mostAtOnce := goodIn_r _ [48, 49, 50, 51, 52, 53, 54, 55, 56, 57, 58, 59, 60, 61, 86, 87, 88, 89, 90, 91, 92, 93, 94, 95, 96, 97] (by decide +kernel) (by decide +kernel)
set_option maxRecDepth 20000 in
theorem gX4_hour_X2_mostAtOnce : GoodIn wsX4_hour (wsV RX4 170 RX2 yX2_mostAtOnce wsX2_mostAtOnce) := goodIn_app (goodIn_of _ (by decide +kernel)) ggX4_hour_X2_mostAtOnce
theorem dX4_hour_0 : decode cX4_hour 0 = .ok (.iload_n 1, 1) := by decide +kernel
theorem dX4_hour_1 : decode cX4_hour 1 = .ok (.invokestatic 152, 3) := by decide +kernel
theorem dX4_hour_4 : decode cX4_hour 4 = .ok (.ifCond .ne 5, 3) := by decide +kernel
theorem dX4_hour_7 : decode cX4_hour 7 = .ok (.iconst (-1), 1) := by decide +kernel
theorem dX4_hour_8 : decode cX4_hour 8 = .ok (.ireturn, 1) := by decide +kernel
theorem dX4_hour_9 : decode cX4_hour 9 = .ok (.aload_n 0, 1) := by decide +kernel
theorem dX4_hour_10 : decode cX4_hour 10 = .ok (.getfield 53, 3) := by decide +kernel
theorem dX4_hour_13 : decode cX4_hour 13 = .ok (.iload_n 1, 1) := by decide +kernel
theorem dX4_hour_14 : decode cX4_hour 14 = .ok (.aload_n 0, 1) := by decide +kernel
theorem dX4_hour_15 : decode cX4_hour 15 = .ok (.getfield 53, 3) := by decide +kernel
theorem dX4_hour_18 : decode cX4_hour 18 = .ok (.iload_n 1, 1) := by decide +kernel
theorem dX4_hour_19 : decode cX4_hour 19 = .ok (.invokevirtual 164, 3) := by decide +kernel
theorem dX4_hour_22 : decode cX4_hour 22 = .ok (.invokevirtual 167, 3) := by decide +kernel
theorem dX4_hour_25 : decode cX4_hour 25 = .ok (.istore_n 2, 1) := by decide +kernel
theorem dX4_hour_26 : decode cX4_hour 26 = .ok (.aload_n 0, 1) := by decide +kernel
theorem dX4_hour_27 : decode cX4_hour 27 = .ok (.aload_n 0, 1) := by decide +kernel
theorem dX4_hour_28 : decode cX4_hour 28 = .ok (.getfield 43, 3) := by decide +kernel
theorem dX4_hour_31 : decode cX4_hour 31 = .ok (.iload_n 2, 1) := by decide +kernel
theorem dX4_hour_32 : decode cX4_hour 32 = .ok (.invokevirtual 170, 3) := by decide +kernel
theorem dX4_hour_35 : decode cX4_hour 35 = .ok (.putfield 57, 3) := by decide +kernel
theorem dX4_hour_38 : decode cX4_hour 38 = .ok (.iload_n 2, 1) := by decide +kernel
theorem dX4_hour_39 : decode cX4_hour 39 = .ok (.ireturn, 1) := by decide +kernel
set_option maxRecDepth 20000 in
theorem ggX4_judge_X4_refuseRound : GoodIn wsX4_judge wsX4_refuseRound := goodIn_r _ [7, 8, 9, 10, 1, 11, 12, 6, 13, 14, 15, 16, 17, 18, 19, 20, 21, 22, 64, 65, 66, 67, 68, 69, 70, 71, 72, 73, 74, 75, 76, 77, 78, 79, 80, 81, 82, 83, 84, 85, 86, 87] (by decide +kernel) (by decide +kernel)
set_option maxRecDepth 20000 in
theorem gX4_judge_X4_refuseRound : GoodIn wsX4_judge (wsV RX4 173 RX4 yX4_refuseRound wsX4_refuseRound) := goodIn_app (goodIn_of _ (by decide +kernel)) ggX4_judge_X4_refuseRound
set_option maxRecDepth 20000 in
theorem ggX4_judge_X4_firstAmiss : GoodIn wsX4_judge wsX4_firstAmiss := goodIn_r _ [26, 9, 10, 27, 28, 29, 6, 30, 31, 32, 33, 34, 35, 36, 37, 38, 39, 40, 41, 42, 43, 44, 45, 46, 47, 48, 49, 50, 51, 52, 53, 54, 55, 56, 57, 58, 59, 60, 61, 62, 63, 64, 65, 66, 67, 68, 69, 70, 71, 72, 73, 74, 75, 76, 77, 78, 79, 80, 81, 82, 83, 84, 85, 86, 87] (by decide +kernel) (by decide +kernel)
set_option maxRecDepth 20000 in
theorem gX4_judge_X4_firstAmiss : GoodIn wsX4_judge (wsV RX4 176 RX4 yX4_firstAmiss wsX4_firstAmiss) := goodIn_app (goodIn_of _ (by decide +kernel)) ggX4_judge_X4_firstAmiss
set_option maxRecDepth 20000 in
theorem ggX4_judge_X4_whatIsAmiss : GoodIn wsX4_judge wsX4_whatIsAmiss := goodIn_r _ [30, 9, 31, 32, 33, 34, 35, 36, 37, 38, 39, 40, 41, 42, 43, 44, 45, 46, 47, 48, 49, 50, 51, 52, 53, 54, 55, 56, 57, 58, 59, 60, 61, 62, 63, 64, 65, 66, 67, 68, 69, 70, 71, 72, 73, 74, 75, 76, 77, 78, 79, 80, 81, 82, 83, 84, 85, 86, 87] (by decide +kernel) (by decide +kernel)
set_option maxRecDepth 20000 in
theorem gX4_judge_X4_whatIsAmiss : GoodIn wsX4_judge (wsV RX4 180 RX4 yX4_whatIsAmiss wsX4_whatIsAmiss) := goodIn_app (goodIn_of _ (by decide +kernel)) ggX4_judge_X4_whatIsAmiss
theorem dX4_judge_0 : decode cX4_judge 0 = .ok (.aload_n 0, 1) := by decide +kernel
theorem dX4_judge_1 : decode cX4_judge 1 = .ok (.iload_n 1, 1) := by decide +kernel
theorem dX4_judge_2 : decode cX4_judge 2 = .ok (.invokevirtual 173, 3) := by decide +kernel
theorem dX4_judge_5 : decode cX4_judge 5 = .ok (.istore_n 2, 1) := by decide +kernel
theorem dX4_judge_6 : decode cX4_judge 6 = .ok (.iload_n 2, 1) := by decide +kernel
theorem dX4_judge_7 : decode cX4_judge 7 = .ok (.ifCond .eq 5, 3) := by decide +kernel
theorem dX4_judge_10 : decode cX4_judge 10 = .ok (.iload_n 2, 1) := by decide +kernel
theorem dX4_judge_11 : decode cX4_judge 11 = .ok (.ireturn, 1) := by decide +kernel
theorem dX4_judge_12 : decode cX4_judge 12 = .ok (.aload_n 0, 1) := by decide +kernel
theorem dX4_judge_13 : decode cX4_judge 13 = .ok (.aload_n 0, 1) := by decide +kernel
theorem dX4_judge_14 : decode cX4_judge 14 = .ok (.getfield 11, 3) := by decide +kernel
theorem dX4_judge_17 : decode cX4_judge 17 = .ok (.iload_n 1, 1) := by decide +kernel
theorem dX4_judge_18 : decode cX4_judge 18 = .ok (.aaload, 1) := by decide +kernel
theorem dX4_judge_19 : decode cX4_judge 19 = .ok (.invokevirtual 176, 3) := by decide +kernel
theorem dX4_judge_22 : decode cX4_judge 22 = .ok (.istore_n 3, 1) := by decide +kernel
theorem dX4_judge_23 : decode cX4_judge 23 = .ok (.aload_n 0, 1) := by decide +kernel
theorem dX4_judge_24 : decode cX4_judge 24 = .ok (.iload_n 3, 1) := by decide +kernel
theorem dX4_judge_25 : decode cX4_judge 25 = .ok (.bipush (-9), 2) := by decide +kernel
theorem dX4_judge_27 : decode cX4_judge 27 = .ok (.if_icmp .ne 7, 3) := by decide +kernel
theorem dX4_judge_30 : decode cX4_judge 30 = .ok (.iconst 0, 1) := by decide +kernel
theorem dX4_judge_31 : decode cX4_judge 31 = .ok (.goto 4, 3) := by decide +kernel
theorem dX4_judge_34 : decode cX4_judge 34 = .ok (.iload_n 3, 1) := by decide +kernel
theorem dX4_judge_35 : decode cX4_judge 35 = .ok (.putfield 57, 3) := by decide +kernel
theorem dX4_judge_38 : decode cX4_judge 38 = .ok (.iload_n 3, 1) := by decide +kernel
theorem dX4_judge_39 : decode cX4_judge 39 = .ok (.bipush (-9), 2) := by decide +kernel
theorem dX4_judge_41 : decode cX4_judge 41 = .ok (.if_icmp .ne 7, 3) := by decide +kernel
theorem dX4_judge_44 : decode cX4_judge 44 = .ok (.iconst 0, 1) := by decide +kernel
theorem dX4_judge_45 : decode cX4_judge 45 = .ok (.goto 14, 3) := by decide +kernel
theorem dX4_judge_48 : decode cX4_judge 48 = .ok (.aload_n 0, 1) := by decide +kernel
theorem dX4_judge_49 : decode cX4_judge 49 = .ok (.aload_n 0, 1) := by decide +kernel
theorem dX4_judge_50 : decode cX4_judge 50 = .ok (.getfield 11, 3) := by decide +kernel
theorem dX4_judge_53 : decode cX4_judge 53 = .ok (.iload_n 1, 1) := by decide +kernel
theorem dX4_judge_54 : decode cX4_judge 54 = .ok (.aaload, 1) := by decide +kernel
theorem dX4_judge_55 : decode cX4_judge 55 = .ok (.iload_n 3, 1) := by decide +kernel
theorem dX4_judge_56 : decode cX4_judge 56 = .ok (.invokevirtual 180, 3) := by decide +kernel
theorem dX4_judge_59 : decode cX4_judge 59 = .ok (.ireturn, 1) := by decide +kernel
set_option maxRecDepth 20000 in
theorem ggX4_worth_X4_refuseRound : GoodIn wsX4_worth wsX4_refuseRound := goodIn_r _ [13, 14, 2, 3, 1, 15, 16, 12, 17, 18, 19, 20, 21, 22, 23, 24, 25, 26, 74, 75, 76, 77, 78, 79, 80, 81, 82, 83, 84, 85, 86, 87, 88, 89, 90, 91, 92, 93, 94, 95, 96, 97] (by decide +kernel) (by decide +kernel)
set_option maxRecDepth 20000 in
theorem gX4_worth_X4_refuseRound : GoodIn wsX4_worth (wsV RX4 173 RX4 yX4_refuseRound wsX4_refuseRound) := goodIn_app (goodIn_of _ (by decide +kernel)) ggX4_worth_X4_refuseRound
set_option maxRecDepth 20000 in
theorem ggX4_worth_X4_firstAmiss : GoodIn wsX4_worth wsX4_firstAmiss := goodIn_r _ [30, 2, 3, 31, 32, 33, 12, 34, 35, 36, 37, 38, 39, 40, 41, 42, 43, 44, 45, 46, 47, 48, 49, 50, 51, 52, 53, 54, 55, 56, 57, 58, 59, 60, 61, 62, 63, 64, 65, 66, 67, 74, 75, 76, 77, 78, 79, 80, 81, 82, 83, 84, 85, 86, 87, 88, 89, 90, 91, 92, 93, 94, 95, 96, 97] (by decide +kernel) (by decide +kernel)
set_option maxRecDepth 20000 in
theorem gX4_worth_X4_firstAmiss : GoodIn wsX4_worth (wsV RX4 176 RX4 yX4_firstAmiss wsX4_firstAmiss) := goodIn_app (goodIn_of _ (by decide +kernel)) ggX4_worth_X4_firstAmiss
set_option maxRecDepth 20000 in
theorem ggX4_worth_X4_find : GoodIn wsX4_worth wsX4_find := goodIn_r _ [21, 22, 23, 74, 75, 76, 77, 78, 79, 80, 81, 82, 83, 84, 85, 86] (by decide +kernel) (by decide +kernel)
set_option maxRecDepth 20000 in
theorem gX4_worth_X4_find : GoodIn wsX4_worth (wsV RX4 81 RX4 yX4_find wsX4_find) := goodIn_app (goodIn_of _ (by decide +kernel)) ggX4_worth_X4_find
set_option maxRecDepth 20000 in
theorem ggX4_worth_X3_cost : GoodIn wsX4_worth wsX3_cost := goodIn_r _ [71, 72, 73, 87, 88, 89, 90, 91, 92, 93, 94, 95, 96, 97] (by decide +kernel) (by decide +kernel)
set_option maxRecDepth 20000 in
theorem gX4_worth_X3_cost : GoodIn wsX4_worth (wsV RX4 187 RX3 yX3_cost wsX3_cost) := goodIn_app (goodIn_of _ (by decide +kernel)) ggX4_worth_X3_cost
theorem dX4_worth_0 : decode cX4_worth 0 = .ok (.aload_n 0, 1) := by decide +kernel
theorem dX4_worth_1 : decode cX4_worth 1 = .ok (.iload_n 1, 1) := by decide +kernel
theorem dX4_worth_2 : decode cX4_worth 2 = .ok (.invokevirtual 173, 3) := by decide +kernel
theorem dX4_worth_5 : decode cX4_worth 5 = .ok (.istore_n 2, 1) := by decide +kernel
theorem dX4_worth_6 : decode cX4_worth 6 = .ok (.iload_n 2, 1) := by decide +kernel
theorem dX4_worth_7 : decode cX4_worth 7 = .ok (.ifCond .eq 5, 3) := by decide +kernel
theorem dX4_worth_10 : decode cX4_worth 10 = .ok (.iload_n 2, 1) := by decide +kernel
theorem dX4_worth_11 : decode cX4_worth 11 = .ok (.ireturn, 1) := by decide +kernel
theorem dX4_worth_12 : decode cX4_worth 12 = .ok (.aload_n 0, 1) := by decide +kernel
theorem dX4_worth_13 : decode cX4_worth 13 = .ok (.aload_n 0, 1) := by decide +kernel
theorem dX4_worth_14 : decode cX4_worth 14 = .ok (.getfield 11, 3) := by decide +kernel
theorem dX4_worth_17 : decode cX4_worth 17 = .ok (.iload_n 1, 1) := by decide +kernel
theorem dX4_worth_18 : decode cX4_worth 18 = .ok (.aaload, 1) := by decide +kernel
theorem dX4_worth_19 : decode cX4_worth 19 = .ok (.invokevirtual 176, 3) := by decide +kernel
theorem dX4_worth_22 : decode cX4_worth 22 = .ok (.bipush (-9), 2) := by decide +kernel
theorem dX4_worth_24 : decode cX4_worth 24 = .ok (.if_icmp .eq 9, 3) := by decide +kernel
theorem dX4_worth_27 : decode cX4_worth 27 = .ok (.aload_n 0, 1) := by decide +kernel
theorem dX4_worth_28 : decode cX4_worth 28 = .ok (.iconst 3, 1) := by decide +kernel
theorem dX4_worth_29 : decode cX4_worth 29 = .ok (.invokevirtual 81, 3) := by decide +kernel
theorem dX4_worth_32 : decode cX4_worth 32 = .ok (.ireturn, 1) := by decide +kernel
theorem dX4_worth_33 : decode cX4_worth 33 = .ok (.iconst 0, 1) := by decide +kernel
theorem dX4_worth_34 : decode cX4_worth 34 = .ok (.istore_n 3, 1) := by decide +kernel
theorem dX4_worth_35 : decode cX4_worth 35 = .ok (.iconst 0, 1) := by decide +kernel
theorem dX4_worth_36 : decode cX4_worth 36 = .ok (.istore 4, 2) := by decide +kernel
theorem dX4_worth_38 : decode cX4_worth 38 = .ok (.iconst 0, 1) := by decide +kernel
theorem dX4_worth_39 : decode cX4_worth 39 = .ok (.istore 5, 2) := by decide +kernel
theorem dX4_worth_41 : decode cX4_worth 41 = .ok (.iload 5, 2) := by decide +kernel
theorem dX4_worth_43 : decode cX4_worth 43 = .ok (.aload_n 0, 1) := by decide +kernel
theorem dX4_worth_44 : decode cX4_worth 44 = .ok (.getfield 53, 3) := by decide +kernel
theorem dX4_worth_47 : decode cX4_worth 47 = .ok (.getfield 184, 3) := by decide +kernel
theorem dX4_worth_50 : decode cX4_worth 50 = .ok (.if_icmp .ge 45, 3) := by decide +kernel
theorem dX4_worth_53 : decode cX4_worth 53 = .ok (.aload_n 0, 1) := by decide +kernel
theorem dX4_worth_54 : decode cX4_worth 54 = .ok (.getfield 11, 3) := by decide +kernel
theorem dX4_worth_57 : decode cX4_worth 57 = .ok (.iload_n 1, 1) := by decide +kernel
theorem dX4_worth_58 : decode cX4_worth 58 = .ok (.aaload, 1) := by decide +kernel
theorem dX4_worth_59 : decode cX4_worth 59 = .ok (.iload 5, 2) := by decide +kernel
theorem dX4_worth_61 : decode cX4_worth 61 = .ok (.iaload, 1) := by decide +kernel
theorem dX4_worth_62 : decode cX4_worth 62 = .ok (.istore 6, 2) := by decide +kernel
theorem dX4_worth_64 : decode cX4_worth 64 = .ok (.iload_n 3, 1) := by decide +kernel
theorem dX4_worth_65 : decode cX4_worth 65 = .ok (.aload_n 0, 1) := by decide +kernel
theorem dX4_worth_66 : decode cX4_worth 66 = .ok (.getfield 53, 3) := by decide +kernel
theorem dX4_worth_69 : decode cX4_worth 69 = .ok (.iload 5, 2) := by decide +kernel
theorem dX4_worth_71 : decode cX4_worth 71 = .ok (.iload 6, 2) := by decide +kernel
theorem dX4_worth_73 : decode cX4_worth 73 = .ok (.invokevirtual 187, 3) := by decide +kernel
theorem dX4_worth_76 : decode cX4_worth 76 = .ok (.iadd, 1) := by decide +kernel
theorem dX4_worth_77 : decode cX4_worth 77 = .ok (.istore_n 3, 1) := by decide +kernel
theorem dX4_worth_78 : decode cX4_worth 78 = .ok (.iload 4, 2) := by decide +kernel
theorem dX4_worth_80 : decode cX4_worth 80 = .ok (.iload 6, 2) := by decide +kernel
theorem dX4_worth_82 : decode cX4_worth 82 = .ok (.iconst 1, 1) := by decide +kernel
theorem dX4_worth_83 : decode cX4_worth 83 = .ok (.iadd, 1) := by decide +kernel
theorem dX4_worth_84 : decode cX4_worth 84 = .ok (.invokestatic 190, 3) := by decide +kernel
theorem dX4_worth_87 : decode cX4_worth 87 = .ok (.istore 4, 2) := by decide +kernel
theorem dX4_worth_89 : decode cX4_worth 89 = .ok (.iinc 5 1, 3) := by decide +kernel
theorem dX4_worth_92 : decode cX4_worth 92 = .ok (.goto (-51), 3) := by decide +kernel
theorem dX4_worth_95 : decode cX4_worth 95 = .ok (.aload_n 0, 1) := by decide +kernel
theorem dX4_worth_96 : decode cX4_worth 96 = .ok (.iload 4, 2) := by decide +kernel
theorem dX4_worth_98 : decode cX4_worth 98 = .ok (.putfield 57, 3) := by decide +kernel
theorem dX4_worth_101 : decode cX4_worth 101 = .ok (.iload_n 3, 1) := by decide +kernel
theorem dX4_worth_102 : decode cX4_worth 102 = .ok (.ireturn, 1) := by decide +kernel
set_option maxRecDepth 20000 in
theorem ggX4_best_X4_isRow : GoodIn wsX4_best wsX4_isRow := goodIn_r _ [14] (by decide +kernel) (by decide +kernel)
set_option maxRecDepth 20000 in
theorem gX4_best_X4_isRow : GoodIn wsX4_best (va_wsS RX4 77 yX4_isRow wsX4_isRow) := goodIn_app (goodIn_of _ (by decide +kernel)) ggX4_best_X4_isRow
set_option maxRecDepth 20000 in
theorem ggX4_best_X2_solve : GoodIn wsX4_best wsX2_solve := goodIn_r _ [19, 20, 21, 22, 23, 24, 25, 26, 27, 28, 29, 30, 31, 32, 33, 34, 35, 36, 37, 38, 39, 40, 41, 42, 43, 44, 45, 46, 47, 48, 49, 50, 51, 52, 53, 54, 55, 56, 57, 58, 59, 60, 61, 62, 63, 64, 65, 66, 67, 68, 69, 18, 70, 71, 72, 73, 74, 75, 76, 77, 78, 79, 80, 81, 82, 83, 145, 146, 147, 148, 149, 150, 151, 152, 153, 154, 155, 156, 134, 135, 136, 137, 138, 139, 140, 141, 142, 143, 144] (by decide +kernel) (by decide +kernel)
set_option maxRecDepth 20000 in
theorem gX4_best_X2_solve : GoodIn wsX4_best (wsV RX4 195 RX2 yX2_solve wsX2_solve) := goodIn_app (goodIn_of _ (by decide +kernel)) ggX4_best_X2_solve
set_option maxRecDepth 20000 in
theorem ggX4_best_X2_trace : GoodIn wsX4_best wsX2_trace := goodIn_r _ [87, 88, 89, 90, 91, 92, 93, 94, 95, 96, 18, 97, 22, 20, 75, 80, 81, 82, 83, 23, 145, 146, 147, 148, 149, 150, 151, 152, 153, 154, 155, 156] (by decide +kernel) (by decide +kernel)
set_option maxRecDepth 20000 in
theorem gX4_best_X2_trace : GoodIn wsX4_best (wsV RX4 198 RX2 yX2_trace wsX2_trace) := goodIn_app (goodIn_of _ (by decide +kernel)) ggX4_best_X2_trace
set_option maxRecDepth 20000 in
theorem ggX4_best_X4_layOutRow : GoodIn wsX4_best wsX4_layOutRow := goodIn_r _ [101, 5, 102, 103, 91, 92, 93, 121, 122, 123, 124, 125, 126, 127, 128, 129, 130, 131, 132, 133] (by decide +kernel) (by decide +kernel)
set_option maxRecDepth 20000 in
theorem gX4_best_X4_layOutRow : GoodIn wsX4_best (wsV RX4 85 RX4 yX4_layOutRow wsX4_layOutRow) := goodIn_app (goodIn_of _ (by decide +kernel)) ggX4_best_X4_layOutRow
set_option maxRecDepth 20000 in
theorem ggX4_best_X3_allValues : GoodIn wsX4_best wsX3_allValues := goodIn_r _ [107, 35, 108, 134, 135, 136, 137, 138, 139, 140, 141, 142, 143, 144] (by decide +kernel) (by decide +kernel)
set_option maxRecDepth 20000 in
theorem gX4_best_X3_allValues : GoodIn wsX4_best (wsV RX4 204 RX3 yX3_allValues wsX3_allValues) := goodIn_app (goodIn_of _ (by decide +kernel)) ggX4_best_X3_allValues
set_option maxRecDepth 20000 in
theorem ggX4_best_X2_leastLoss : GoodIn wsX4_best wsX2_leastLoss := goodIn_r _ [112, 22, 145, 146, 147, 148, 149, 150, 151, 152, 153, 154, 155, 156] (by decide +kernel) (by decide +kernel)
set_option maxRecDepth 20000 in
theorem gX4_best_X2_leastLoss : GoodIn wsX4_best (wsV RX4 208 RX2 yX2_leastLoss wsX2_leastLoss) := goodIn_app (goodIn_of _ (by decide +kernel)) ggX4_best_X2_leastLoss
set_option maxRecDepth 20000 in
theorem ggX4_best_X2_interestOf : GoodIn wsX4_best wsX2_interestOf := goodIn_r _ [116] (by decide +kernel) (by decide +kernel)
set_option maxRecDepth 20000 in
theorem gX4_best_X2_interestOf : GoodIn wsX4_best (wsV RX4 211 RX2 yX2_interestOf wsX2_interestOf) := goodIn_app (goodIn_of _ (by decide +kernel)) ggX4_best_X2_interestOf
set_option maxRecDepth 20000 in
theorem ggX4_best_X2_paidOf : GoodIn wsX4_best wsX2_paidOf := goodIn_r _ [120, 89, 145, 146, 147, 148, 149, 150, 151, 152, 153, 154, 155, 156] (by decide +kernel) (by decide +kernel)
set_option maxRecDepth 20000 in
theorem gX4_best_X2_paidOf : GoodIn wsX4_best (wsV RX4 214 RX2 yX2_paidOf wsX2_paidOf) := goodIn_app (goodIn_of _ (by decide +kernel)) ggX4_best_X2_paidOf
theorem dX4_best_0 : decode cX4_best 0 = .ok (.iload_n 1, 1) := by decide +kernel
theorem dX4_best_1 : decode cX4_best 1 = .ok (.invokestatic 77, 3) := by decide +kernel
theorem dX4_best_4 : decode cX4_best 4 = .ok (.ifCond .ne 5, 3) := by decide +kernel
theorem dX4_best_7 : decode cX4_best 7 = .ok (.iconst (-1), 1) := by decide +kernel
theorem dX4_best_8 : decode cX4_best 8 = .ok (.ireturn, 1) := by decide +kernel
theorem dX4_best_9 : decode cX4_best 9 = .ok (.aload_n 0, 1) := by decide +kernel
theorem dX4_best_10 : decode cX4_best 10 = .ok (.getfield 43, 3) := by decide +kernel
theorem dX4_best_13 : decode cX4_best 13 = .ok (.aload_n 0, 1) := by decide +kernel
theorem dX4_best_14 : decode cX4_best 14 = .ok (.getfield 53, 3) := by decide +kernel
theorem dX4_best_17 : decode cX4_best 17 = .ok (.invokevirtual 195, 3) := by decide +kernel
theorem dX4_best_20 : decode cX4_best 20 = .ok (.aload_n 0, 1) := by decide +kernel
theorem dX4_best_21 : decode cX4_best 21 = .ok (.getfield 43, 3) := by decide +kernel
theorem dX4_best_24 : decode cX4_best 24 = .ok (.invokevirtual 198, 3) := by decide +kernel
theorem dX4_best_27 : decode cX4_best 27 = .ok (.aload_n 0, 1) := by decide +kernel
theorem dX4_best_28 : decode cX4_best 28 = .ok (.iload_n 1, 1) := by decide +kernel
theorem dX4_best_29 : decode cX4_best 29 = .ok (.aload_n 0, 1) := by decide +kernel
theorem dX4_best_30 : decode cX4_best 30 = .ok (.getfield 53, 3) := by decide +kernel
theorem dX4_best_33 : decode cX4_best 33 = .ok (.getfield 184, 3) := by decide +kernel
theorem dX4_best_36 : decode cX4_best 36 = .ok (.bipush (-9), 2) := by decide +kernel
theorem dX4_best_38 : decode cX4_best 38 = .ok (.invokevirtual 85, 3) := by decide +kernel
theorem dX4_best_41 : decode cX4_best 41 = .ok (.aload_n 0, 1) := by decide +kernel
theorem dX4_best_42 : decode cX4_best 42 = .ok (.getfield 43, 3) := by decide +kernel
theorem dX4_best_45 : decode cX4_best 45 = .ok (.getfield 201, 3) := by decide +kernel
theorem dX4_best_48 : decode cX4_best 48 = .ok (.iconst 0, 1) := by decide +kernel
theorem dX4_best_49 : decode cX4_best 49 = .ok (.aload_n 0, 1) := by decide +kernel
theorem dX4_best_50 : decode cX4_best 50 = .ok (.getfield 11, 3) := by decide +kernel
theorem dX4_best_53 : decode cX4_best 53 = .ok (.iload_n 1, 1) := by decide +kernel
theorem dX4_best_54 : decode cX4_best 54 = .ok (.aaload, 1) := by decide +kernel
theorem dX4_best_55 : decode cX4_best 55 = .ok (.iconst 0, 1) := by decide +kernel
theorem dX4_best_56 : decode cX4_best 56 = .ok (.aload_n 0, 1) := by decide +kernel
theorem dX4_best_57 : decode cX4_best 57 = .ok (.getfield 53, 3) := by decide +kernel
theorem dX4_best_60 : decode cX4_best 60 = .ok (.getfield 184, 3) := by decide +kernel
theorem dX4_best_63 : decode cX4_best 63 = .ok (.invokestatic 97, 3) := by decide +kernel
theorem dX4_best_66 : decode cX4_best 66 = .ok (.aload_n 0, 1) := by decide +kernel
theorem dX4_best_67 : decode cX4_best 67 = .ok (.aload_n 0, 1) := by decide +kernel
theorem dX4_best_68 : decode cX4_best 68 = .ok (.getfield 53, 3) := by decide +kernel
theorem dX4_best_71 : decode cX4_best 71 = .ok (.invokevirtual 204, 3) := by decide +kernel
theorem dX4_best_74 : decode cX4_best 74 = .ok (.aload_n 0, 1) := by decide +kernel
theorem dX4_best_75 : decode cX4_best 75 = .ok (.getfield 43, 3) := by decide +kernel
theorem dX4_best_78 : decode cX4_best 78 = .ok (.aload_n 0, 1) := by decide +kernel
theorem dX4_best_79 : decode cX4_best 79 = .ok (.getfield 43, 3) := by decide +kernel
theorem dX4_best_82 : decode cX4_best 82 = .ok (.invokevirtual 208, 3) := by decide +kernel
theorem dX4_best_85 : decode cX4_best 85 = .ok (.invokevirtual 211, 3) := by decide +kernel
theorem dX4_best_88 : decode cX4_best 88 = .ok (.iadd, 1) := by decide +kernel
theorem dX4_best_89 : decode cX4_best 89 = .ok (.putfield 57, 3) := by decide +kernel
theorem dX4_best_92 : decode cX4_best 92 = .ok (.aload_n 0, 1) := by decide +kernel
theorem dX4_best_93 : decode cX4_best 93 = .ok (.getfield 43, 3) := by decide +kernel
theorem dX4_best_96 : decode cX4_best 96 = .ok (.aload_n 0, 1) := by decide +kernel
theorem dX4_best_97 : decode cX4_best 97 = .ok (.getfield 43, 3) := by decide +kernel
theorem dX4_best_100 : decode cX4_best 100 = .ok (.invokevirtual 208, 3) := by decide +kernel
theorem dX4_best_103 : decode cX4_best 103 = .ok (.invokevirtual 214, 3) := by decide +kernel
theorem dX4_best_106 : decode cX4_best 106 = .ok (.ireturn, 1) := by decide +kernel
set_option maxRecDepth 20000 in
theorem ggX4_ways_X2_solve : GoodIn wsX4_ways wsX2_solve := goodIn_r _ [9, 10, 11, 12, 13, 14, 15, 16, 17, 18, 19, 20, 21, 22, 23, 24, 25, 26, 27, 28, 29, 30, 31, 32, 33, 34, 35, 36, 37, 38, 39, 40, 41, 42, 43, 44, 45, 46, 47, 48, 49, 50, 51, 52, 53, 54, 55, 56, 57, 58, 59, 8, 60, 61, 62, 63, 64, 65, 66, 67, 68, 69, 70, 71, 72, 73, 100, 101, 102, 103, 104, 105, 106, 107, 108, 109, 110, 111, 112, 113, 114, 115, 116, 117, 118, 119, 120, 121, 122] (by decide +kernel) (by decide +kernel)
set_option maxRecDepth 20000 in
theorem gX4_ways_X2_solve : GoodIn wsX4_ways (wsV RX4 195 RX2 yX2_solve wsX2_solve) := goodIn_app (goodIn_of _ (by decide +kernel)) ggX4_ways_X2_solve
set_option maxRecDepth 20000 in
theorem ggX4_ways_X2_countBest : GoodIn wsX4_ways wsX2_countBest := goodIn_r _ [77, 78, 11, 79, 80, 81, 82, 83, 84, 85, 8, 86, 10, 65, 12, 70, 71, 72, 73, 13, 100, 101, 102, 103, 104, 105, 106, 107, 108, 109, 110, 111] (by decide +kernel) (by decide +kernel)
set_option maxRecDepth 20000 in
theorem gX4_ways_X2_countBest : GoodIn wsX4_ways (wsV RX4 217 RX2 yX2_countBest wsX2_countBest) := goodIn_app (goodIn_of _ (by decide +kernel)) ggX4_ways_X2_countBest
theorem dX4_ways_0 : decode cX4_ways 0 = .ok (.aload_n 0, 1) := by decide +kernel
theorem dX4_ways_1 : decode cX4_ways 1 = .ok (.getfield 43, 3) := by decide +kernel
theorem dX4_ways_4 : decode cX4_ways 4 = .ok (.aload_n 0, 1) := by decide +kernel
theorem dX4_ways_5 : decode cX4_ways 5 = .ok (.getfield 53, 3) := by decide +kernel
theorem dX4_ways_8 : decode cX4_ways 8 = .ok (.invokevirtual 195, 3) := by decide +kernel
theorem dX4_ways_11 : decode cX4_ways 11 = .ok (.aload_n 0, 1) := by decide +kernel
theorem dX4_ways_12 : decode cX4_ways 12 = .ok (.aload_n 0, 1) := by decide +kernel
theorem dX4_ways_13 : decode cX4_ways 13 = .ok (.getfield 43, 3) := by decide +kernel
theorem dX4_ways_16 : decode cX4_ways 16 = .ok (.invokevirtual 217, 3) := by decide +kernel
theorem dX4_ways_19 : decode cX4_ways 19 = .ok (.putfield 61, 3) := by decide +kernel
theorem dX4_ways_22 : decode cX4_ways 22 = .ok (.aload_n 0, 1) := by decide +kernel
theorem dX4_ways_23 : decode cX4_ways 23 = .ok (.lconst 1, 1) := by decide +kernel
theorem dX4_ways_24 : decode cX4_ways 24 = .ok (.putfield 65, 3) := by decide +kernel
theorem dX4_ways_27 : decode cX4_ways 27 = .ok (.iconst 1, 1) := by decide +kernel
theorem dX4_ways_28 : decode cX4_ways 28 = .ok (.ireturn, 1) := by decide +kernel
set_option maxRecDepth 20000 in
theorem ggX4_soonest_X2_solve : GoodIn wsX4_soonest wsX2_solve := goodIn_r _ [8, 9, 10, 11, 12, 13, 14, 15, 16, 17, 18, 19, 20, 21, 22, 23, 24, 25, 26, 27, 28, 29, 30, 31, 32, 33, 34, 35, 36, 37, 38, 39, 40, 41, 42, 43, 44, 45, 46, 47, 48, 49, 50, 51, 52, 53, 54, 55, 56, 57, 58, 7, 59, 60, 61, 62, 63, 64, 65, 66, 67, 68, 69, 70, 71, 72, 127, 128, 129, 130, 131, 132, 133, 134, 135, 136, 137, 138, 139, 140, 141, 142, 143, 144, 145, 146, 147, 148, 149] (by decide +kernel) (by decide +kernel)
set_option maxRecDepth 20000 in
theorem gX4_soonest_X2_solve : GoodIn wsX4_soonest (wsV RX4 195 RX2 yX2_solve wsX2_solve) := goodIn_app (goodIn_of _ (by decide +kernel)) ggX4_soonest_X2_solve
set_option maxRecDepth 20000 in
theorem ggX4_soonest_X2_leastEnd : GoodIn wsX4_soonest wsX2_leastEnd := goodIn_r _ [76, 77, 78, 79, 7, 80, 81, 82, 83, 84, 85, 86, 87, 88, 89, 90, 10, 11, 65, 66, 67, 68, 91, 92, 93, 94, 95, 96, 97, 98, 99, 100, 101, 102, 103, 9, 64, 12, 127, 128, 129, 130, 131, 132, 133, 134, 135, 136, 137, 138] (by decide +kernel) (by decide +kernel)
set_option maxRecDepth 20000 in
theorem gX4_soonest_X2_leastEnd : GoodIn wsX4_soonest (wsV RX4 221 RX2 yX2_leastEnd wsX2_leastEnd) := goodIn_app (goodIn_of _ (by decide +kernel)) ggX4_soonest_X2_leastEnd
set_option maxRecDepth 20000 in
theorem ggX4_soonest_X3_allValues : GoodIn wsX4_soonest wsX3_allValues := goodIn_r _ [107, 24, 108, 139, 140, 141, 142, 143, 144, 145, 146, 147, 148, 149] (by decide +kernel) (by decide +kernel)
set_option maxRecDepth 20000 in
theorem gX4_soonest_X3_allValues : GoodIn wsX4_soonest (wsV RX4 204 RX3 yX3_allValues wsX3_allValues) := goodIn_app (goodIn_of _ (by decide +kernel)) ggX4_soonest_X3_allValues
set_option maxRecDepth 20000 in
theorem ggX4_soonest_X2_lossBefore : GoodIn wsX4_soonest wsX2_lossBefore := goodIn_r _ [90, 82, 10, 81, 11, 65, 66, 67, 68, 127, 128, 129, 130, 131, 132, 133, 134, 135, 136, 137, 138] (by decide +kernel) (by decide +kernel)
set_option maxRecDepth 20000 in
theorem gX4_soonest_X2_lossBefore : GoodIn wsX4_soonest (wsV RX4 224 RX2 yX2_lossBefore wsX2_lossBefore) := goodIn_app (goodIn_of _ (by decide +kernel)) ggX4_soonest_X2_lossBefore
set_option maxRecDepth 20000 in
theorem ggX4_soonest_X2_interestOf : GoodIn wsX4_soonest wsX2_interestOf := goodIn_r _ [113] (by decide +kernel) (by decide +kernel)
set_option maxRecDepth 20000 in
theorem gX4_soonest_X2_interestOf : GoodIn wsX4_soonest (wsV RX4 211 RX2 yX2_interestOf wsX2_interestOf) := goodIn_app (goodIn_of _ (by decide +kernel)) ggX4_soonest_X2_interestOf
theorem dX4_soonest_0 : decode cX4_soonest 0 = .ok (.aload_n 0, 1) := by decide +kernel
theorem dX4_soonest_1 : decode cX4_soonest 1 = .ok (.getfield 43, 3) := by decide +kernel
theorem dX4_soonest_4 : decode cX4_soonest 4 = .ok (.aload_n 0, 1) := by decide +kernel
theorem dX4_soonest_5 : decode cX4_soonest 5 = .ok (.getfield 53, 3) := by decide +kernel
theorem dX4_soonest_8 : decode cX4_soonest 8 = .ok (.invokevirtual 195, 3) := by decide +kernel
theorem dX4_soonest_11 : decode cX4_soonest 11 = .ok (.aload_n 0, 1) := by decide +kernel
theorem dX4_soonest_12 : decode cX4_soonest 12 = .ok (.getfield 43, 3) := by decide +kernel
theorem dX4_soonest_15 : decode cX4_soonest 15 = .ok (.invokevirtual 221, 3) := by decide +kernel
theorem dX4_soonest_18 : decode cX4_soonest 18 = .ok (.istore_n 1, 1) := by decide +kernel
theorem dX4_soonest_19 : decode cX4_soonest 19 = .ok (.aload_n 0, 1) := by decide +kernel
theorem dX4_soonest_20 : decode cX4_soonest 20 = .ok (.aload_n 0, 1) := by decide +kernel
theorem dX4_soonest_21 : decode cX4_soonest 21 = .ok (.getfield 53, 3) := by decide +kernel
theorem dX4_soonest_24 : decode cX4_soonest 24 = .ok (.invokevirtual 204, 3) := by decide +kernel
theorem dX4_soonest_27 : decode cX4_soonest 27 = .ok (.aload_n 0, 1) := by decide +kernel
theorem dX4_soonest_28 : decode cX4_soonest 28 = .ok (.getfield 43, 3) := by decide +kernel
theorem dX4_soonest_31 : decode cX4_soonest 31 = .ok (.aload_n 0, 1) := by decide +kernel
theorem dX4_soonest_32 : decode cX4_soonest 32 = .ok (.getfield 43, 3) := by decide +kernel
theorem dX4_soonest_35 : decode cX4_soonest 35 = .ok (.invokevirtual 224, 3) := by decide +kernel
theorem dX4_soonest_38 : decode cX4_soonest 38 = .ok (.invokevirtual 211, 3) := by decide +kernel
theorem dX4_soonest_41 : decode cX4_soonest 41 = .ok (.iadd, 1) := by decide +kernel
theorem dX4_soonest_42 : decode cX4_soonest 42 = .ok (.putfield 57, 3) := by decide +kernel
theorem dX4_soonest_45 : decode cX4_soonest 45 = .ok (.iload_n 1, 1) := by decide +kernel
theorem dX4_soonest_46 : decode cX4_soonest 46 = .ok (.ireturn, 1) := by decide +kernel
set_option maxRecDepth 20000 in
theorem ggX4_rings_X3_smallestRing : GoodIn wsX4_rings wsX3_smallestRing := goodIn_r _ [12, 13, 14, 15, 16, 11, 17, 18, 19, 20, 21, 22, 23, 37, 38, 39, 40, 41, 42, 43, 44, 45, 46, 47] (by decide +kernel) (by decide +kernel)
set_option maxRecDepth 20000 in
theorem gX4_rings_X3_smallestRing : GoodIn wsX4_rings (wsV RX4 227 RX3 yX3_smallestRing wsX3_smallestRing) := goodIn_app (goodIn_of _ (by decide +kernel)) ggX4_rings_X3_smallestRing
theorem dX4_rings_0 : decode cX4_rings 0 = .ok (.iconst 0, 1) := by decide +kernel
theorem dX4_rings_1 : decode cX4_rings 1 = .ok (.istore_n 1, 1) := by decide +kernel
theorem dX4_rings_2 : decode cX4_rings 2 = .ok (.iconst 0, 1) := by decide +kernel
theorem dX4_rings_3 : decode cX4_rings 3 = .ok (.istore_n 2, 1) := by decide +kernel
theorem dX4_rings_4 : decode cX4_rings 4 = .ok (.iconst 0, 1) := by decide +kernel
theorem dX4_rings_5 : decode cX4_rings 5 = .ok (.istore_n 3, 1) := by decide +kernel
theorem dX4_rings_6 : decode cX4_rings 6 = .ok (.iload_n 3, 1) := by decide +kernel
theorem dX4_rings_7 : decode cX4_rings 7 = .ok (.aload_n 0, 1) := by decide +kernel
theorem dX4_rings_8 : decode cX4_rings 8 = .ok (.getfield 53, 3) := by decide +kernel
theorem dX4_rings_11 : decode cX4_rings 11 = .ok (.getfield 124, 3) := by decide +kernel
theorem dX4_rings_14 : decode cX4_rings 14 = .ok (.if_icmp .ge 46, 3) := by decide +kernel
theorem dX4_rings_17 : decode cX4_rings 17 = .ok (.aload_n 0, 1) := by decide +kernel
theorem dX4_rings_18 : decode cX4_rings 18 = .ok (.getfield 53, 3) := by decide +kernel
theorem dX4_rings_21 : decode cX4_rings 21 = .ok (.iload_n 3, 1) := by decide +kernel
theorem dX4_rings_22 : decode cX4_rings 22 = .ok (.invokevirtual 227, 3) := by decide +kernel
theorem dX4_rings_25 : decode cX4_rings 25 = .ok (.istore 4, 2) := by decide +kernel
theorem dX4_rings_27 : decode cX4_rings 27 = .ok (.iload 4, 2) := by decide +kernel
theorem dX4_rings_29 : decode cX4_rings 29 = .ok (.ifCond .le 25, 3) := by decide +kernel
theorem dX4_rings_32 : decode cX4_rings 32 = .ok (.iload_n 1, 1) := by decide +kernel
theorem dX4_rings_33 : decode cX4_rings 33 = .ok (.iconst 1, 1) := by decide +kernel
theorem dX4_rings_34 : decode cX4_rings 34 = .ok (.iload_n 3, 1) := by decide +kernel
theorem dX4_rings_35 : decode cX4_rings 35 = .ok (.ishl, 1) := by decide +kernel
theorem dX4_rings_36 : decode cX4_rings 36 = .ok (.ior, 1) := by decide +kernel
theorem dX4_rings_37 : decode cX4_rings 37 = .ok (.istore_n 1, 1) := by decide +kernel
theorem dX4_rings_38 : decode cX4_rings 38 = .ok (.iload_n 2, 1) := by decide +kernel
theorem dX4_rings_39 : decode cX4_rings 39 = .ok (.ifCond .ne 8, 3) := by decide +kernel
theorem dX4_rings_42 : decode cX4_rings 42 = .ok (.iload 4, 2) := by decide +kernel
theorem dX4_rings_44 : decode cX4_rings 44 = .ok (.goto 9, 3) := by decide +kernel
theorem dX4_rings_47 : decode cX4_rings 47 = .ok (.iload_n 2, 1) := by decide +kernel
theorem dX4_rings_48 : decode cX4_rings 48 = .ok (.iload 4, 2) := by decide +kernel
theorem dX4_rings_50 : decode cX4_rings 50 = .ok (.invokestatic 230, 3) := by decide +kernel
theorem dX4_rings_53 : decode cX4_rings 53 = .ok (.istore_n 2, 1) := by decide +kernel
theorem dX4_rings_54 : decode cX4_rings 54 = .ok (.iinc 3 1, 3) := by decide +kernel
theorem dX4_rings_57 : decode cX4_rings 57 = .ok (.goto (-51), 3) := by decide +kernel
theorem dX4_rings_60 : decode cX4_rings 60 = .ok (.aload_n 0, 1) := by decide +kernel
theorem dX4_rings_61 : decode cX4_rings 61 = .ok (.iload_n 2, 1) := by decide +kernel
theorem dX4_rings_62 : decode cX4_rings 62 = .ok (.putfield 57, 3) := by decide +kernel
theorem dX4_rings_65 : decode cX4_rings 65 = .ok (.iload_n 1, 1) := by decide +kernel
theorem dX4_rings_66 : decode cX4_rings 66 = .ok (.ireturn, 1) := by decide +kernel
set_option maxRecDepth 20000 in
theorem ggX4_few_X4_isHour : GoodIn wsX4_few wsX4_isHour := goodIn_r _ [8] (by decide +kernel) (by decide +kernel)
set_option maxRecDepth 20000 in
theorem gX4_few_X4_isHour : GoodIn wsX4_few (va_wsS RX4 152 yX4_isHour wsX4_isHour) := goodIn_app (goodIn_of _ (by decide +kernel)) ggX4_few_X4_isHour
set_option maxRecDepth 20000 in
theorem ggX4_few_X3_peopleOut : GoodIn wsX4_few wsX3_peopleOut := goodIn_r _ [13, 14, 15, 77, 78, 79, 80, 81, 82, 83, 84, 85, 86, 87] (by decide +kernel) (by decide +kernel)
set_option maxRecDepth 20000 in
theorem gX4_few_X3_peopleOut : GoodIn wsX4_few (wsV RX4 164 RX3 yX3_peopleOut wsX3_peopleOut) := goodIn_app (goodIn_of _ (by decide +kernel)) ggX4_few_X3_peopleOut
set_option maxRecDepth 20000 in
theorem ggX4_few_J6_bitCount_0f7a4 : GoodIn wsX4_few wsJ6_bitCount_0f7a4 := goodIn_r _ [19, 20, 21, 22] (by decide +kernel) (by decide +kernel)
set_option maxRecDepth 20000 in
theorem gX4_few_J6_bitCount_0f7a4 : GoodIn wsX4_few (va_wsS RX4 233 yJ6_bitCount_0f7a4 wsJ6_bitCount_0f7a4) := goodIn_app (goodIn_of _ (by decide +kernel)) ggX4_few_J6_bitCount_0f7a4
set_option maxRecDepth 20000 in
theorem ggX4_few_X3_payableDebts : GoodIn wsX4_few wsX3_payableDebts := goodIn_r _ [26, 27, 28, 29, 30, 12, 31, 32, 33, 34, 35, 36, 37, 38, 39, 40, 41, 42, 43, 44, 45, 46, 47, 48, 49, 50, 51, 77, 78, 79, 80, 81, 82, 83, 84, 85, 86, 87] (by decide +kernel) (by decide +kernel)
set_option maxRecDepth 20000 in
theorem gX4_few_X3_payableDebts : GoodIn wsX4_few (wsV RX4 167 RX3 yX3_payableDebts wsX3_payableDebts) := goodIn_app (goodIn_of _ (by decide +kernel)) ggX4_few_X3_payableDebts
set_option maxRecDepth 20000 in
theorem ggX4_few_X2_mostAtOnce : GoodIn wsX4_few wsX2_mostAtOnce := goodIn_r _ [56, 57, 58, 59, 60, 61, 62, 63, 17, 18, 19, 20, 21, 22, 88, 89, 90, 91, 92, 93, 94, 95, 96, 97, 98, 99] (by decide +kernel) (by decide +kernel)
set_option maxRecDepth 20000 in
theorem gX4_few_X2_mostAtOnce : GoodIn wsX4_few (wsV RX4 170 RX2 yX2_mostAtOnce wsX2_mostAtOnce) := goodIn_app (goodIn_of _ (by decide +kernel)) ggX4_few_X2_mostAtOnce
theorem dX4_few_0 : decode cX4_few 0 = .ok (.iload_n 1, 1) := by decide +kernel
theorem dX4_few_1 : decode cX4_few 1 = .ok (.invokestatic 152, 3) := by decide +kernel
theorem dX4_few_4 : decode cX4_few 4 = .ok (.ifCond .eq 14, 3) := by decide +kernel
theorem dX4_few_7 : decode cX4_few 7 = .ok (.iload_n 2, 1) := by decide +kernel
theorem dX4_few_8 : decode cX4_few 8 = .ok (.iconst 1, 1) := by decide +kernel
theorem dX4_few_9 : decode cX4_few 9 = .ok (.if_icmp .lt 9, 3) := by decide +kernel
theorem dX4_few_12 : decode cX4_few 12 = .ok (.iload_n 2, 1) := by decide +kernel
theorem dX4_few_13 : decode cX4_few 13 = .ok (.bipush 8, 2) := by decide +kernel
theorem dX4_few_15 : decode cX4_few 15 = .ok (.if_icmp .le 5, 3) := by decide +kernel
theorem dX4_few_18 : decode cX4_few 18 = .ok (.iconst (-1), 1) := by decide +kernel
theorem dX4_few_19 : decode cX4_few 19 = .ok (.ireturn, 1) := by decide +kernel
theorem dX4_few_20 : decode cX4_few 20 = .ok (.aload_n 0, 1) := by decide +kernel
theorem dX4_few_21 : decode cX4_few 21 = .ok (.getfield 53, 3) := by decide +kernel
theorem dX4_few_24 : decode cX4_few 24 = .ok (.iload_n 1, 1) := by decide +kernel
theorem dX4_few_25 : decode cX4_few 25 = .ok (.invokevirtual 164, 3) := by decide +kernel
theorem dX4_few_28 : decode cX4_few 28 = .ok (.istore_n 3, 1) := by decide +kernel
theorem dX4_few_29 : decode cX4_few 29 = .ok (.bipush 7, 2) := by decide +kernel
theorem dX4_few_31 : decode cX4_few 31 = .ok (.istore 4, 2) := by decide +kernel
theorem dX4_few_33 : decode cX4_few 33 = .ok (.iconst 0, 1) := by decide +kernel
theorem dX4_few_34 : decode cX4_few 34 = .ok (.istore 5, 2) := by decide +kernel
theorem dX4_few_36 : decode cX4_few 36 = .ok (.iconst 0, 1) := by decide +kernel
theorem dX4_few_37 : decode cX4_few 37 = .ok (.istore 6, 2) := by decide +kernel
theorem dX4_few_39 : decode cX4_few 39 = .ok (.iload 6, 2) := by decide +kernel
theorem dX4_few_41 : decode cX4_few 41 = .ok (.iconst 1, 1) := by decide +kernel
theorem dX4_few_42 : decode cX4_few 42 = .ok (.aload_n 0, 1) := by decide +kernel
theorem dX4_few_43 : decode cX4_few 43 = .ok (.getfield 53, 3) := by decide +kernel
theorem dX4_few_46 : decode cX4_few 46 = .ok (.getfield 124, 3) := by decide +kernel
theorem dX4_few_49 : decode cX4_few 49 = .ok (.ishl, 1) := by decide +kernel
theorem dX4_few_50 : decode cX4_few 50 = .ok (.if_icmp .ge 61, 3) := by decide +kernel
theorem dX4_few_53 : decode cX4_few 53 = .ok (.iload 6, 2) := by decide +kernel
theorem dX4_few_55 : decode cX4_few 55 = .ok (.invokestatic 233, 3) := by decide +kernel
theorem dX4_few_58 : decode cX4_few 58 = .ok (.istore 7, 2) := by decide +kernel
theorem dX4_few_60 : decode cX4_few 60 = .ok (.iload 7, 2) := by decide +kernel
theorem dX4_few_62 : decode cX4_few 62 = .ok (.iload 4, 2) := by decide +kernel
theorem dX4_few_64 : decode cX4_few 64 = .ok (.if_icmp .ge 41, 3) := by decide +kernel
theorem dX4_few_67 : decode cX4_few 67 = .ok (.iload 6, 2) := by decide +kernel
theorem dX4_few_69 : decode cX4_few 69 = .ok (.iload_n 3, 1) := by decide +kernel
theorem dX4_few_70 : decode cX4_few 70 = .ok (.iand, 1) := by decide +kernel
theorem dX4_few_71 : decode cX4_few 71 = .ok (.ifCond .ne 34, 3) := by decide +kernel
theorem dX4_few_74 : decode cX4_few 74 = .ok (.aload_n 0, 1) := by decide +kernel
theorem dX4_few_75 : decode cX4_few 75 = .ok (.getfield 43, 3) := by decide +kernel
theorem dX4_few_78 : decode cX4_few 78 = .ok (.aload_n 0, 1) := by decide +kernel
theorem dX4_few_79 : decode cX4_few 79 = .ok (.getfield 53, 3) := by decide +kernel
theorem dX4_few_82 : decode cX4_few 82 = .ok (.iload_n 1, 1) := by decide +kernel
theorem dX4_few_83 : decode cX4_few 83 = .ok (.iload_n 3, 1) := by decide +kernel
theorem dX4_few_84 : decode cX4_few 84 = .ok (.iload 6, 2) := by decide +kernel
theorem dX4_few_86 : decode cX4_few 86 = .ok (.ior, 1) := by decide +kernel
theorem dX4_few_87 : decode cX4_few 87 = .ok (.invokevirtual 167, 3) := by decide +kernel
theorem dX4_few_90 : decode cX4_few 90 = .ok (.invokevirtual 170, 3) := by decide +kernel
theorem dX4_few_93 : decode cX4_few 93 = .ok (.iload_n 2, 1) := by decide +kernel
theorem dX4_few_94 : decode cX4_few 94 = .ok (.if_icmp .lt 11, 3) := by decide +kernel
theorem dX4_few_97 : decode cX4_few 97 = .ok (.iload 7, 2) := by decide +kernel
theorem dX4_few_99 : decode cX4_few 99 = .ok (.istore 4, 2) := by decide +kernel
theorem dX4_few_101 : decode cX4_few 101 = .ok (.iload 6, 2) := by decide +kernel
theorem dX4_few_103 : decode cX4_few 103 = .ok (.istore 5, 2) := by decide +kernel
theorem dX4_few_105 : decode cX4_few 105 = .ok (.iinc 6 1, 3) := by decide +kernel
theorem dX4_few_108 : decode cX4_few 108 = .ok (.goto (-69), 3) := by decide +kernel
theorem dX4_few_111 : decode cX4_few 111 = .ok (.iload 4, 2) := by decide +kernel
theorem dX4_few_113 : decode cX4_few 113 = .ok (.bipush 6, 2) := by decide +kernel
theorem dX4_few_115 : decode cX4_few 115 = .ok (.if_icmp .le 6, 3) := by decide +kernel
theorem dX4_few_118 : decode cX4_few 118 = .ok (.bipush (-9), 2) := by decide +kernel
theorem dX4_few_120 : decode cX4_few 120 = .ok (.ireturn, 1) := by decide +kernel
theorem dX4_few_121 : decode cX4_few 121 = .ok (.aload_n 0, 1) := by decide +kernel
theorem dX4_few_122 : decode cX4_few 122 = .ok (.iload 5, 2) := by decide +kernel
theorem dX4_few_124 : decode cX4_few 124 = .ok (.putfield 57, 3) := by decide +kernel
theorem dX4_few_127 : decode cX4_few 127 = .ok (.iload 4, 2) := by decide +kernel
theorem dX4_few_129 : decode cX4_few 129 = .ok (.ireturn, 1) := by decide +kernel
set_option maxRecDepth 20000 in
theorem ggX4_call_X2_solve : GoodIn wsX4_call wsX2_solve := goodIn_r _ [11, 12, 13, 14, 15, 16, 17, 18, 19, 20, 21, 22, 23, 24, 25, 26, 27, 28, 29, 30, 31, 32, 33, 34, 35, 36, 37, 38, 39, 40, 41, 42, 43, 44, 45, 46, 47, 48, 49, 50, 51, 52, 53, 54, 55, 56, 57, 58, 59, 60, 61, 10, 62, 63, 64, 65, 66, 67, 68, 69, 70, 71, 72, 73, 74, 75, 129, 130, 131, 132, 133, 134, 135, 136, 137, 138, 139, 140, 141, 142, 143, 144, 145, 146, 147, 148, 149, 150, 151] (by decide +kernel) (by decide +kernel)
set_option maxRecDepth 20000 in
theorem gX4_call_X2_solve : GoodIn wsX4_call (wsV RX4 195 RX2 yX2_solve wsX2_solve) := goodIn_app (goodIn_of _ (by decide +kernel)) ggX4_call_X2_solve
set_option maxRecDepth 20000 in
theorem ggX4_call_X2_findCall : GoodIn wsX4_call wsX2_findCall := goodIn_r _ [79, 80, 81, 82, 83, 84, 85, 10, 86, 87, 88, 89, 90, 91, 92, 16, 17, 18, 19, 20, 21, 22, 23, 24, 25, 26, 27, 28, 29, 30, 31, 32, 33, 34, 35, 36, 37, 38, 39, 40, 41, 42, 43, 44, 45, 46, 47, 48, 49, 50, 51, 93, 94, 95, 96, 12, 13, 68, 69, 70, 71, 97, 98, 99, 100, 14, 63, 64, 65, 66, 67, 72, 73, 74, 75, 15, 101, 102, 103, 104, 105, 106, 107, 108, 109, 110, 129, 130, 131, 132, 133, 134, 135, 136, 137, 138, 139, 140, 141, 142, 143, 144, 145, 146, 147, 148, 149, 150, 151] (by decide +kernel) (by decide +kernel)
set_option maxRecDepth 20000 in
theorem gX4_call_X2_findCall : GoodIn wsX4_call (wsV RX4 238 RX2 yX2_findCall wsX2_findCall) := goodIn_app (goodIn_of _ (by decide +kernel)) ggX4_call_X2_findCall
set_option maxRecDepth 20000 in
theorem ggX4_call_X2_leastLoss : GoodIn wsX4_call wsX2_leastLoss := goodIn_r _ [100, 14, 129, 130, 131, 132, 133, 134, 135, 136, 137, 138, 139, 140] (by decide +kernel) (by decide +kernel)
set_option maxRecDepth 20000 in
theorem gX4_call_X2_leastLoss : GoodIn wsX4_call (wsV RX4 208 RX2 yX2_leastLoss wsX2_leastLoss) := goodIn_app (goodIn_of _ (by decide +kernel)) ggX4_call_X2_leastLoss
set_option maxRecDepth 20000 in
theorem ggX4_call_X2_interestOf : GoodIn wsX4_call wsX2_interestOf := goodIn_r _ [115] (by decide +kernel) (by decide +kernel)
set_option maxRecDepth 20000 in
theorem gX4_call_X2_interestOf : GoodIn wsX4_call (wsV RX4 211 RX2 yX2_interestOf wsX2_interestOf) := goodIn_app (goodIn_of _ (by decide +kernel)) ggX4_call_X2_interestOf
theorem dX4_call_0 : decode cX4_call 0 = .ok (.aload_n 0, 1) := by decide +kernel
theorem dX4_call_1 : decode cX4_call 1 = .ok (.getfield 43, 3) := by decide +kernel
theorem dX4_call_4 : decode cX4_call 4 = .ok (.aload_n 0, 1) := by decide +kernel
theorem dX4_call_5 : decode cX4_call 5 = .ok (.getfield 53, 3) := by decide +kernel
theorem dX4_call_8 : decode cX4_call 8 = .ok (.invokevirtual 195, 3) := by decide +kernel
theorem dX4_call_11 : decode cX4_call 11 = .ok (.aload_n 0, 1) := by decide +kernel
theorem dX4_call_12 : decode cX4_call 12 = .ok (.getfield 43, 3) := by decide +kernel
theorem dX4_call_15 : decode cX4_call 15 = .ok (.aload_n 0, 1) := by decide +kernel
theorem dX4_call_16 : decode cX4_call 16 = .ok (.getfield 53, 3) := by decide +kernel
theorem dX4_call_19 : decode cX4_call 19 = .ok (.invokevirtual 238, 3) := by decide +kernel
theorem dX4_call_22 : decode cX4_call 22 = .ok (.ifCond .ne 6, 3) := by decide +kernel
theorem dX4_call_25 : decode cX4_call 25 = .ok (.bipush (-9), 2) := by decide +kernel
theorem dX4_call_27 : decode cX4_call 27 = .ok (.ireturn, 1) := by decide +kernel
theorem dX4_call_28 : decode cX4_call 28 = .ok (.aload_n 0, 1) := by decide +kernel
theorem dX4_call_29 : decode cX4_call 29 = .ok (.aload_n 0, 1) := by decide +kernel
theorem dX4_call_30 : decode cX4_call 30 = .ok (.getfield 43, 3) := by decide +kernel
theorem dX4_call_33 : decode cX4_call 33 = .ok (.aload_n 0, 1) := by decide +kernel
theorem dX4_call_34 : decode cX4_call 34 = .ok (.getfield 43, 3) := by decide +kernel
theorem dX4_call_37 : decode cX4_call 37 = .ok (.invokevirtual 208, 3) := by decide +kernel
theorem dX4_call_40 : decode cX4_call 40 = .ok (.invokevirtual 211, 3) := by decide +kernel
theorem dX4_call_43 : decode cX4_call 43 = .ok (.aload_n 0, 1) := by decide +kernel
theorem dX4_call_44 : decode cX4_call 44 = .ok (.getfield 43, 3) := by decide +kernel
theorem dX4_call_47 : decode cX4_call 47 = .ok (.aload_n 0, 1) := by decide +kernel
theorem dX4_call_48 : decode cX4_call 48 = .ok (.getfield 43, 3) := by decide +kernel
theorem dX4_call_51 : decode cX4_call 51 = .ok (.getfield 242, 3) := by decide +kernel
theorem dX4_call_54 : decode cX4_call 54 = .ok (.invokevirtual 211, 3) := by decide +kernel
theorem dX4_call_57 : decode cX4_call 57 = .ok (.isub, 1) := by decide +kernel
theorem dX4_call_58 : decode cX4_call 58 = .ok (.putfield 57, 3) := by decide +kernel
theorem dX4_call_61 : decode cX4_call 61 = .ok (.bipush 100, 2) := by decide +kernel
theorem dX4_call_63 : decode cX4_call 63 = .ok (.aload_n 0, 1) := by decide +kernel
theorem dX4_call_64 : decode cX4_call 64 = .ok (.getfield 43, 3) := by decide +kernel
theorem dX4_call_67 : decode cX4_call 67 = .ok (.getfield 245, 3) := by decide +kernel
theorem dX4_call_70 : decode cX4_call 70 = .ok (.imul, 1) := by decide +kernel
theorem dX4_call_71 : decode cX4_call 71 = .ok (.aload_n 0, 1) := by decide +kernel
theorem dX4_call_72 : decode cX4_call 72 = .ok (.getfield 43, 3) := by decide +kernel
theorem dX4_call_75 : decode cX4_call 75 = .ok (.getfield 248, 3) := by decide +kernel
theorem dX4_call_78 : decode cX4_call 78 = .ok (.iadd, 1) := by decide +kernel
theorem dX4_call_79 : decode cX4_call 79 = .ok (.ireturn, 1) := by decide +kernel
set_option maxRecDepth 20000 in
theorem ggX4_stay_X3_isPerson : GoodIn wsX4_stay wsX3_isPerson := goodIn_r _ [9, 10, 122, 123, 124, 125, 126, 127, 128, 129, 130, 131, 132] (by decide +kernel) (by decide +kernel)
set_option maxRecDepth 20000 in
theorem gX4_stay_X3_isPerson : GoodIn wsX4_stay (wsV RX4 127 RX3 yX3_isPerson wsX3_isPerson) := goodIn_app (goodIn_of _ (by decide +kernel)) ggX4_stay_X3_isPerson
set_option maxRecDepth 20000 in
theorem ggX4_stay_X2_solve : GoodIn wsX4_stay wsX2_solve := goodIn_r _ [15, 16, 17, 18, 19, 20, 21, 22, 8, 23, 10, 24, 25, 26, 27, 28, 29, 30, 31, 32, 33, 34, 35, 36, 37, 38, 39, 40, 41, 42, 43, 44, 45, 46, 47, 48, 49, 50, 51, 52, 53, 54, 55, 56, 57, 58, 59, 60, 61, 62, 63, 14, 64, 65, 66, 67, 68, 69, 70, 71, 72, 73, 74, 75, 76, 77, 133, 134, 135, 136, 137, 138, 139, 140, 141, 142, 143, 144, 122, 123, 124, 125, 126, 127, 128, 129, 130, 131, 132] (by decide +kernel) (by decide +kernel)
set_option maxRecDepth 20000 in
theorem gX4_stay_X2_solve : GoodIn wsX4_stay (wsV RX4 195 RX2 yX2_solve wsX2_solve) := goodIn_app (goodIn_of _ (by decide +kernel)) ggX4_stay_X2_solve
set_option maxRecDepth 20000 in
theorem ggX4_stay_X2_trace : GoodIn wsX4_stay wsX2_trace := goodIn_r _ [81, 82, 83, 84, 85, 86, 87, 88, 89, 90, 14, 91, 18, 16, 69, 74, 75, 76, 77, 19, 133, 134, 135, 136, 137, 138, 139, 140, 141, 142, 143, 144] (by decide +kernel) (by decide +kernel)
set_option maxRecDepth 20000 in
theorem gX4_stay_X2_trace : GoodIn wsX4_stay (wsV RX4 198 RX2 yX2_trace wsX2_trace) := goodIn_app (goodIn_of _ (by decide +kernel)) ggX4_stay_X2_trace
set_option maxRecDepth 20000 in
theorem ggX4_stay_X2_paidTo : GoodIn wsX4_stay wsX2_paidTo := goodIn_r _ [95, 83, 96, 82, 97, 98, 99, 8, 100, 101, 102, 133, 134, 135, 136, 137, 138, 139, 140, 141, 142, 143, 144, 122, 123, 124, 125, 126, 127, 128, 129, 130, 131, 132] (by decide +kernel) (by decide +kernel)
set_option maxRecDepth 20000 in
theorem gX4_stay_X2_paidTo : GoodIn wsX4_stay (wsV RX4 251 RX2 yX2_paidTo wsX2_paidTo) := goodIn_app (goodIn_of _ (by decide +kernel)) ggX4_stay_X2_paidTo
set_option maxRecDepth 20000 in
theorem ggX4_stay_X2_paidWithout : GoodIn wsX4_stay wsX2_paidWithout := goodIn_r _ [106, 16, 20, 21, 22, 8, 23, 10, 24, 25, 26, 27, 28, 29, 30, 31, 32, 33, 34, 35, 36, 37, 38, 39, 40, 41, 42, 43, 44, 45, 46, 47, 48, 49, 50, 51, 52, 53, 61, 62, 63, 14, 64, 17, 18, 65, 66, 67, 68, 69, 70, 71, 72, 73, 74, 75, 76, 77, 19, 107, 79, 80, 81, 82, 83, 84, 85, 86, 87, 88, 89, 90, 91, 108, 93, 94, 95, 96, 97, 98, 99, 100, 101, 102, 133, 134, 135, 136, 137, 138, 139, 140, 141, 142, 143, 144, 122, 123, 124, 125, 126, 127, 128, 129, 130, 131, 132] (by decide +kernel) (by decide +kernel)
set_option maxRecDepth 20000 in
theorem gX4_stay_X2_paidWithout : GoodIn wsX4_stay (wsV RX4 255 RX2 yX2_paidWithout wsX2_paidWithout) := goodIn_app (goodIn_of _ (by decide +kernel)) ggX4_stay_X2_paidWithout
theorem dX4_stay_0 : decode cX4_stay 0 = .ok (.aload_n 0, 1) := by decide +kernel
theorem dX4_stay_1 : decode cX4_stay 1 = .ok (.getfield 53, 3) := by decide +kernel
theorem dX4_stay_4 : decode cX4_stay 4 = .ok (.iload_n 1, 1) := by decide +kernel
theorem dX4_stay_5 : decode cX4_stay 5 = .ok (.invokevirtual 127, 3) := by decide +kernel
theorem dX4_stay_8 : decode cX4_stay 8 = .ok (.ifCond .ne 5, 3) := by decide +kernel
theorem dX4_stay_11 : decode cX4_stay 11 = .ok (.iconst (-1), 1) := by decide +kernel
theorem dX4_stay_12 : decode cX4_stay 12 = .ok (.ireturn, 1) := by decide +kernel
theorem dX4_stay_13 : decode cX4_stay 13 = .ok (.aload_n 0, 1) := by decide +kernel
theorem dX4_stay_14 : decode cX4_stay 14 = .ok (.getfield 53, 3) := by decide +kernel
theorem dX4_stay_17 : decode cX4_stay 17 = .ok (.getfield 155, 3) := by decide +kernel
theorem dX4_stay_20 : decode cX4_stay 20 = .ok (.iload_n 1, 1) := by decide +kernel
theorem dX4_stay_21 : decode cX4_stay 21 = .ok (.iaload, 1) := by decide +kernel
theorem dX4_stay_22 : decode cX4_stay 22 = .ok (.ifCond .ne 6, 3) := by decide +kernel
theorem dX4_stay_25 : decode cX4_stay 25 = .ok (.bipush (-9), 2) := by decide +kernel
theorem dX4_stay_27 : decode cX4_stay 27 = .ok (.ireturn, 1) := by decide +kernel
theorem dX4_stay_28 : decode cX4_stay 28 = .ok (.aload_n 0, 1) := by decide +kernel
theorem dX4_stay_29 : decode cX4_stay 29 = .ok (.getfield 43, 3) := by decide +kernel
theorem dX4_stay_32 : decode cX4_stay 32 = .ok (.aload_n 0, 1) := by decide +kernel
theorem dX4_stay_33 : decode cX4_stay 33 = .ok (.getfield 53, 3) := by decide +kernel
theorem dX4_stay_36 : decode cX4_stay 36 = .ok (.invokevirtual 195, 3) := by decide +kernel
theorem dX4_stay_39 : decode cX4_stay 39 = .ok (.aload_n 0, 1) := by decide +kernel
theorem dX4_stay_40 : decode cX4_stay 40 = .ok (.getfield 43, 3) := by decide +kernel
theorem dX4_stay_43 : decode cX4_stay 43 = .ok (.invokevirtual 198, 3) := by decide +kernel
theorem dX4_stay_46 : decode cX4_stay 46 = .ok (.aload_n 0, 1) := by decide +kernel
theorem dX4_stay_47 : decode cX4_stay 47 = .ok (.getfield 43, 3) := by decide +kernel
theorem dX4_stay_50 : decode cX4_stay 50 = .ok (.aload_n 0, 1) := by decide +kernel
theorem dX4_stay_51 : decode cX4_stay 51 = .ok (.getfield 53, 3) := by decide +kernel
theorem dX4_stay_54 : decode cX4_stay 54 = .ok (.iload_n 1, 1) := by decide +kernel
theorem dX4_stay_55 : decode cX4_stay 55 = .ok (.invokevirtual 251, 3) := by decide +kernel
theorem dX4_stay_58 : decode cX4_stay 58 = .ok (.istore_n 2, 1) := by decide +kernel
theorem dX4_stay_59 : decode cX4_stay 59 = .ok (.iconst 0, 1) := by decide +kernel
theorem dX4_stay_60 : decode cX4_stay 60 = .ok (.istore_n 3, 1) := by decide +kernel
theorem dX4_stay_61 : decode cX4_stay 61 = .ok (.bipush (-9), 2) := by decide +kernel
theorem dX4_stay_63 : decode cX4_stay 63 = .ok (.istore 4, 2) := by decide +kernel
theorem dX4_stay_65 : decode cX4_stay 65 = .ok (.iconst 0, 1) := by decide +kernel
theorem dX4_stay_66 : decode cX4_stay 66 = .ok (.istore 5, 2) := by decide +kernel
theorem dX4_stay_68 : decode cX4_stay 68 = .ok (.iload 5, 2) := by decide +kernel
theorem dX4_stay_70 : decode cX4_stay 70 = .ok (.bipush 12, 2) := by decide +kernel
theorem dX4_stay_72 : decode cX4_stay 72 = .ok (.if_icmp .ge 64, 3) := by decide +kernel
theorem dX4_stay_75 : decode cX4_stay 75 = .ok (.aload_n 0, 1) := by decide +kernel
theorem dX4_stay_76 : decode cX4_stay 76 = .ok (.getfield 53, 3) := by decide +kernel
theorem dX4_stay_79 : decode cX4_stay 79 = .ok (.getfield 155, 3) := by decide +kernel
theorem dX4_stay_82 : decode cX4_stay 82 = .ok (.iload_n 1, 1) := by decide +kernel
theorem dX4_stay_83 : decode cX4_stay 83 = .ok (.iaload, 1) := by decide +kernel
theorem dX4_stay_84 : decode cX4_stay 84 = .ok (.iload 5, 2) := by decide +kernel
theorem dX4_stay_86 : decode cX4_stay 86 = .ok (.ishr, 1) := by decide +kernel
theorem dX4_stay_87 : decode cX4_stay 87 = .ok (.iconst 1, 1) := by decide +kernel
theorem dX4_stay_88 : decode cX4_stay 88 = .ok (.iand, 1) := by decide +kernel
theorem dX4_stay_89 : decode cX4_stay 89 = .ok (.iconst 1, 1) := by decide +kernel
theorem dX4_stay_90 : decode cX4_stay 90 = .ok (.if_icmp .ne 40, 3) := by decide +kernel
theorem dX4_stay_93 : decode cX4_stay 93 = .ok (.aload_n 0, 1) := by decide +kernel
theorem dX4_stay_94 : decode cX4_stay 94 = .ok (.getfield 43, 3) := by decide +kernel
theorem dX4_stay_97 : decode cX4_stay 97 = .ok (.aload_n 0, 1) := by decide +kernel
theorem dX4_stay_98 : decode cX4_stay 98 = .ok (.getfield 53, 3) := by decide +kernel
theorem dX4_stay_101 : decode cX4_stay 101 = .ok (.iload_n 1, 1) := by decide +kernel
theorem dX4_stay_102 : decode cX4_stay 102 = .ok (.iload 5, 2) := by decide +kernel
theorem dX4_stay_104 : decode cX4_stay 104 = .ok (.iload_n 2, 1) := by decide +kernel
theorem dX4_stay_105 : decode cX4_stay 105 = .ok (.invokevirtual 255, 3) := by decide +kernel
theorem dX4_stay_108 : decode cX4_stay 108 = .ok (.istore 6, 2) := by decide +kernel
theorem dX4_stay_110 : decode cX4_stay 110 = .ok (.iload 4, 2) := by decide +kernel
theorem dX4_stay_112 : decode cX4_stay 112 = .ok (.bipush (-9), 2) := by decide +kernel
theorem dX4_stay_114 : decode cX4_stay 114 = .ok (.if_icmp .eq 9, 3) := by decide +kernel
theorem dX4_stay_117 : decode cX4_stay 117 = .ok (.iload 6, 2) := by decide +kernel
theorem dX4_stay_119 : decode cX4_stay 119 = .ok (.iload_n 3, 1) := by decide +kernel
theorem dX4_stay_120 : decode cX4_stay 120 = .ok (.if_icmp .le 10, 3) := by decide +kernel
theorem dX4_stay_123 : decode cX4_stay 123 = .ok (.iload 6, 2) := by decide +kernel
theorem dX4_stay_125 : decode cX4_stay 125 = .ok (.istore_n 3, 1) := by decide +kernel
theorem dX4_stay_126 : decode cX4_stay 126 = .ok (.iload 5, 2) := by decide +kernel
theorem dX4_stay_128 : decode cX4_stay 128 = .ok (.istore 4, 2) := by decide +kernel
theorem dX4_stay_130 : decode cX4_stay 130 = .ok (.iinc 5 1, 3) := by decide +kernel
theorem dX4_stay_133 : decode cX4_stay 133 = .ok (.goto (-65), 3) := by decide +kernel
theorem dX4_stay_136 : decode cX4_stay 136 = .ok (.aload_n 0, 1) := by decide +kernel
theorem dX4_stay_137 : decode cX4_stay 137 = .ok (.iload_n 3, 1) := by decide +kernel
theorem dX4_stay_138 : decode cX4_stay 138 = .ok (.iload_n 2, 1) := by decide +kernel
theorem dX4_stay_139 : decode cX4_stay 139 = .ok (.isub, 1) := by decide +kernel
theorem dX4_stay_140 : decode cX4_stay 140 = .ok (.putfield 57, 3) := by decide +kernel
theorem dX4_stay_143 : decode cX4_stay 143 = .ok (.iload 4, 2) := by decide +kernel
theorem dX4_stay_145 : decode cX4_stay 145 = .ok (.ireturn, 1) := by decide +kernel
set_option maxRecDepth 20000 in
theorem ggX4_against_X3_isDebt : GoodIn wsX4_against wsX3_isDebt := goodIn_r _ [14, 15, 41, 42, 43, 44, 45, 46, 47, 48, 49, 50, 51] (by decide +kernel) (by decide +kernel)
set_option maxRecDepth 20000 in
theorem gX4_against_X3_isDebt : GoodIn wsX4_against (wsV RX4 140 RX3 yX3_isDebt wsX3_isDebt) := goodIn_app (goodIn_of _ (by decide +kernel)) ggX4_against_X3_isDebt
set_option maxRecDepth 20000 in
theorem ggX4_against_X3_oweOneAnother : GoodIn wsX4_against wsX3_oweOneAnother := goodIn_r _ [19, 20, 21, 41, 42, 43, 44, 45, 46, 47, 48, 49, 50, 51] (by decide +kernel) (by decide +kernel)
set_option maxRecDepth 20000 in
theorem gX4_against_X3_oweOneAnother : GoodIn wsX4_against (wsV RX4 259 RX3 yX3_oweOneAnother wsX3_oweOneAnother) := goodIn_app (goodIn_of _ (by decide +kernel)) ggX4_against_X3_oweOneAnother
set_option maxRecDepth 20000 in
theorem ggX4_against_X0_isPaid : GoodIn wsX4_against wsX0_isPaid := goodIn_r _ [26, 27, 52, 53, 54] (by decide +kernel) (by decide +kernel)
set_option maxRecDepth 20000 in
theorem gX4_against_X0_isPaid : GoodIn wsX4_against (wsV RX4 262 RX0 yX0_isPaid wsX0_isPaid) := goodIn_app (goodIn_of _ (by decide +kernel)) ggX4_against_X0_isPaid
theorem dX4_against_0 : decode cX4_against 0 = .ok (.aload_n 0, 1) := by decide +kernel
theorem dX4_against_1 : decode cX4_against 1 = .ok (.getfield 53, 3) := by decide +kernel
theorem dX4_against_4 : decode cX4_against 4 = .ok (.iload_n 1, 1) := by decide +kernel
theorem dX4_against_5 : decode cX4_against 5 = .ok (.invokevirtual 140, 3) := by decide +kernel
theorem dX4_against_8 : decode cX4_against 8 = .ok (.ifCond .eq 19, 3) := by decide +kernel
theorem dX4_against_11 : decode cX4_against 11 = .ok (.aload_n 0, 1) := by decide +kernel
theorem dX4_against_12 : decode cX4_against 12 = .ok (.getfield 53, 3) := by decide +kernel
theorem dX4_against_15 : decode cX4_against 15 = .ok (.iload_n 2, 1) := by decide +kernel
theorem dX4_against_16 : decode cX4_against 16 = .ok (.invokevirtual 140, 3) := by decide +kernel
theorem dX4_against_19 : decode cX4_against 19 = .ok (.ifCond .eq 8, 3) := by decide +kernel
theorem dX4_against_22 : decode cX4_against 22 = .ok (.iload_n 1, 1) := by decide +kernel
theorem dX4_against_23 : decode cX4_against 23 = .ok (.iload_n 2, 1) := by decide +kernel
theorem dX4_against_24 : decode cX4_against 24 = .ok (.if_icmp .ne 5, 3) := by decide +kernel
theorem dX4_against_27 : decode cX4_against 27 = .ok (.iconst (-1), 1) := by decide +kernel
theorem dX4_against_28 : decode cX4_against 28 = .ok (.ireturn, 1) := by decide +kernel
theorem dX4_against_29 : decode cX4_against 29 = .ok (.aload_n 0, 1) := by decide +kernel
theorem dX4_against_30 : decode cX4_against 30 = .ok (.getfield 53, 3) := by decide +kernel
theorem dX4_against_33 : decode cX4_against 33 = .ok (.iload_n 1, 1) := by decide +kernel
theorem dX4_against_34 : decode cX4_against 34 = .ok (.iload_n 2, 1) := by decide +kernel
theorem dX4_against_35 : decode cX4_against 35 = .ok (.invokevirtual 259, 3) := by decide +kernel
theorem dX4_against_38 : decode cX4_against 38 = .ok (.ifCond .eq 25, 3) := by decide +kernel
theorem dX4_against_41 : decode cX4_against 41 = .ok (.aload_n 0, 1) := by decide +kernel
theorem dX4_against_42 : decode cX4_against 42 = .ok (.getfield 36, 3) := by decide +kernel
theorem dX4_against_45 : decode cX4_against 45 = .ok (.iload_n 1, 1) := by decide +kernel
theorem dX4_against_46 : decode cX4_against 46 = .ok (.invokevirtual 262, 3) := by decide +kernel
theorem dX4_against_49 : decode cX4_against 49 = .ok (.ifCond .ne 14, 3) := by decide +kernel
theorem dX4_against_52 : decode cX4_against 52 = .ok (.aload_n 0, 1) := by decide +kernel
theorem dX4_against_53 : decode cX4_against 53 = .ok (.getfield 36, 3) := by decide +kernel
theorem dX4_against_56 : decode cX4_against 56 = .ok (.iload_n 2, 1) := by decide +kernel
theorem dX4_against_57 : decode cX4_against 57 = .ok (.invokevirtual 262, 3) := by decide +kernel
theorem dX4_against_60 : decode cX4_against 60 = .ok (.ifCond .eq 6, 3) := by decide +kernel
theorem dX4_against_63 : decode cX4_against 63 = .ok (.bipush (-4), 2) := by decide +kernel
theorem dX4_against_65 : decode cX4_against 65 = .ok (.ireturn, 1) := by decide +kernel
theorem dX4_against_66 : decode cX4_against 66 = .ok (.aload_n 0, 1) := by decide +kernel
theorem dX4_against_67 : decode cX4_against 67 = .ok (.getfield 53, 3) := by decide +kernel
theorem dX4_against_70 : decode cX4_against 70 = .ok (.getfield 265, 3) := by decide +kernel
theorem dX4_against_73 : decode cX4_against 73 = .ok (.iload_n 1, 1) := by decide +kernel
theorem dX4_against_74 : decode cX4_against 74 = .ok (.iaload, 1) := by decide +kernel
theorem dX4_against_75 : decode cX4_against 75 = .ok (.aload_n 0, 1) := by decide +kernel
theorem dX4_against_76 : decode cX4_against 76 = .ok (.getfield 53, 3) := by decide +kernel
theorem dX4_against_79 : decode cX4_against 79 = .ok (.getfield 265, 3) := by decide +kernel
theorem dX4_against_82 : decode cX4_against 82 = .ok (.iload_n 2, 1) := by decide +kernel
theorem dX4_against_83 : decode cX4_against 83 = .ok (.iaload, 1) := by decide +kernel
theorem dX4_against_84 : decode cX4_against 84 = .ok (.isub, 1) := by decide +kernel
theorem dX4_against_85 : decode cX4_against 85 = .ok (.istore_n 3, 1) := by decide +kernel
theorem dX4_against_86 : decode cX4_against 86 = .ok (.aload_n 0, 1) := by decide +kernel
theorem dX4_against_87 : decode cX4_against 87 = .ok (.iload_n 3, 1) := by decide +kernel
theorem dX4_against_88 : decode cX4_against 88 = .ok (.ifCond .le 15, 3) := by decide +kernel
theorem dX4_against_91 : decode cX4_against 91 = .ok (.aload_n 0, 1) := by decide +kernel
theorem dX4_against_92 : decode cX4_against 92 = .ok (.getfield 53, 3) := by decide +kernel
theorem dX4_against_95 : decode cX4_against 95 = .ok (.getfield 268, 3) := by decide +kernel
theorem dX4_against_98 : decode cX4_against 98 = .ok (.iload_n 1, 1) := by decide +kernel
theorem dX4_against_99 : decode cX4_against 99 = .ok (.iaload, 1) := by decide +kernel
theorem dX4_against_100 : decode cX4_against 100 = .ok (.goto 21, 3) := by decide +kernel
theorem dX4_against_103 : decode cX4_against 103 = .ok (.iload_n 3, 1) := by decide +kernel
theorem dX4_against_104 : decode cX4_against 104 = .ok (.ifCond .ge 15, 3) := by decide +kernel
theorem dX4_against_107 : decode cX4_against 107 = .ok (.aload_n 0, 1) := by decide +kernel
theorem dX4_against_108 : decode cX4_against 108 = .ok (.getfield 53, 3) := by decide +kernel
theorem dX4_against_111 : decode cX4_against 111 = .ok (.getfield 268, 3) := by decide +kernel
theorem dX4_against_114 : decode cX4_against 114 = .ok (.iload_n 2, 1) := by decide +kernel
theorem dX4_against_115 : decode cX4_against 115 = .ok (.iaload, 1) := by decide +kernel
theorem dX4_against_116 : decode cX4_against 116 = .ok (.goto 5, 3) := by decide +kernel
theorem dX4_against_119 : decode cX4_against 119 = .ok (.bipush (-9), 2) := by decide +kernel
theorem dX4_against_121 : decode cX4_against 121 = .ok (.putfield 57, 3) := by decide +kernel
theorem dX4_against_124 : decode cX4_against 124 = .ok (.iload_n 3, 1) := by decide +kernel
theorem dX4_against_125 : decode cX4_against 125 = .ok (.invokestatic 271, 3) := by decide +kernel
theorem dX4_against_128 : decode cX4_against 128 = .ok (.ireturn, 1) := by decide +kernel
set_option maxRecDepth 20000 in
theorem ggX4_family_X3_peopleOut : GoodIn wsX4_family wsX3_peopleOut := goodIn_r _ [8, 9, 10, 31, 32, 33, 34, 35, 36, 37, 38, 39, 40, 41] (by decide +kernel) (by decide +kernel)
set_option maxRecDepth 20000 in
theorem gX4_family_X3_peopleOut : GoodIn wsX4_family (wsV RX4 164 RX3 yX3_peopleOut wsX3_peopleOut) := goodIn_app (goodIn_of _ (by decide +kernel)) ggX4_family_X3_peopleOut
set_option maxRecDepth 20000 in
theorem ggX4_family_J6_bitCount_0f7a4 : GoodIn wsX4_family wsJ6_bitCount_0f7a4 := goodIn_r _ [14, 15, 16, 17] (by decide +kernel) (by decide +kernel)
set_option maxRecDepth 20000 in
theorem gX4_family_J6_bitCount_0f7a4 : GoodIn wsX4_family (va_wsS RX4 233 yJ6_bitCount_0f7a4 wsJ6_bitCount_0f7a4) := goodIn_app (goodIn_of _ (by decide +kernel)) ggX4_family_J6_bitCount_0f7a4
theorem dX4_family_0 : decode cX4_family 0 = .ok (.iload_n 1, 1) := by decide +kernel
theorem dX4_family_1 : decode cX4_family 1 = .ok (.ifCond .le 16, 3) := by decide +kernel
theorem dX4_family_4 : decode cX4_family 4 = .ok (.iload_n 1, 1) := by decide +kernel
theorem dX4_family_5 : decode cX4_family 5 = .ok (.iconst 1, 1) := by decide +kernel
theorem dX4_family_6 : decode cX4_family 6 = .ok (.aload_n 0, 1) := by decide +kernel
theorem dX4_family_7 : decode cX4_family 7 = .ok (.getfield 53, 3) := by decide +kernel
theorem dX4_family_10 : decode cX4_family 10 = .ok (.getfield 124, 3) := by decide +kernel
theorem dX4_family_13 : decode cX4_family 13 = .ok (.ishl, 1) := by decide +kernel
theorem dX4_family_14 : decode cX4_family 14 = .ok (.if_icmp .lt 5, 3) := by decide +kernel
theorem dX4_family_17 : decode cX4_family 17 = .ok (.iconst (-1), 1) := by decide +kernel
theorem dX4_family_18 : decode cX4_family 18 = .ok (.ireturn, 1) := by decide +kernel
theorem dX4_family_19 : decode cX4_family 19 = .ok (.iconst 0, 1) := by decide +kernel
theorem dX4_family_20 : decode cX4_family 20 = .ok (.istore_n 2, 1) := by decide +kernel
theorem dX4_family_21 : decode cX4_family 21 = .ok (.iconst 0, 1) := by decide +kernel
theorem dX4_family_22 : decode cX4_family 22 = .ok (.istore_n 3, 1) := by decide +kernel
theorem dX4_family_23 : decode cX4_family 23 = .ok (.iload_n 3, 1) := by decide +kernel
theorem dX4_family_24 : decode cX4_family 24 = .ok (.bipush 12, 2) := by decide +kernel
theorem dX4_family_26 : decode cX4_family 26 = .ok (.if_icmp .ge 29, 3) := by decide +kernel
theorem dX4_family_29 : decode cX4_family 29 = .ok (.aload_n 0, 1) := by decide +kernel
theorem dX4_family_30 : decode cX4_family 30 = .ok (.getfield 53, 3) := by decide +kernel
theorem dX4_family_33 : decode cX4_family 33 = .ok (.iload_n 3, 1) := by decide +kernel
theorem dX4_family_34 : decode cX4_family 34 = .ok (.invokevirtual 164, 3) := by decide +kernel
theorem dX4_family_37 : decode cX4_family 37 = .ok (.iload_n 1, 1) := by decide +kernel
theorem dX4_family_38 : decode cX4_family 38 = .ok (.iand, 1) := by decide +kernel
theorem dX4_family_39 : decode cX4_family 39 = .ok (.iload_n 1, 1) := by decide +kernel
theorem dX4_family_40 : decode cX4_family 40 = .ok (.if_icmp .ne 9, 3) := by decide +kernel
theorem dX4_family_43 : decode cX4_family 43 = .ok (.iload_n 2, 1) := by decide +kernel
theorem dX4_family_44 : decode cX4_family 44 = .ok (.iconst 1, 1) := by decide +kernel
theorem dX4_family_45 : decode cX4_family 45 = .ok (.iload_n 3, 1) := by decide +kernel
theorem dX4_family_46 : decode cX4_family 46 = .ok (.ishl, 1) := by decide +kernel
theorem dX4_family_47 : decode cX4_family 47 = .ok (.ior, 1) := by decide +kernel
theorem dX4_family_48 : decode cX4_family 48 = .ok (.istore_n 2, 1) := by decide +kernel
theorem dX4_family_49 : decode cX4_family 49 = .ok (.iinc 3 1, 3) := by decide +kernel
theorem dX4_family_52 : decode cX4_family 52 = .ok (.goto (-29), 3) := by decide +kernel
theorem dX4_family_55 : decode cX4_family 55 = .ok (.aload_n 0, 1) := by decide +kernel
theorem dX4_family_56 : decode cX4_family 56 = .ok (.iload_n 2, 1) := by decide +kernel
theorem dX4_family_57 : decode cX4_family 57 = .ok (.invokestatic 233, 3) := by decide +kernel
theorem dX4_family_60 : decode cX4_family 60 = .ok (.putfield 57, 3) := by decide +kernel
theorem dX4_family_63 : decode cX4_family 63 = .ok (.iload_n 2, 1) := by decide +kernel
theorem dX4_family_64 : decode cX4_family 64 = .ok (.ireturn, 1) := by decide +kernel
set_option maxRecDepth 20000 in
theorem ggX4_pay_X3_isDebt : GoodIn wsX4_pay wsX3_isDebt := goodIn_r _ [8, 9, 81, 82, 83, 84, 85, 86, 87, 88, 89, 90, 91] (by decide +kernel) (by decide +kernel)
set_option maxRecDepth 20000 in
theorem gX4_pay_X3_isDebt : GoodIn wsX4_pay (wsV RX4 140 RX3 yX3_isDebt wsX3_isDebt) := goodIn_app (goodIn_of _ (by decide +kernel)) ggX4_pay_X3_isDebt
set_option maxRecDepth 20000 in
theorem ggX4_pay_X4_isHour : GoodIn wsX4_pay wsX4_isHour := goodIn_r _ [13] (by decide +kernel) (by decide +kernel)
set_option maxRecDepth 20000 in
theorem gX4_pay_X4_isHour : GoodIn wsX4_pay (va_wsS RX4 152 yX4_isHour wsX4_isHour) := goodIn_app (goodIn_of _ (by decide +kernel)) ggX4_pay_X4_isHour
set_option maxRecDepth 20000 in
theorem ggX4_pay_X0_isPaid : GoodIn wsX4_pay wsX0_isPaid := goodIn_r _ [18, 19, 78, 79, 80] (by decide +kernel) (by decide +kernel)
set_option maxRecDepth 20000 in
theorem gX4_pay_X0_isPaid : GoodIn wsX4_pay (wsV RX4 262 RX0 yX0_isPaid wsX0_isPaid) := goodIn_app (goodIn_of _ (by decide +kernel)) ggX4_pay_X0_isPaid
set_option maxRecDepth 20000 in
theorem ggX4_pay_X3_peopleOut : GoodIn wsX4_pay wsX3_peopleOut := goodIn_r _ [23, 24, 25, 81, 82, 83, 84, 85, 86, 87, 88, 89, 90, 91] (by decide +kernel) (by decide +kernel)
set_option maxRecDepth 20000 in
theorem gX4_pay_X3_peopleOut : GoodIn wsX4_pay (wsV RX4 164 RX3 yX3_peopleOut wsX3_peopleOut) := goodIn_app (goodIn_of _ (by decide +kernel)) ggX4_pay_X3_peopleOut
set_option maxRecDepth 20000 in
theorem ggX4_pay_X3_isPayable : GoodIn wsX4_pay wsX3_isPayable := goodIn_r _ [29, 30, 31, 32, 33, 7, 34, 35, 36, 37, 38, 39, 40, 41, 42, 43, 44, 45, 46, 47, 48, 49, 81, 82, 83, 84, 85, 86, 87, 88, 89, 90, 91] (by decide +kernel) (by decide +kernel)
set_option maxRecDepth 20000 in
theorem gX4_pay_X3_isPayable : GoodIn wsX4_pay (wsV RX4 274 RX3 yX3_isPayable wsX3_isPayable) := goodIn_app (goodIn_of _ (by decide +kernel)) ggX4_pay_X3_isPayable
set_option maxRecDepth 20000 in
theorem ggX4_pay_X4_isTakenBy : GoodIn wsX4_pay wsX4_isTakenBy := goodIn_r _ [53, 1, 54, 2, 3, 55, 56, 57, 7, 58, 30, 31, 65, 66, 67, 68, 69, 70, 71, 72, 73, 74, 75, 76, 77, 81, 82, 83, 84, 85, 86, 87, 88, 89, 90, 91, 78, 79, 80] (by decide +kernel) (by decide +kernel)
set_option maxRecDepth 20000 in
theorem gX4_pay_X4_isTakenBy : GoodIn wsX4_pay (wsV RX4 277 RX4 yX4_isTakenBy wsX4_isTakenBy) := goodIn_app (goodIn_of _ (by decide +kernel)) ggX4_pay_X4_isTakenBy
set_option maxRecDepth 20000 in
theorem ggX4_pay_X3_cost : GoodIn wsX4_pay wsX3_cost := goodIn_r _ [62, 63, 64, 81, 82, 83, 84, 85, 86, 87, 88, 89, 90, 91] (by decide +kernel) (by decide +kernel)
set_option maxRecDepth 20000 in
theorem gX4_pay_X3_cost : GoodIn wsX4_pay (wsV RX4 187 RX3 yX3_cost wsX3_cost) := goodIn_app (goodIn_of _ (by decide +kernel)) ggX4_pay_X3_cost
theorem dX4_pay_0 : decode cX4_pay 0 = .ok (.aload_n 0, 1) := by decide +kernel
theorem dX4_pay_1 : decode cX4_pay 1 = .ok (.getfield 53, 3) := by decide +kernel
theorem dX4_pay_4 : decode cX4_pay 4 = .ok (.iload_n 1, 1) := by decide +kernel
theorem dX4_pay_5 : decode cX4_pay 5 = .ok (.invokevirtual 140, 3) := by decide +kernel
theorem dX4_pay_8 : decode cX4_pay 8 = .ok (.ifCond .eq 10, 3) := by decide +kernel
theorem dX4_pay_11 : decode cX4_pay 11 = .ok (.iload_n 2, 1) := by decide +kernel
theorem dX4_pay_12 : decode cX4_pay 12 = .ok (.invokestatic 152, 3) := by decide +kernel
theorem dX4_pay_15 : decode cX4_pay 15 = .ok (.ifCond .ne 5, 3) := by decide +kernel
theorem dX4_pay_18 : decode cX4_pay 18 = .ok (.iconst (-1), 1) := by decide +kernel
theorem dX4_pay_19 : decode cX4_pay 19 = .ok (.ireturn, 1) := by decide +kernel
theorem dX4_pay_20 : decode cX4_pay 20 = .ok (.aload_n 0, 1) := by decide +kernel
theorem dX4_pay_21 : decode cX4_pay 21 = .ok (.getfield 36, 3) := by decide +kernel
theorem dX4_pay_24 : decode cX4_pay 24 = .ok (.iload_n 1, 1) := by decide +kernel
theorem dX4_pay_25 : decode cX4_pay 25 = .ok (.invokevirtual 262, 3) := by decide +kernel
theorem dX4_pay_28 : decode cX4_pay 28 = .ok (.ifCond .ne 32, 3) := by decide +kernel
theorem dX4_pay_31 : decode cX4_pay 31 = .ok (.aload_n 0, 1) := by decide +kernel
theorem dX4_pay_32 : decode cX4_pay 32 = .ok (.getfield 53, 3) := by decide +kernel
theorem dX4_pay_35 : decode cX4_pay 35 = .ok (.iload_n 1, 1) := by decide +kernel
theorem dX4_pay_36 : decode cX4_pay 36 = .ok (.iload_n 2, 1) := by decide +kernel
theorem dX4_pay_37 : decode cX4_pay 37 = .ok (.aload_n 0, 1) := by decide +kernel
theorem dX4_pay_38 : decode cX4_pay 38 = .ok (.getfield 53, 3) := by decide +kernel
theorem dX4_pay_41 : decode cX4_pay 41 = .ok (.iload_n 2, 1) := by decide +kernel
theorem dX4_pay_42 : decode cX4_pay 42 = .ok (.invokevirtual 164, 3) := by decide +kernel
theorem dX4_pay_45 : decode cX4_pay 45 = .ok (.invokevirtual 274, 3) := by decide +kernel
theorem dX4_pay_48 : decode cX4_pay 48 = .ok (.ifCond .eq 12, 3) := by decide +kernel
theorem dX4_pay_51 : decode cX4_pay 51 = .ok (.aload_n 0, 1) := by decide +kernel
theorem dX4_pay_52 : decode cX4_pay 52 = .ok (.iload_n 1, 1) := by decide +kernel
theorem dX4_pay_53 : decode cX4_pay 53 = .ok (.iload_n 2, 1) := by decide +kernel
theorem dX4_pay_54 : decode cX4_pay 54 = .ok (.invokevirtual 277, 3) := by decide +kernel
theorem dX4_pay_57 : decode cX4_pay 57 = .ok (.ifCond .eq 6, 3) := by decide +kernel
theorem dX4_pay_60 : decode cX4_pay 60 = .ok (.bipush (-4), 2) := by decide +kernel
theorem dX4_pay_62 : decode cX4_pay 62 = .ok (.ireturn, 1) := by decide +kernel
theorem dX4_pay_63 : decode cX4_pay 63 = .ok (.aload_n 0, 1) := by decide +kernel
theorem dX4_pay_64 : decode cX4_pay 64 = .ok (.getfield 36, 3) := by decide +kernel
theorem dX4_pay_67 : decode cX4_pay 67 = .ok (.getfield 280, 3) := by decide +kernel
theorem dX4_pay_70 : decode cX4_pay 70 = .ok (.iload_n 1, 1) := by decide +kernel
theorem dX4_pay_71 : decode cX4_pay 71 = .ok (.iload_n 2, 1) := by decide +kernel
theorem dX4_pay_72 : decode cX4_pay 72 = .ok (.iastore, 1) := by decide +kernel
theorem dX4_pay_73 : decode cX4_pay 73 = .ok (.aload_n 0, 1) := by decide +kernel
theorem dX4_pay_74 : decode cX4_pay 74 = .ok (.getfield 53, 3) := by decide +kernel
theorem dX4_pay_77 : decode cX4_pay 77 = .ok (.iload_n 1, 1) := by decide +kernel
theorem dX4_pay_78 : decode cX4_pay 78 = .ok (.iload_n 2, 1) := by decide +kernel
theorem dX4_pay_79 : decode cX4_pay 79 = .ok (.invokevirtual 187, 3) := by decide +kernel
theorem dX4_pay_82 : decode cX4_pay 82 = .ok (.ireturn, 1) := by decide +kernel
set_option maxRecDepth 20000 in
theorem ggX4_unpay_X3_isDebt : GoodIn wsX4_unpay wsX3_isDebt := goodIn_r _ [8, 9, 32, 33, 34, 35, 36, 37, 38, 39, 40, 41, 42] (by decide +kernel) (by decide +kernel)
set_option maxRecDepth 20000 in
theorem gX4_unpay_X3_isDebt : GoodIn wsX4_unpay (wsV RX4 140 RX3 yX3_isDebt wsX3_isDebt) := goodIn_app (goodIn_of _ (by decide +kernel)) ggX4_unpay_X3_isDebt
set_option maxRecDepth 20000 in
theorem ggX4_unpay_X0_isPaid : GoodIn wsX4_unpay wsX0_isPaid := goodIn_r _ [14, 15, 29, 30, 31] (by decide +kernel) (by decide +kernel)
set_option maxRecDepth 20000 in
theorem gX4_unpay_X0_isPaid : GoodIn wsX4_unpay (wsV RX4 262 RX0 yX0_isPaid wsX0_isPaid) := goodIn_app (goodIn_of _ (by decide +kernel)) ggX4_unpay_X0_isPaid
theorem dX4_unpay_0 : decode cX4_unpay 0 = .ok (.aload_n 0, 1) := by decide +kernel
theorem dX4_unpay_1 : decode cX4_unpay 1 = .ok (.getfield 53, 3) := by decide +kernel
theorem dX4_unpay_4 : decode cX4_unpay 4 = .ok (.iload_n 1, 1) := by decide +kernel
theorem dX4_unpay_5 : decode cX4_unpay 5 = .ok (.invokevirtual 140, 3) := by decide +kernel
theorem dX4_unpay_8 : decode cX4_unpay 8 = .ok (.ifCond .ne 5, 3) := by decide +kernel
theorem dX4_unpay_11 : decode cX4_unpay 11 = .ok (.iconst (-1), 1) := by decide +kernel
theorem dX4_unpay_12 : decode cX4_unpay 12 = .ok (.ireturn, 1) := by decide +kernel
theorem dX4_unpay_13 : decode cX4_unpay 13 = .ok (.aload_n 0, 1) := by decide +kernel
theorem dX4_unpay_14 : decode cX4_unpay 14 = .ok (.getfield 36, 3) := by decide +kernel
theorem dX4_unpay_17 : decode cX4_unpay 17 = .ok (.iload_n 1, 1) := by decide +kernel
theorem dX4_unpay_18 : decode cX4_unpay 18 = .ok (.invokevirtual 262, 3) := by decide +kernel
theorem dX4_unpay_21 : decode cX4_unpay 21 = .ok (.ifCond .ne 6, 3) := by decide +kernel
theorem dX4_unpay_24 : decode cX4_unpay 24 = .ok (.bipush (-4), 2) := by decide +kernel
theorem dX4_unpay_26 : decode cX4_unpay 26 = .ok (.ireturn, 1) := by decide +kernel
theorem dX4_unpay_27 : decode cX4_unpay 27 = .ok (.aload_n 0, 1) := by decide +kernel
theorem dX4_unpay_28 : decode cX4_unpay 28 = .ok (.getfield 36, 3) := by decide +kernel
theorem dX4_unpay_31 : decode cX4_unpay 31 = .ok (.getfield 280, 3) := by decide +kernel
theorem dX4_unpay_34 : decode cX4_unpay 34 = .ok (.iload_n 1, 1) := by decide +kernel
theorem dX4_unpay_35 : decode cX4_unpay 35 = .ok (.iaload, 1) := by decide +kernel
theorem dX4_unpay_36 : decode cX4_unpay 36 = .ok (.istore_n 2, 1) := by decide +kernel
theorem dX4_unpay_37 : decode cX4_unpay 37 = .ok (.aload_n 0, 1) := by decide +kernel
theorem dX4_unpay_38 : decode cX4_unpay 38 = .ok (.getfield 36, 3) := by decide +kernel
theorem dX4_unpay_41 : decode cX4_unpay 41 = .ok (.getfield 280, 3) := by decide +kernel
theorem dX4_unpay_44 : decode cX4_unpay 44 = .ok (.iload_n 1, 1) := by decide +kernel
theorem dX4_unpay_45 : decode cX4_unpay 45 = .ok (.bipush (-9), 2) := by decide +kernel
theorem dX4_unpay_47 : decode cX4_unpay 47 = .ok (.iastore, 1) := by decide +kernel
theorem dX4_unpay_48 : decode cX4_unpay 48 = .ok (.iload_n 2, 1) := by decide +kernel
theorem dX4_unpay_49 : decode cX4_unpay 49 = .ok (.ireturn, 1) := by decide +kernel
set_option maxRecDepth 20000 in
theorem ggX4_paid_X3_cost : GoodIn wsX4_paid wsX3_cost := goodIn_r _ [10, 11, 12, 32, 33, 34, 35, 36, 37, 38, 39, 40, 41, 42] (by decide +kernel) (by decide +kernel)
set_option maxRecDepth 20000 in
theorem gX4_paid_X3_cost : GoodIn wsX4_paid (wsV RX4 187 RX3 yX3_cost wsX3_cost) := goodIn_app (goodIn_of _ (by decide +kernel)) ggX4_paid_X3_cost
set_option maxRecDepth 20000 in
theorem ggX4_paid_X0_isPaid : GoodIn wsX4_paid wsX0_isPaid := goodIn_r _ [17, 18, 43, 44, 45] (by decide +kernel) (by decide +kernel)
set_option maxRecDepth 20000 in
theorem gX4_paid_X0_isPaid : GoodIn wsX4_paid (wsV RX4 262 RX0 yX0_isPaid wsX0_isPaid) := goodIn_app (goodIn_of _ (by decide +kernel)) ggX4_paid_X0_isPaid
theorem dX4_paid_0 : decode cX4_paid 0 = .ok (.iconst 0, 1) := by decide +kernel
theorem dX4_paid_1 : decode cX4_paid 1 = .ok (.istore_n 1, 1) := by decide +kernel
theorem dX4_paid_2 : decode cX4_paid 2 = .ok (.iconst 0, 1) := by decide +kernel
theorem dX4_paid_3 : decode cX4_paid 3 = .ok (.istore_n 2, 1) := by decide +kernel
theorem dX4_paid_4 : decode cX4_paid 4 = .ok (.iconst 0, 1) := by decide +kernel
theorem dX4_paid_5 : decode cX4_paid 5 = .ok (.istore_n 3, 1) := by decide +kernel
theorem dX4_paid_6 : decode cX4_paid 6 = .ok (.iload_n 3, 1) := by decide +kernel
theorem dX4_paid_7 : decode cX4_paid 7 = .ok (.aload_n 0, 1) := by decide +kernel
theorem dX4_paid_8 : decode cX4_paid 8 = .ok (.getfield 53, 3) := by decide +kernel
theorem dX4_paid_11 : decode cX4_paid 11 = .ok (.getfield 184, 3) := by decide +kernel
theorem dX4_paid_14 : decode cX4_paid 14 = .ok (.if_icmp .ge 52, 3) := by decide +kernel
theorem dX4_paid_17 : decode cX4_paid 17 = .ok (.aload_n 0, 1) := by decide +kernel
theorem dX4_paid_18 : decode cX4_paid 18 = .ok (.getfield 53, 3) := by decide +kernel
theorem dX4_paid_21 : decode cX4_paid 21 = .ok (.iload_n 3, 1) := by decide +kernel
theorem dX4_paid_22 : decode cX4_paid 22 = .ok (.aload_n 0, 1) := by decide +kernel
theorem dX4_paid_23 : decode cX4_paid 23 = .ok (.getfield 36, 3) := by decide +kernel
theorem dX4_paid_26 : decode cX4_paid 26 = .ok (.getfield 280, 3) := by decide +kernel
theorem dX4_paid_29 : decode cX4_paid 29 = .ok (.iload_n 3, 1) := by decide +kernel
theorem dX4_paid_30 : decode cX4_paid 30 = .ok (.iaload, 1) := by decide +kernel
theorem dX4_paid_31 : decode cX4_paid 31 = .ok (.invokevirtual 187, 3) := by decide +kernel
theorem dX4_paid_34 : decode cX4_paid 34 = .ok (.istore 4, 2) := by decide +kernel
theorem dX4_paid_36 : decode cX4_paid 36 = .ok (.aload_n 0, 1) := by decide +kernel
theorem dX4_paid_37 : decode cX4_paid 37 = .ok (.getfield 36, 3) := by decide +kernel
theorem dX4_paid_40 : decode cX4_paid 40 = .ok (.iload_n 3, 1) := by decide +kernel
theorem dX4_paid_41 : decode cX4_paid 41 = .ok (.invokevirtual 262, 3) := by decide +kernel
theorem dX4_paid_44 : decode cX4_paid 44 = .ok (.ifCond .eq 11, 3) := by decide +kernel
theorem dX4_paid_47 : decode cX4_paid 47 = .ok (.iload_n 1, 1) := by decide +kernel
theorem dX4_paid_48 : decode cX4_paid 48 = .ok (.iload 4, 2) := by decide +kernel
theorem dX4_paid_50 : decode cX4_paid 50 = .ok (.iadd, 1) := by decide +kernel
theorem dX4_paid_51 : decode cX4_paid 51 = .ok (.istore_n 1, 1) := by decide +kernel
theorem dX4_paid_52 : decode cX4_paid 52 = .ok (.goto 8, 3) := by decide +kernel
theorem dX4_paid_55 : decode cX4_paid 55 = .ok (.iload_n 2, 1) := by decide +kernel
theorem dX4_paid_56 : decode cX4_paid 56 = .ok (.iload 4, 2) := by decide +kernel
theorem dX4_paid_58 : decode cX4_paid 58 = .ok (.iadd, 1) := by decide +kernel
theorem dX4_paid_59 : decode cX4_paid 59 = .ok (.istore_n 2, 1) := by decide +kernel
theorem dX4_paid_60 : decode cX4_paid 60 = .ok (.iinc 3 1, 3) := by decide +kernel
theorem dX4_paid_63 : decode cX4_paid 63 = .ok (.goto (-57), 3) := by decide +kernel
theorem dX4_paid_66 : decode cX4_paid 66 = .ok (.aload_n 0, 1) := by decide +kernel
theorem dX4_paid_67 : decode cX4_paid 67 = .ok (.iload_n 2, 1) := by decide +kernel
theorem dX4_paid_68 : decode cX4_paid 68 = .ok (.putfield 57, 3) := by decide +kernel
theorem dX4_paid_71 : decode cX4_paid 71 = .ok (.iload_n 1, 1) := by decide +kernel
theorem dX4_paid_72 : decode cX4_paid 72 = .ok (.ireturn, 1) := by decide +kernel
set_option maxRecDepth 20000 in
theorem ggX4_keep_X4_isKeepingPlace : GoodIn wsX4_keep wsX4_isKeepingPlace := goodIn_r _ [7] (by decide +kernel) (by decide +kernel)
set_option maxRecDepth 20000 in
theorem gX4_keep_X4_isKeepingPlace : GoodIn wsX4_keep (va_wsS RX4 283 yX4_isKeepingPlace wsX4_isKeepingPlace) := goodIn_app (goodIn_of _ (by decide +kernel)) ggX4_keep_X4_isKeepingPlace
set_option maxRecDepth 20000 in
theorem ggX4_keep_X0_store : GoodIn wsX4_keep wsX0_store := goodIn_r _ [12, 13, 14, 15, 16, 17, 18, 19, 52, 53, 54] (by decide +kernel) (by decide +kernel)
set_option maxRecDepth 20000 in
theorem gX4_keep_X0_store : GoodIn wsX4_keep (wsV RX4 286 RX0 yX0_store wsX0_store) := goodIn_app (goodIn_of _ (by decide +kernel)) ggX4_keep_X0_store
set_option maxRecDepth 20000 in
theorem ggX4_keep_X0_howManyPaid : GoodIn wsX4_keep wsX0_howManyPaid := goodIn_r _ [23, 24, 25, 26, 11, 27, 13, 52, 53, 54] (by decide +kernel) (by decide +kernel)
set_option maxRecDepth 20000 in
theorem gX4_keep_X0_howManyPaid : GoodIn wsX4_keep (wsV RX4 290 RX0 yX0_howManyPaid wsX0_howManyPaid) := goodIn_app (goodIn_of _ (by decide +kernel)) ggX4_keep_X0_howManyPaid
theorem dX4_keep_0 : decode cX4_keep 0 = .ok (.iload_n 1, 1) := by decide +kernel
theorem dX4_keep_1 : decode cX4_keep 1 = .ok (.invokestatic 283, 3) := by decide +kernel
theorem dX4_keep_4 : decode cX4_keep 4 = .ok (.ifCond .ne 5, 3) := by decide +kernel
theorem dX4_keep_7 : decode cX4_keep 7 = .ok (.iconst (-1), 1) := by decide +kernel
theorem dX4_keep_8 : decode cX4_keep 8 = .ok (.ireturn, 1) := by decide +kernel
theorem dX4_keep_9 : decode cX4_keep 9 = .ok (.aload_n 0, 1) := by decide +kernel
theorem dX4_keep_10 : decode cX4_keep 10 = .ok (.getfield 36, 3) := by decide +kernel
theorem dX4_keep_13 : decode cX4_keep 13 = .ok (.iload_n 1, 1) := by decide +kernel
theorem dX4_keep_14 : decode cX4_keep 14 = .ok (.invokevirtual 286, 3) := by decide +kernel
theorem dX4_keep_17 : decode cX4_keep 17 = .ok (.aload_n 0, 1) := by decide +kernel
theorem dX4_keep_18 : decode cX4_keep 18 = .ok (.getfield 36, 3) := by decide +kernel
theorem dX4_keep_21 : decode cX4_keep 21 = .ok (.aload_n 0, 1) := by decide +kernel
theorem dX4_keep_22 : decode cX4_keep 22 = .ok (.getfield 53, 3) := by decide +kernel
theorem dX4_keep_25 : decode cX4_keep 25 = .ok (.getfield 184, 3) := by decide +kernel
theorem dX4_keep_28 : decode cX4_keep 28 = .ok (.invokevirtual 290, 3) := by decide +kernel
theorem dX4_keep_31 : decode cX4_keep 31 = .ok (.ireturn, 1) := by decide +kernel
set_option maxRecDepth 20000 in
theorem ggX4_on_X4_isKeepingPlace : GoodIn wsX4_on wsX4_isKeepingPlace := goodIn_r _ [8] (by decide +kernel) (by decide +kernel)
set_option maxRecDepth 20000 in
theorem gX4_on_X4_isKeepingPlace : GoodIn wsX4_on (va_wsS RX4 283 yX4_isKeepingPlace wsX4_isKeepingPlace) := goodIn_app (goodIn_of _ (by decide +kernel)) ggX4_on_X4_isKeepingPlace
set_option maxRecDepth 20000 in
theorem ggX4_on_X4_find : GoodIn wsX4_on wsX4_find := goodIn_r _ [12, 13, 14, 34, 35, 36, 37, 38, 39, 40, 41, 42, 43, 44, 45, 46] (by decide +kernel) (by decide +kernel)
set_option maxRecDepth 20000 in
theorem gX4_on_X4_find : GoodIn wsX4_on (wsV RX4 81 RX4 yX4_find wsX4_find) := goodIn_app (goodIn_of _ (by decide +kernel)) ggX4_on_X4_find
set_option maxRecDepth 20000 in
theorem ggX4_on_X0_restore : GoodIn wsX4_on wsX0_restore := goodIn_r _ [19, 20, 21, 22, 23, 24, 25, 47, 48, 49] (by decide +kernel) (by decide +kernel)
set_option maxRecDepth 20000 in
theorem gX4_on_X0_restore : GoodIn wsX4_on (wsV RX4 297 RX0 yX0_restore wsX0_restore) := goodIn_app (goodIn_of _ (by decide +kernel)) ggX4_on_X0_restore
set_option maxRecDepth 20000 in
theorem ggX4_on_X0_howManyPaid : GoodIn wsX4_on wsX0_howManyPaid := goodIn_r _ [29, 30, 31, 32, 18, 33, 21, 47, 48, 49] (by decide +kernel) (by decide +kernel)
set_option maxRecDepth 20000 in
theorem gX4_on_X0_howManyPaid : GoodIn wsX4_on (wsV RX4 290 RX0 yX0_howManyPaid wsX0_howManyPaid) := goodIn_app (goodIn_of _ (by decide +kernel)) ggX4_on_X0_howManyPaid
theorem dX4_on_0 : decode cX4_on 0 = .ok (.iload_n 1, 1) := by decide +kernel
theorem dX4_on_1 : decode cX4_on 1 = .ok (.invokestatic 283, 3) := by decide +kernel
theorem dX4_on_4 : decode cX4_on 4 = .ok (.ifCond .ne 5, 3) := by decide +kernel
theorem dX4_on_7 : decode cX4_on 7 = .ok (.iconst (-1), 1) := by decide +kernel
theorem dX4_on_8 : decode cX4_on 8 = .ok (.ireturn, 1) := by decide +kernel
theorem dX4_on_9 : decode cX4_on 9 = .ok (.aload_n 0, 1) := by decide +kernel
theorem dX4_on_10 : decode cX4_on 10 = .ok (.getfield 36, 3) := by decide +kernel
theorem dX4_on_13 : decode cX4_on 13 = .ok (.getfield 293, 3) := by decide +kernel
theorem dX4_on_16 : decode cX4_on 16 = .ok (.iload_n 1, 1) := by decide +kernel
theorem dX4_on_17 : decode cX4_on 17 = .ok (.baload, 1) := by decide +kernel
theorem dX4_on_18 : decode cX4_on 18 = .ok (.ifCond .ne 9, 3) := by decide +kernel
theorem dX4_on_21 : decode cX4_on 21 = .ok (.aload_n 0, 1) := by decide +kernel
theorem dX4_on_22 : decode cX4_on 22 = .ok (.iconst 1, 1) := by decide +kernel
theorem dX4_on_23 : decode cX4_on 23 = .ok (.invokevirtual 81, 3) := by decide +kernel
theorem dX4_on_26 : decode cX4_on 26 = .ok (.ireturn, 1) := by decide +kernel
theorem dX4_on_27 : decode cX4_on 27 = .ok (.aload_n 0, 1) := by decide +kernel
theorem dX4_on_28 : decode cX4_on 28 = .ok (.getfield 36, 3) := by decide +kernel
theorem dX4_on_31 : decode cX4_on 31 = .ok (.iload_n 1, 1) := by decide +kernel
theorem dX4_on_32 : decode cX4_on 32 = .ok (.invokevirtual 297, 3) := by decide +kernel
theorem dX4_on_35 : decode cX4_on 35 = .ok (.aload_n 0, 1) := by decide +kernel
theorem dX4_on_36 : decode cX4_on 36 = .ok (.getfield 36, 3) := by decide +kernel
theorem dX4_on_39 : decode cX4_on 39 = .ok (.aload_n 0, 1) := by decide +kernel
theorem dX4_on_40 : decode cX4_on 40 = .ok (.getfield 53, 3) := by decide +kernel
theorem dX4_on_43 : decode cX4_on 43 = .ok (.getfield 184, 3) := by decide +kernel
theorem dX4_on_46 : decode cX4_on 46 = .ok (.invokevirtual 290, 3) := by decide +kernel
theorem dX4_on_49 : decode cX4_on 49 = .ok (.ireturn, 1) := by decide +kernel
set_option maxRecDepth 20000 in
theorem ggX4_must_X3_isPerson : GoodIn wsX4_must wsX3_isPerson := goodIn_r _ [7, 8, 54, 55, 56, 57, 58, 59, 60, 61, 62, 63, 64] (by decide +kernel) (by decide +kernel)
set_option maxRecDepth 20000 in
theorem gX4_must_X3_isPerson : GoodIn wsX4_must (wsV RX4 127 RX3 yX3_isPerson wsX3_isPerson) := goodIn_app (goodIn_of _ (by decide +kernel)) ggX4_must_X3_isPerson
set_option maxRecDepth 20000 in
theorem ggX4_must_X4_refuseRound : GoodIn wsX4_must wsX4_refuseRound := goodIn_r _ [13, 14, 1, 15, 2, 16, 17, 12, 18, 19, 20, 21, 22, 23, 24, 25, 26, 27, 41, 42, 43, 44, 45, 46, 47, 48, 49, 50, 51, 52, 53, 54, 55, 56, 57, 58, 59, 60, 61, 62, 63, 64] (by decide +kernel) (by decide +kernel)
set_option maxRecDepth 20000 in
theorem gX4_must_X4_refuseRound : GoodIn wsX4_must (wsV RX4 173 RX4 yX4_refuseRound wsX4_refuseRound) := goodIn_app (goodIn_of _ (by decide +kernel)) ggX4_must_X4_refuseRound
set_option maxRecDepth 20000 in
theorem ggX4_must_X4_mustBeOut : GoodIn wsX4_must wsX4_mustBeOut := goodIn_r _ [31, 1, 15, 32, 33, 34, 35, 36, 6, 37, 38, 39, 40, 41, 42, 43, 44, 45, 46, 47, 48, 49, 50, 51, 52, 53, 54, 55, 56, 57, 58, 59, 60, 61, 62, 63, 64] (by decide +kernel) (by decide +kernel)
set_option maxRecDepth 20000 in
theorem gX4_must_X4_mustBeOut : GoodIn wsX4_must (wsV RX4 300 RX4 yX4_mustBeOut wsX4_mustBeOut) := goodIn_app (goodIn_of _ (by decide +kernel)) ggX4_must_X4_mustBeOut
theorem dX4_must_0 : decode cX4_must 0 = .ok (.aload_n 0, 1) := by decide +kernel
theorem dX4_must_1 : decode cX4_must 1 = .ok (.getfield 53, 3) := by decide +kernel
theorem dX4_must_4 : decode cX4_must 4 = .ok (.iload_n 2, 1) := by decide +kernel
theorem dX4_must_5 : decode cX4_must 5 = .ok (.invokevirtual 127, 3) := by decide +kernel
theorem dX4_must_8 : decode cX4_must 8 = .ok (.ifCond .ne 5, 3) := by decide +kernel
theorem dX4_must_11 : decode cX4_must 11 = .ok (.iconst (-1), 1) := by decide +kernel
theorem dX4_must_12 : decode cX4_must 12 = .ok (.ireturn, 1) := by decide +kernel
theorem dX4_must_13 : decode cX4_must 13 = .ok (.aload_n 0, 1) := by decide +kernel
theorem dX4_must_14 : decode cX4_must 14 = .ok (.iload_n 1, 1) := by decide +kernel
theorem dX4_must_15 : decode cX4_must 15 = .ok (.invokevirtual 173, 3) := by decide +kernel
theorem dX4_must_18 : decode cX4_must 18 = .ok (.istore_n 3, 1) := by decide +kernel
theorem dX4_must_19 : decode cX4_must 19 = .ok (.iload_n 3, 1) := by decide +kernel
theorem dX4_must_20 : decode cX4_must 20 = .ok (.ifCond .eq 5, 3) := by decide +kernel
theorem dX4_must_23 : decode cX4_must 23 = .ok (.iload_n 3, 1) := by decide +kernel
theorem dX4_must_24 : decode cX4_must 24 = .ok (.ireturn, 1) := by decide +kernel
theorem dX4_must_25 : decode cX4_must 25 = .ok (.aload_n 0, 1) := by decide +kernel
theorem dX4_must_26 : decode cX4_must 26 = .ok (.aload_n 0, 1) := by decide +kernel
theorem dX4_must_27 : decode cX4_must 27 = .ok (.getfield 11, 3) := by decide +kernel
theorem dX4_must_30 : decode cX4_must 30 = .ok (.iload_n 1, 1) := by decide +kernel
theorem dX4_must_31 : decode cX4_must 31 = .ok (.aaload, 1) := by decide +kernel
theorem dX4_must_32 : decode cX4_must 32 = .ok (.iload_n 2, 1) := by decide +kernel
theorem dX4_must_33 : decode cX4_must 33 = .ok (.invokevirtual 300, 3) := by decide +kernel
theorem dX4_must_36 : decode cX4_must 36 = .ok (.ireturn, 1) := by decide +kernel
set_option maxRecDepth 20000 in
theorem ggX4_liars_X4_refuseRound : GoodIn wsX4_liars wsX4_refuseRound := goodIn_r _ [10, 11, 1, 12, 3, 13, 14, 9, 15, 16, 17, 18, 19, 20, 21, 22, 23, 24, 46, 47, 48, 49, 50, 51, 52, 53, 54, 55, 56, 57, 58, 59, 60, 61, 62, 63, 64, 65, 66, 67, 68, 69] (by decide +kernel) (by decide +kernel)
set_option maxRecDepth 20000 in
theorem gX4_liars_X4_refuseRound : GoodIn wsX4_liars (wsV RX4 173 RX4 yX4_refuseRound wsX4_refuseRound) := goodIn_app (goodIn_of _ (by decide +kernel)) ggX4_liars_X4_refuseRound
set_option maxRecDepth 20000 in
theorem ggX4_liars_X4_mustBeOut : GoodIn wsX4_liars wsX4_mustBeOut := goodIn_r _ [28, 1, 12, 29, 30, 31, 32, 33, 34, 35, 36, 37, 38, 46, 47, 48, 49, 50, 51, 52, 53, 54, 55, 56, 57, 58, 59, 60, 61, 62, 63, 64, 65, 66, 67, 68, 69] (by decide +kernel) (by decide +kernel)
set_option maxRecDepth 20000 in
theorem gX4_liars_X4_mustBeOut : GoodIn wsX4_liars (wsV RX4 300 RX4 yX4_mustBeOut wsX4_mustBeOut) := goodIn_app (goodIn_of _ (by decide +kernel)) ggX4_liars_X4_mustBeOut
set_option maxRecDepth 20000 in
theorem ggX4_liars_J6_bitCount_0f7a4 : GoodIn wsX4_liars wsJ6_bitCount_0f7a4 := goodIn_r _ [42, 43, 44, 45] (by decide +kernel) (by decide +kernel)
set_option maxRecDepth 20000 in
theorem gX4_liars_J6_bitCount_0f7a4 : GoodIn wsX4_liars (va_wsS RX4 233 yJ6_bitCount_0f7a4 wsJ6_bitCount_0f7a4) := goodIn_app (goodIn_of _ (by decide +kernel)) ggX4_liars_J6_bitCount_0f7a4
theorem dX4_liars_0 : decode cX4_liars 0 = .ok (.aload_n 0, 1) := by decide +kernel
theorem dX4_liars_1 : decode cX4_liars 1 = .ok (.iload_n 1, 1) := by decide +kernel
theorem dX4_liars_2 : decode cX4_liars 2 = .ok (.invokevirtual 173, 3) := by decide +kernel
theorem dX4_liars_5 : decode cX4_liars 5 = .ok (.istore_n 2, 1) := by decide +kernel
theorem dX4_liars_6 : decode cX4_liars 6 = .ok (.iload_n 2, 1) := by decide +kernel
theorem dX4_liars_7 : decode cX4_liars 7 = .ok (.ifCond .eq 5, 3) := by decide +kernel
theorem dX4_liars_10 : decode cX4_liars 10 = .ok (.iload_n 2, 1) := by decide +kernel
theorem dX4_liars_11 : decode cX4_liars 11 = .ok (.ireturn, 1) := by decide +kernel
theorem dX4_liars_12 : decode cX4_liars 12 = .ok (.iconst 0, 1) := by decide +kernel
theorem dX4_liars_13 : decode cX4_liars 13 = .ok (.istore_n 3, 1) := by decide +kernel
theorem dX4_liars_14 : decode cX4_liars 14 = .ok (.iconst 0, 1) := by decide +kernel
theorem dX4_liars_15 : decode cX4_liars 15 = .ok (.istore 4, 2) := by decide +kernel
theorem dX4_liars_17 : decode cX4_liars 17 = .ok (.iconst 0, 1) := by decide +kernel
theorem dX4_liars_18 : decode cX4_liars 18 = .ok (.istore 5, 2) := by decide +kernel
theorem dX4_liars_20 : decode cX4_liars 20 = .ok (.iload 5, 2) := by decide +kernel
theorem dX4_liars_22 : decode cX4_liars 22 = .ok (.aload_n 0, 1) := by decide +kernel
theorem dX4_liars_23 : decode cX4_liars 23 = .ok (.getfield 53, 3) := by decide +kernel
theorem dX4_liars_26 : decode cX4_liars 26 = .ok (.getfield 124, 3) := by decide +kernel
theorem dX4_liars_29 : decode cX4_liars 29 = .ok (.if_icmp .ge 58, 3) := by decide +kernel
theorem dX4_liars_32 : decode cX4_liars 32 = .ok (.aload_n 0, 1) := by decide +kernel
theorem dX4_liars_33 : decode cX4_liars 33 = .ok (.aload_n 0, 1) := by decide +kernel
theorem dX4_liars_34 : decode cX4_liars 34 = .ok (.getfield 11, 3) := by decide +kernel
theorem dX4_liars_37 : decode cX4_liars 37 = .ok (.iload_n 1, 1) := by decide +kernel
theorem dX4_liars_38 : decode cX4_liars 38 = .ok (.aaload, 1) := by decide +kernel
theorem dX4_liars_39 : decode cX4_liars 39 = .ok (.iload 5, 2) := by decide +kernel
theorem dX4_liars_41 : decode cX4_liars 41 = .ok (.invokevirtual 300, 3) := by decide +kernel
theorem dX4_liars_44 : decode cX4_liars 44 = .ok (.aload_n 0, 1) := by decide +kernel
theorem dX4_liars_45 : decode cX4_liars 45 = .ok (.getfield 53, 3) := by decide +kernel
theorem dX4_liars_48 : decode cX4_liars 48 = .ok (.getfield 155, 3) := by decide +kernel
theorem dX4_liars_51 : decode cX4_liars 51 = .ok (.iload 5, 2) := by decide +kernel
theorem dX4_liars_53 : decode cX4_liars 53 = .ok (.iaload, 1) := by decide +kernel
theorem dX4_liars_54 : decode cX4_liars 54 = .ok (.iconst (-1), 1) := by decide +kernel
theorem dX4_liars_55 : decode cX4_liars 55 = .ok (.ixor, 1) := by decide +kernel
theorem dX4_liars_56 : decode cX4_liars 56 = .ok (.iand, 1) := by decide +kernel
theorem dX4_liars_57 : decode cX4_liars 57 = .ok (.istore 6, 2) := by decide +kernel
theorem dX4_liars_59 : decode cX4_liars 59 = .ok (.iload 6, 2) := by decide +kernel
theorem dX4_liars_61 : decode cX4_liars 61 = .ok (.ifCond .eq 20, 3) := by decide +kernel
theorem dX4_liars_64 : decode cX4_liars 64 = .ok (.iload_n 3, 1) := by decide +kernel
theorem dX4_liars_65 : decode cX4_liars 65 = .ok (.iconst 1, 1) := by decide +kernel
theorem dX4_liars_66 : decode cX4_liars 66 = .ok (.iload 5, 2) := by decide +kernel
theorem dX4_liars_68 : decode cX4_liars 68 = .ok (.ishl, 1) := by decide +kernel
theorem dX4_liars_69 : decode cX4_liars 69 = .ok (.ior, 1) := by decide +kernel
theorem dX4_liars_70 : decode cX4_liars 70 = .ok (.istore_n 3, 1) := by decide +kernel
theorem dX4_liars_71 : decode cX4_liars 71 = .ok (.iload 4, 2) := by decide +kernel
theorem dX4_liars_73 : decode cX4_liars 73 = .ok (.iload 6, 2) := by decide +kernel
theorem dX4_liars_75 : decode cX4_liars 75 = .ok (.invokestatic 233, 3) := by decide +kernel
theorem dX4_liars_78 : decode cX4_liars 78 = .ok (.iadd, 1) := by decide +kernel
theorem dX4_liars_79 : decode cX4_liars 79 = .ok (.istore 4, 2) := by decide +kernel
theorem dX4_liars_81 : decode cX4_liars 81 = .ok (.iinc 5 1, 3) := by decide +kernel
theorem dX4_liars_84 : decode cX4_liars 84 = .ok (.goto (-64), 3) := by decide +kernel
theorem dX4_liars_87 : decode cX4_liars 87 = .ok (.aload_n 0, 1) := by decide +kernel
theorem dX4_liars_88 : decode cX4_liars 88 = .ok (.iload 4, 2) := by decide +kernel
theorem dX4_liars_90 : decode cX4_liars 90 = .ok (.putfield 57, 3) := by decide +kernel
theorem dX4_liars_93 : decode cX4_liars 93 = .ok (.iload_n 3, 1) := by decide +kernel
theorem dX4_liars_94 : decode cX4_liars 94 = .ok (.ireturn, 1) := by decide +kernel
theorem dX4_asked_0 : decode cX4_asked 0 = .ok (.aload_n 0, 1) := by decide +kernel
theorem dX4_asked_1 : decode cX4_asked 1 = .ok (.getfield 57, 3) := by decide +kernel
theorem dX4_asked_4 : decode cX4_asked 4 = .ok (.ireturn, 1) := by decide +kernel
theorem dX4_upper_0 : decode cX4_upper 0 = .ok (.aload_n 0, 1) := by decide +kernel
theorem dX4_upper_1 : decode cX4_upper 1 = .ok (.getfield 61, 3) := by decide +kernel
theorem dX4_upper_4 : decode cX4_upper 4 = .ok (.lreturn, 1) := by decide +kernel
theorem dX4_lower_0 : decode cX4_lower 0 = .ok (.aload_n 0, 1) := by decide +kernel
theorem dX4_lower_1 : decode cX4_lower 1 = .ok (.getfield 65, 3) := by decide +kernel
theorem dX4_lower_4 : decode cX4_lower 4 = .ok (.lreturn, 1) := by decide +kernel
set_option maxRecDepth 20000 in
theorem ggX4_count_X0_howManyPaid : GoodIn wsX4_count wsX0_howManyPaid := goodIn_r _ [11, 12, 13, 14, 10, 15, 16, 61, 62, 63] (by decide +kernel) (by decide +kernel)
set_option maxRecDepth 20000 in
theorem gX4_count_X0_howManyPaid : GoodIn wsX4_count (wsV RX4 290 RX0 yX0_howManyPaid wsX0_howManyPaid) := goodIn_app (goodIn_of _ (by decide +kernel)) ggX4_count_X0_howManyPaid
set_option maxRecDepth 20000 in
theorem ggX4_count_X3_howManyOfKind : GoodIn wsX4_count wsX3_howManyOfKind := goodIn_r _ [21, 22, 23, 24, 25, 20, 26, 27, 50, 51, 52, 53, 54, 55, 56, 57, 58, 59, 60] (by decide +kernel) (by decide +kernel)
set_option maxRecDepth 20000 in
theorem gX4_count_X3_howManyOfKind : GoodIn wsX4_count (wsV RX4 303 RX3 yX3_howManyOfKind wsX3_howManyOfKind) := goodIn_app (goodIn_of _ (by decide +kernel)) ggX4_count_X3_howManyOfKind
set_option maxRecDepth 20000 in
theorem ggX4_count_X0_howManyKept : GoodIn wsX4_count wsX0_howManyKept := goodIn_r _ [31, 32, 61, 62, 63] (by decide +kernel) (by decide +kernel)
set_option maxRecDepth 20000 in
theorem gX4_count_X0_howManyKept : GoodIn wsX4_count (wsV RX4 306 RX0 yX0_howManyKept wsX0_howManyKept) := goodIn_app (goodIn_of _ (by decide +kernel)) ggX4_count_X0_howManyKept
set_option maxRecDepth 20000 in
theorem ggX4_count_X4_howManyThere : GoodIn wsX4_count wsX4_howManyThere := goodIn_r _ [36] (by decide +kernel) (by decide +kernel)
set_option maxRecDepth 20000 in
theorem gX4_count_X4_howManyThere : GoodIn wsX4_count (va_wsS RX4 309 yX4_howManyThere wsX4_howManyThere) := goodIn_app (goodIn_of _ (by decide +kernel)) ggX4_count_X4_howManyThere
theorem dX4_count_0 : decode cX4_count 0 = .ok (.iload_n 1, 1) := by decide +kernel
theorem dX4_count_1 : decode cX4_count 1 = .ok (.tableswitch 120 0 7 #[47, 55, 63, 78, 87, 96, 104, 112], 47) := by decide +kernel
theorem dX4_count_48 : decode cX4_count 48 = .ok (.aload_n 0, 1) := by decide +kernel
theorem dX4_count_49 : decode cX4_count 49 = .ok (.getfield 53, 3) := by decide +kernel
theorem dX4_count_52 : decode cX4_count 52 = .ok (.getfield 124, 3) := by decide +kernel
theorem dX4_count_55 : decode cX4_count 55 = .ok (.ireturn, 1) := by decide +kernel
theorem dX4_count_56 : decode cX4_count 56 = .ok (.aload_n 0, 1) := by decide +kernel
theorem dX4_count_57 : decode cX4_count 57 = .ok (.getfield 53, 3) := by decide +kernel
theorem dX4_count_60 : decode cX4_count 60 = .ok (.getfield 184, 3) := by decide +kernel
theorem dX4_count_63 : decode cX4_count 63 = .ok (.ireturn, 1) := by decide +kernel
theorem dX4_count_64 : decode cX4_count 64 = .ok (.aload_n 0, 1) := by decide +kernel
theorem dX4_count_65 : decode cX4_count 65 = .ok (.getfield 36, 3) := by decide +kernel
theorem dX4_count_68 : decode cX4_count 68 = .ok (.aload_n 0, 1) := by decide +kernel
theorem dX4_count_69 : decode cX4_count 69 = .ok (.getfield 53, 3) := by decide +kernel
theorem dX4_count_72 : decode cX4_count 72 = .ok (.getfield 184, 3) := by decide +kernel
theorem dX4_count_75 : decode cX4_count 75 = .ok (.invokevirtual 290, 3) := by decide +kernel
theorem dX4_count_78 : decode cX4_count 78 = .ok (.ireturn, 1) := by decide +kernel
theorem dX4_count_79 : decode cX4_count 79 = .ok (.aload_n 0, 1) := by decide +kernel
theorem dX4_count_80 : decode cX4_count 80 = .ok (.getfield 53, 3) := by decide +kernel
theorem dX4_count_83 : decode cX4_count 83 = .ok (.iconst 1, 1) := by decide +kernel
theorem dX4_count_84 : decode cX4_count 84 = .ok (.invokevirtual 303, 3) := by decide +kernel
theorem dX4_count_87 : decode cX4_count 87 = .ok (.ireturn, 1) := by decide +kernel
theorem dX4_count_88 : decode cX4_count 88 = .ok (.aload_n 0, 1) := by decide +kernel
theorem dX4_count_89 : decode cX4_count 89 = .ok (.getfield 53, 3) := by decide +kernel
theorem dX4_count_92 : decode cX4_count 92 = .ok (.iconst 3, 1) := by decide +kernel
theorem dX4_count_93 : decode cX4_count 93 = .ok (.invokevirtual 303, 3) := by decide +kernel
theorem dX4_count_96 : decode cX4_count 96 = .ok (.ireturn, 1) := by decide +kernel
theorem dX4_count_97 : decode cX4_count 97 = .ok (.aload_n 0, 1) := by decide +kernel
theorem dX4_count_98 : decode cX4_count 98 = .ok (.getfield 36, 3) := by decide +kernel
theorem dX4_count_101 : decode cX4_count 101 = .ok (.invokevirtual 306, 3) := by decide +kernel
theorem dX4_count_104 : decode cX4_count 104 = .ok (.ireturn, 1) := by decide +kernel
theorem dX4_count_105 : decode cX4_count 105 = .ok (.aload_n 0, 1) := by decide +kernel
theorem dX4_count_106 : decode cX4_count 106 = .ok (.getfield 14, 3) := by decide +kernel
theorem dX4_count_109 : decode cX4_count 109 = .ok (.invokestatic 309, 3) := by decide +kernel
theorem dX4_count_112 : decode cX4_count 112 = .ok (.ireturn, 1) := by decide +kernel
theorem dX4_count_113 : decode cX4_count 113 = .ok (.aload_n 0, 1) := by decide +kernel
theorem dX4_count_114 : decode cX4_count 114 = .ok (.getfield 23, 3) := by decide +kernel
theorem dX4_count_117 : decode cX4_count 117 = .ok (.invokestatic 309, 3) := by decide +kernel
theorem dX4_count_120 : decode cX4_count 120 = .ok (.ireturn, 1) := by decide +kernel
theorem dX4_count_121 : decode cX4_count 121 = .ok (.iconst (-1), 1) := by decide +kernel
theorem dX4_count_122 : decode cX4_count 122 = .ok (.ireturn, 1) := by decide +kernel
theorem dX4_finding_0 : decode cX4_finding 0 = .ok (.aload_n 0, 1) := by decide +kernel
theorem dX4_finding_1 : decode cX4_finding 1 = .ok (.getfield 68, 3) := by decide +kernel
theorem dX4_finding_4 : decode cX4_finding 4 = .ok (.ireturn, 1) := by decide +kernel
theorem dX4_findings_0 : decode cX4_findings 0 = .ok (.iload_n 1, 1) := by decide +kernel
theorem dX4_findings_1 : decode cX4_findings 1 = .ok (.iconst 1, 1) := by decide +kernel
theorem dX4_findings_2 : decode cX4_findings 2 = .ok (.if_icmp .lt 8, 3) := by decide +kernel
theorem dX4_findings_5 : decode cX4_findings 5 = .ok (.iload_n 1, 1) := by decide +kernel
theorem dX4_findings_6 : decode cX4_findings 6 = .ok (.iconst 5, 1) := by decide +kernel
theorem dX4_findings_7 : decode cX4_findings 7 = .ok (.if_icmp .le 7, 3) := by decide +kernel
theorem dX4_findings_10 : decode cX4_findings 10 = .ok (.iconst (-1), 1) := by decide +kernel
theorem dX4_findings_11 : decode cX4_findings 11 = .ok (.goto 9, 3) := by decide +kernel
theorem dX4_findings_14 : decode cX4_findings 14 = .ok (.aload_n 0, 1) := by decide +kernel
theorem dX4_findings_15 : decode cX4_findings 15 = .ok (.getfield 47, 3) := by decide +kernel
theorem dX4_findings_18 : decode cX4_findings 18 = .ok (.iload_n 1, 1) := by decide +kernel
theorem dX4_findings_19 : decode cX4_findings 19 = .ok (.iaload, 1) := by decide +kernel
theorem dX4_findings_20 : decode cX4_findings 20 = .ok (.ireturn, 1) := by decide +kernel
set_option maxRecDepth 20000 in
theorem ggX4_digest_X4_count : GoodIn wsX4_digest wsX4_count := goodIn_r _ [13, 3, 14, 15, 16, 5, 7, 17, 18, 19, 20, 21, 22, 23, 24, 25, 26, 27, 28, 29, 30, 31, 32, 33, 34, 35, 36, 37, 38, 39, 40, 41, 42, 43, 44, 12, 45, 73, 74, 75, 76, 77, 78, 79, 80, 81, 82, 83, 84, 85, 86, 87, 88, 89, 90, 91, 92, 93, 94, 95, 96, 97, 98, 99] (by decide +kernel) (by decide +kernel)
set_option maxRecDepth 20000 in
theorem gX4_digest_X4_count : GoodIn wsX4_digest (wsV RX4 316 RX4 yX4_count wsX4_count) := goodIn_app (goodIn_of _ (by decide +kernel)) ggX4_digest_X4_count
set_option maxRecDepth 20000 in
theorem ggX4_digest_X4_digestVillage : GoodIn wsX4_digest wsX4_digestVillage := goodIn_r _ [49, 3, 14, 2, 15, 50, 51, 52, 30, 53, 37, 54, 55, 56, 57, 58, 59, 12, 60, 61, 62, 63, 64, 16, 65, 73, 74, 75, 76, 77, 78, 79, 80, 81, 82, 83, 84, 85, 86, 87, 88, 89, 90, 91, 92, 93, 94, 95, 96, 97, 98, 99] (by decide +kernel) (by decide +kernel)
set_option maxRecDepth 20000 in
theorem gX4_digest_X4_digestVillage : GoodIn wsX4_digest (wsV RX4 319 RX4 yX4_digestVillage wsX4_digestVillage) := goodIn_app (goodIn_of _ (by decide +kernel)) ggX4_digest_X4_digestVillage
set_option maxRecDepth 20000 in
theorem ggX4_digest_X4_digestKeptBooks : GoodIn wsX4_digest wsX4_digestKeptBooks := goodIn_r _ [69, 16, 70, 2, 71, 3, 15, 72, 73, 74, 75, 76, 77, 78, 79, 80, 81, 82, 83, 84, 85, 97, 98, 99, 86, 87, 88, 89, 90, 91, 92, 93, 94, 95, 96] (by decide +kernel) (by decide +kernel)
set_option maxRecDepth 20000 in
theorem gX4_digest_X4_digestKeptBooks : GoodIn wsX4_digest (wsV RX4 323 RX4 yX4_digestKeptBooks wsX4_digestKeptBooks) := goodIn_app (goodIn_of _ (by decide +kernel)) ggX4_digest_X4_digestKeptBooks
theorem dX4_digest_0 : decode cX4_digest 0 = .ok (.ldc2_w 312, 3) := by decide +kernel
theorem dX4_digest_3 : decode cX4_digest 3 = .ok (.lstore_n 1, 1) := by decide +kernel
theorem dX4_digest_4 : decode cX4_digest 4 = .ok (.iconst 0, 1) := by decide +kernel
theorem dX4_digest_5 : decode cX4_digest 5 = .ok (.istore_n 3, 1) := by decide +kernel
theorem dX4_digest_6 : decode cX4_digest 6 = .ok (.iload_n 3, 1) := by decide +kernel
theorem dX4_digest_7 : decode cX4_digest 7 = .ok (.bipush 8, 2) := by decide +kernel
theorem dX4_digest_9 : decode cX4_digest 9 = .ok (.if_icmp .ge 22, 3) := by decide +kernel
theorem dX4_digest_12 : decode cX4_digest 12 = .ok (.ldc2_w 314, 3) := by decide +kernel
theorem dX4_digest_15 : decode cX4_digest 15 = .ok (.lload_n 1, 1) := by decide +kernel
theorem dX4_digest_16 : decode cX4_digest 16 = .ok (.lmul, 1) := by decide +kernel
theorem dX4_digest_17 : decode cX4_digest 17 = .ok (.aload_n 0, 1) := by decide +kernel
theorem dX4_digest_18 : decode cX4_digest 18 = .ok (.iload_n 3, 1) := by decide +kernel
theorem dX4_digest_19 : decode cX4_digest 19 = .ok (.invokevirtual 316, 3) := by decide +kernel
theorem dX4_digest_22 : decode cX4_digest 22 = .ok (.i2l, 1) := by decide +kernel
theorem dX4_digest_23 : decode cX4_digest 23 = .ok (.ladd, 1) := by decide +kernel
theorem dX4_digest_24 : decode cX4_digest 24 = .ok (.lstore_n 1, 1) := by decide +kernel
theorem dX4_digest_25 : decode cX4_digest 25 = .ok (.iinc 3 1, 3) := by decide +kernel
theorem dX4_digest_28 : decode cX4_digest 28 = .ok (.goto (-22), 3) := by decide +kernel
theorem dX4_digest_31 : decode cX4_digest 31 = .ok (.ldc2_w 314, 3) := by decide +kernel
theorem dX4_digest_34 : decode cX4_digest 34 = .ok (.lload_n 1, 1) := by decide +kernel
theorem dX4_digest_35 : decode cX4_digest 35 = .ok (.lmul, 1) := by decide +kernel
theorem dX4_digest_36 : decode cX4_digest 36 = .ok (.aload_n 0, 1) := by decide +kernel
theorem dX4_digest_37 : decode cX4_digest 37 = .ok (.getfield 53, 3) := by decide +kernel
theorem dX4_digest_40 : decode cX4_digest 40 = .ok (.getfield 146, 3) := by decide +kernel
theorem dX4_digest_43 : decode cX4_digest 43 = .ok (.i2l, 1) := by decide +kernel
theorem dX4_digest_44 : decode cX4_digest 44 = .ok (.ladd, 1) := by decide +kernel
theorem dX4_digest_45 : decode cX4_digest 45 = .ok (.lstore_n 1, 1) := by decide +kernel
theorem dX4_digest_46 : decode cX4_digest 46 = .ok (.aload_n 0, 1) := by decide +kernel
theorem dX4_digest_47 : decode cX4_digest 47 = .ok (.lload_n 1, 1) := by decide +kernel
theorem dX4_digest_48 : decode cX4_digest 48 = .ok (.invokevirtual 319, 3) := by decide +kernel
theorem dX4_digest_51 : decode cX4_digest 51 = .ok (.lstore_n 1, 1) := by decide +kernel
theorem dX4_digest_52 : decode cX4_digest 52 = .ok (.aload_n 0, 1) := by decide +kernel
theorem dX4_digest_53 : decode cX4_digest 53 = .ok (.lload_n 1, 1) := by decide +kernel
theorem dX4_digest_54 : decode cX4_digest 54 = .ok (.invokevirtual 323, 3) := by decide +kernel
theorem dX4_digest_57 : decode cX4_digest 57 = .ok (.lstore_n 1, 1) := by decide +kernel
theorem dX4_digest_58 : decode cX4_digest 58 = .ok (.iconst 0, 1) := by decide +kernel
theorem dX4_digest_59 : decode cX4_digest 59 = .ok (.istore_n 3, 1) := by decide +kernel
theorem dX4_digest_60 : decode cX4_digest 60 = .ok (.iload_n 3, 1) := by decide +kernel
theorem dX4_digest_61 : decode cX4_digest 61 = .ok (.bipush 6, 2) := by decide +kernel
theorem dX4_digest_63 : decode cX4_digest 63 = .ok (.if_icmp .ge 60, 3) := by decide +kernel
theorem dX4_digest_66 : decode cX4_digest 66 = .ok (.ldc2_w 314, 3) := by decide +kernel
theorem dX4_digest_69 : decode cX4_digest 69 = .ok (.lload_n 1, 1) := by decide +kernel
theorem dX4_digest_70 : decode cX4_digest 70 = .ok (.lmul, 1) := by decide +kernel
theorem dX4_digest_71 : decode cX4_digest 71 = .ok (.aload_n 0, 1) := by decide +kernel
theorem dX4_digest_72 : decode cX4_digest 72 = .ok (.getfield 14, 3) := by decide +kernel
theorem dX4_digest_75 : decode cX4_digest 75 = .ok (.iload_n 3, 1) := by decide +kernel
theorem dX4_digest_76 : decode cX4_digest 76 = .ok (.iaload, 1) := by decide +kernel
theorem dX4_digest_77 : decode cX4_digest 77 = .ok (.i2l, 1) := by decide +kernel
theorem dX4_digest_78 : decode cX4_digest 78 = .ok (.ladd, 1) := by decide +kernel
theorem dX4_digest_79 : decode cX4_digest 79 = .ok (.lstore_n 1, 1) := by decide +kernel
theorem dX4_digest_80 : decode cX4_digest 80 = .ok (.iconst 0, 1) := by decide +kernel
theorem dX4_digest_81 : decode cX4_digest 81 = .ok (.istore 4, 2) := by decide +kernel
theorem dX4_digest_83 : decode cX4_digest 83 = .ok (.iload 4, 2) := by decide +kernel
theorem dX4_digest_85 : decode cX4_digest 85 = .ok (.aload_n 0, 1) := by decide +kernel
theorem dX4_digest_86 : decode cX4_digest 86 = .ok (.getfield 14, 3) := by decide +kernel
theorem dX4_digest_89 : decode cX4_digest 89 = .ok (.iload_n 3, 1) := by decide +kernel
theorem dX4_digest_90 : decode cX4_digest 90 = .ok (.iaload, 1) := by decide +kernel
theorem dX4_digest_91 : decode cX4_digest 91 = .ok (.if_icmp .ge 26, 3) := by decide +kernel
theorem dX4_digest_94 : decode cX4_digest 94 = .ok (.ldc2_w 314, 3) := by decide +kernel
theorem dX4_digest_97 : decode cX4_digest 97 = .ok (.lload_n 1, 1) := by decide +kernel
theorem dX4_digest_98 : decode cX4_digest 98 = .ok (.lmul, 1) := by decide +kernel
theorem dX4_digest_99 : decode cX4_digest 99 = .ok (.aload_n 0, 1) := by decide +kernel
theorem dX4_digest_100 : decode cX4_digest 100 = .ok (.getfield 11, 3) := by decide +kernel
theorem dX4_digest_103 : decode cX4_digest 103 = .ok (.iload_n 3, 1) := by decide +kernel
theorem dX4_digest_104 : decode cX4_digest 104 = .ok (.aaload, 1) := by decide +kernel
theorem dX4_digest_105 : decode cX4_digest 105 = .ok (.iload 4, 2) := by decide +kernel
theorem dX4_digest_107 : decode cX4_digest 107 = .ok (.iaload, 1) := by decide +kernel
theorem dX4_digest_108 : decode cX4_digest 108 = .ok (.i2l, 1) := by decide +kernel
theorem dX4_digest_109 : decode cX4_digest 109 = .ok (.ladd, 1) := by decide +kernel
theorem dX4_digest_110 : decode cX4_digest 110 = .ok (.lstore_n 1, 1) := by decide +kernel
theorem dX4_digest_111 : decode cX4_digest 111 = .ok (.iinc 4 1, 3) := by decide +kernel
theorem dX4_digest_114 : decode cX4_digest 114 = .ok (.goto (-31), 3) := by decide +kernel
theorem dX4_digest_117 : decode cX4_digest 117 = .ok (.iinc 3 1, 3) := by decide +kernel
theorem dX4_digest_120 : decode cX4_digest 120 = .ok (.goto (-60), 3) := by decide +kernel
theorem dX4_digest_123 : decode cX4_digest 123 = .ok (.iconst 0, 1) := by decide +kernel
theorem dX4_digest_124 : decode cX4_digest 124 = .ok (.istore_n 3, 1) := by decide +kernel
theorem dX4_digest_125 : decode cX4_digest 125 = .ok (.iload_n 3, 1) := by decide +kernel
theorem dX4_digest_126 : decode cX4_digest 126 = .ok (.iconst 4, 1) := by decide +kernel
theorem dX4_digest_127 : decode cX4_digest 127 = .ok (.if_icmp .ge 60, 3) := by decide +kernel
theorem dX4_digest_130 : decode cX4_digest 130 = .ok (.ldc2_w 314, 3) := by decide +kernel
theorem dX4_digest_133 : decode cX4_digest 133 = .ok (.lload_n 1, 1) := by decide +kernel
theorem dX4_digest_134 : decode cX4_digest 134 = .ok (.lmul, 1) := by decide +kernel
theorem dX4_digest_135 : decode cX4_digest 135 = .ok (.aload_n 0, 1) := by decide +kernel
theorem dX4_digest_136 : decode cX4_digest 136 = .ok (.getfield 23, 3) := by decide +kernel
theorem dX4_digest_139 : decode cX4_digest 139 = .ok (.iload_n 3, 1) := by decide +kernel
theorem dX4_digest_140 : decode cX4_digest 140 = .ok (.iaload, 1) := by decide +kernel
theorem dX4_digest_141 : decode cX4_digest 141 = .ok (.i2l, 1) := by decide +kernel
theorem dX4_digest_142 : decode cX4_digest 142 = .ok (.ladd, 1) := by decide +kernel
theorem dX4_digest_143 : decode cX4_digest 143 = .ok (.lstore_n 1, 1) := by decide +kernel
theorem dX4_digest_144 : decode cX4_digest 144 = .ok (.iconst 0, 1) := by decide +kernel
theorem dX4_digest_145 : decode cX4_digest 145 = .ok (.istore 4, 2) := by decide +kernel
theorem dX4_digest_147 : decode cX4_digest 147 = .ok (.iload 4, 2) := by decide +kernel
theorem dX4_digest_149 : decode cX4_digest 149 = .ok (.aload_n 0, 1) := by decide +kernel
theorem dX4_digest_150 : decode cX4_digest 150 = .ok (.getfield 23, 3) := by decide +kernel
theorem dX4_digest_153 : decode cX4_digest 153 = .ok (.iload_n 3, 1) := by decide +kernel
theorem dX4_digest_154 : decode cX4_digest 154 = .ok (.iaload, 1) := by decide +kernel
theorem dX4_digest_155 : decode cX4_digest 155 = .ok (.if_icmp .ge 26, 3) := by decide +kernel
theorem dX4_digest_158 : decode cX4_digest 158 = .ok (.ldc2_w 314, 3) := by decide +kernel
theorem dX4_digest_161 : decode cX4_digest 161 = .ok (.lload_n 1, 1) := by decide +kernel
theorem dX4_digest_162 : decode cX4_digest 162 = .ok (.lmul, 1) := by decide +kernel
theorem dX4_digest_163 : decode cX4_digest 163 = .ok (.aload_n 0, 1) := by decide +kernel
theorem dX4_digest_164 : decode cX4_digest 164 = .ok (.getfield 20, 3) := by decide +kernel
theorem dX4_digest_167 : decode cX4_digest 167 = .ok (.iload_n 3, 1) := by decide +kernel
theorem dX4_digest_168 : decode cX4_digest 168 = .ok (.aaload, 1) := by decide +kernel
theorem dX4_digest_169 : decode cX4_digest 169 = .ok (.iload 4, 2) := by decide +kernel
theorem dX4_digest_171 : decode cX4_digest 171 = .ok (.baload, 1) := by decide +kernel
theorem dX4_digest_172 : decode cX4_digest 172 = .ok (.i2l, 1) := by decide +kernel
theorem dX4_digest_173 : decode cX4_digest 173 = .ok (.ladd, 1) := by decide +kernel
theorem dX4_digest_174 : decode cX4_digest 174 = .ok (.lstore_n 1, 1) := by decide +kernel
theorem dX4_digest_175 : decode cX4_digest 175 = .ok (.iinc 4 1, 3) := by decide +kernel
theorem dX4_digest_178 : decode cX4_digest 178 = .ok (.goto (-31), 3) := by decide +kernel
theorem dX4_digest_181 : decode cX4_digest 181 = .ok (.iinc 3 1, 3) := by decide +kernel
theorem dX4_digest_184 : decode cX4_digest 184 = .ok (.goto (-59), 3) := by decide +kernel
theorem dX4_digest_187 : decode cX4_digest 187 = .ok (.lload_n 1, 1) := by decide +kernel
theorem dX4_digest_188 : decode cX4_digest 188 = .ok (.lreturn, 1) := by decide +kernel
set_option maxRecDepth 20000 in
theorem ggX4_digestVillage_X3_ofPerson : GoodIn wsX4_digestVillage wsX3_ofPerson := goodIn_r _ [9, 10, 11, 12, 13, 38, 39, 40, 41, 42, 43, 44, 45, 46, 47, 48] (by decide +kernel) (by decide +kernel)
set_option maxRecDepth 20000 in
theorem gX4_digestVillage_X3_ofPerson : GoodIn wsX4_digestVillage (wsV RX4 130 RX3 yX3_ofPerson wsX3_ofPerson) := goodIn_app (goodIn_of _ (by decide +kernel)) ggX4_digestVillage_X3_ofPerson
set_option maxRecDepth 20000 in
theorem ggX4_digestVillage_X4_ofDebt : GoodIn wsX4_digestVillage wsX4_ofDebt := goodIn_r _ [18, 1, 19, 20, 21, 22, 23, 24, 25, 26, 27, 28, 29, 30, 31, 32, 33, 34, 35, 36, 37, 38, 39, 40, 41, 42, 43, 44, 45, 46, 47, 48, 49, 50, 51] (by decide +kernel) (by decide +kernel)
set_option maxRecDepth 20000 in
theorem gX4_digestVillage_X4_ofDebt : GoodIn wsX4_digestVillage (wsV RX4 143 RX4 yX4_ofDebt wsX4_ofDebt) := goodIn_app (goodIn_of _ (by decide +kernel)) ggX4_digestVillage_X4_ofDebt
theorem dX4_digestVillage_0 : decode cX4_digestVillage 0 = .ok (.lload_n 1, 1) := by decide +kernel
theorem dX4_digestVillage_1 : decode cX4_digestVillage 1 = .ok (.lstore_n 3, 1) := by decide +kernel
theorem dX4_digestVillage_2 : decode cX4_digestVillage 2 = .ok (.iconst 0, 1) := by decide +kernel
theorem dX4_digestVillage_3 : decode cX4_digestVillage 3 = .ok (.istore 5, 2) := by decide +kernel
theorem dX4_digestVillage_5 : decode cX4_digestVillage 5 = .ok (.iload 5, 2) := by decide +kernel
theorem dX4_digestVillage_7 : decode cX4_digestVillage 7 = .ok (.aload_n 0, 1) := by decide +kernel
theorem dX4_digestVillage_8 : decode cX4_digestVillage 8 = .ok (.getfield 53, 3) := by decide +kernel
theorem dX4_digestVillage_11 : decode cX4_digestVillage 11 = .ok (.getfield 124, 3) := by decide +kernel
theorem dX4_digestVillage_14 : decode cX4_digestVillage 14 = .ok (.if_icmp .ge 43, 3) := by decide +kernel
theorem dX4_digestVillage_17 : decode cX4_digestVillage 17 = .ok (.iconst 0, 1) := by decide +kernel
theorem dX4_digestVillage_18 : decode cX4_digestVillage 18 = .ok (.istore 6, 2) := by decide +kernel
theorem dX4_digestVillage_20 : decode cX4_digestVillage 20 = .ok (.iload 6, 2) := by decide +kernel
theorem dX4_digestVillage_22 : decode cX4_digestVillage 22 = .ok (.iconst 3, 1) := by decide +kernel
theorem dX4_digestVillage_23 : decode cX4_digestVillage 23 = .ok (.if_icmp .gt 28, 3) := by decide +kernel
theorem dX4_digestVillage_26 : decode cX4_digestVillage 26 = .ok (.ldc2_w 314, 3) := by decide +kernel
theorem dX4_digestVillage_29 : decode cX4_digestVillage 29 = .ok (.lload_n 3, 1) := by decide +kernel
theorem dX4_digestVillage_30 : decode cX4_digestVillage 30 = .ok (.lmul, 1) := by decide +kernel
theorem dX4_digestVillage_31 : decode cX4_digestVillage 31 = .ok (.aload_n 0, 1) := by decide +kernel
theorem dX4_digestVillage_32 : decode cX4_digestVillage 32 = .ok (.getfield 53, 3) := by decide +kernel
theorem dX4_digestVillage_35 : decode cX4_digestVillage 35 = .ok (.iload 5, 2) := by decide +kernel
theorem dX4_digestVillage_37 : decode cX4_digestVillage 37 = .ok (.iload 6, 2) := by decide +kernel
theorem dX4_digestVillage_39 : decode cX4_digestVillage 39 = .ok (.invokevirtual 130, 3) := by decide +kernel
theorem dX4_digestVillage_42 : decode cX4_digestVillage 42 = .ok (.i2l, 1) := by decide +kernel
theorem dX4_digestVillage_43 : decode cX4_digestVillage 43 = .ok (.ladd, 1) := by decide +kernel
theorem dX4_digestVillage_44 : decode cX4_digestVillage 44 = .ok (.lstore_n 3, 1) := by decide +kernel
theorem dX4_digestVillage_45 : decode cX4_digestVillage 45 = .ok (.iinc 6 1, 3) := by decide +kernel
theorem dX4_digestVillage_48 : decode cX4_digestVillage 48 = .ok (.goto (-28), 3) := by decide +kernel
theorem dX4_digestVillage_51 : decode cX4_digestVillage 51 = .ok (.iinc 5 1, 3) := by decide +kernel
theorem dX4_digestVillage_54 : decode cX4_digestVillage 54 = .ok (.goto (-49), 3) := by decide +kernel
theorem dX4_digestVillage_57 : decode cX4_digestVillage 57 = .ok (.iconst 0, 1) := by decide +kernel
theorem dX4_digestVillage_58 : decode cX4_digestVillage 58 = .ok (.istore 5, 2) := by decide +kernel
theorem dX4_digestVillage_60 : decode cX4_digestVillage 60 = .ok (.iload 5, 2) := by decide +kernel
theorem dX4_digestVillage_62 : decode cX4_digestVillage 62 = .ok (.aload_n 0, 1) := by decide +kernel
theorem dX4_digestVillage_63 : decode cX4_digestVillage 63 = .ok (.getfield 53, 3) := by decide +kernel
theorem dX4_digestVillage_66 : decode cX4_digestVillage 66 = .ok (.getfield 184, 3) := by decide +kernel
theorem dX4_digestVillage_69 : decode cX4_digestVillage 69 = .ok (.if_icmp .ge 40, 3) := by decide +kernel
theorem dX4_digestVillage_72 : decode cX4_digestVillage 72 = .ok (.iconst 0, 1) := by decide +kernel
theorem dX4_digestVillage_73 : decode cX4_digestVillage 73 = .ok (.istore 6, 2) := by decide +kernel
theorem dX4_digestVillage_75 : decode cX4_digestVillage 75 = .ok (.iload 6, 2) := by decide +kernel
theorem dX4_digestVillage_77 : decode cX4_digestVillage 77 = .ok (.iconst 4, 1) := by decide +kernel
theorem dX4_digestVillage_78 : decode cX4_digestVillage 78 = .ok (.if_icmp .gt 25, 3) := by decide +kernel
theorem dX4_digestVillage_81 : decode cX4_digestVillage 81 = .ok (.ldc2_w 314, 3) := by decide +kernel
theorem dX4_digestVillage_84 : decode cX4_digestVillage 84 = .ok (.lload_n 3, 1) := by decide +kernel
theorem dX4_digestVillage_85 : decode cX4_digestVillage 85 = .ok (.lmul, 1) := by decide +kernel
theorem dX4_digestVillage_86 : decode cX4_digestVillage 86 = .ok (.aload_n 0, 1) := by decide +kernel
theorem dX4_digestVillage_87 : decode cX4_digestVillage 87 = .ok (.iload 5, 2) := by decide +kernel
theorem dX4_digestVillage_89 : decode cX4_digestVillage 89 = .ok (.iload 6, 2) := by decide +kernel
theorem dX4_digestVillage_91 : decode cX4_digestVillage 91 = .ok (.invokevirtual 143, 3) := by decide +kernel
theorem dX4_digestVillage_94 : decode cX4_digestVillage 94 = .ok (.i2l, 1) := by decide +kernel
theorem dX4_digestVillage_95 : decode cX4_digestVillage 95 = .ok (.ladd, 1) := by decide +kernel
theorem dX4_digestVillage_96 : decode cX4_digestVillage 96 = .ok (.lstore_n 3, 1) := by decide +kernel
theorem dX4_digestVillage_97 : decode cX4_digestVillage 97 = .ok (.iinc 6 1, 3) := by decide +kernel
theorem dX4_digestVillage_100 : decode cX4_digestVillage 100 = .ok (.goto (-25), 3) := by decide +kernel
theorem dX4_digestVillage_103 : decode cX4_digestVillage 103 = .ok (.iinc 5 1, 3) := by decide +kernel
theorem dX4_digestVillage_106 : decode cX4_digestVillage 106 = .ok (.goto (-46), 3) := by decide +kernel
theorem dX4_digestVillage_109 : decode cX4_digestVillage 109 = .ok (.lload_n 3, 1) := by decide +kernel
theorem dX4_digestVillage_110 : decode cX4_digestVillage 110 = .ok (.lreturn, 1) := by decide +kernel
theorem dX4_digestKeptBooks_0 : decode cX4_digestKeptBooks 0 = .ok (.lload_n 1, 1) := by decide +kernel
theorem dX4_digestKeptBooks_1 : decode cX4_digestKeptBooks 1 = .ok (.lstore_n 3, 1) := by decide +kernel
theorem dX4_digestKeptBooks_2 : decode cX4_digestKeptBooks 2 = .ok (.iconst 0, 1) := by decide +kernel
theorem dX4_digestKeptBooks_3 : decode cX4_digestKeptBooks 3 = .ok (.istore 5, 2) := by decide +kernel
theorem dX4_digestKeptBooks_5 : decode cX4_digestKeptBooks 5 = .ok (.iload 5, 2) := by decide +kernel
theorem dX4_digestKeptBooks_7 : decode cX4_digestKeptBooks 7 = .ok (.iconst 3, 1) := by decide +kernel
theorem dX4_digestKeptBooks_8 : decode cX4_digestKeptBooks 8 = .ok (.if_icmp .ge 77, 3) := by decide +kernel
theorem dX4_digestKeptBooks_11 : decode cX4_digestKeptBooks 11 = .ok (.aload_n 0, 1) := by decide +kernel
theorem dX4_digestKeptBooks_12 : decode cX4_digestKeptBooks 12 = .ok (.getfield 36, 3) := by decide +kernel
theorem dX4_digestKeptBooks_15 : decode cX4_digestKeptBooks 15 = .ok (.getfield 293, 3) := by decide +kernel
theorem dX4_digestKeptBooks_18 : decode cX4_digestKeptBooks 18 = .ok (.iload 5, 2) := by decide +kernel
theorem dX4_digestKeptBooks_20 : decode cX4_digestKeptBooks 20 = .ok (.baload, 1) := by decide +kernel
theorem dX4_digestKeptBooks_21 : decode cX4_digestKeptBooks 21 = .ok (.ifCond .ne 16, 3) := by decide +kernel
theorem dX4_digestKeptBooks_24 : decode cX4_digestKeptBooks 24 = .ok (.ldc2_w 314, 3) := by decide +kernel
theorem dX4_digestKeptBooks_27 : decode cX4_digestKeptBooks 27 = .ok (.lload_n 3, 1) := by decide +kernel
theorem dX4_digestKeptBooks_28 : decode cX4_digestKeptBooks 28 = .ok (.lmul, 1) := by decide +kernel
theorem dX4_digestKeptBooks_29 : decode cX4_digestKeptBooks 29 = .ok (.ldc2_w 326, 3) := by decide +kernel
theorem dX4_digestKeptBooks_32 : decode cX4_digestKeptBooks 32 = .ok (.ladd, 1) := by decide +kernel
theorem dX4_digestKeptBooks_33 : decode cX4_digestKeptBooks 33 = .ok (.lstore_n 3, 1) := by decide +kernel
theorem dX4_digestKeptBooks_34 : decode cX4_digestKeptBooks 34 = .ok (.goto 45, 3) := by decide +kernel
theorem dX4_digestKeptBooks_37 : decode cX4_digestKeptBooks 37 = .ok (.iconst 0, 1) := by decide +kernel
theorem dX4_digestKeptBooks_38 : decode cX4_digestKeptBooks 38 = .ok (.istore 6, 2) := by decide +kernel
theorem dX4_digestKeptBooks_40 : decode cX4_digestKeptBooks 40 = .ok (.iload 6, 2) := by decide +kernel
theorem dX4_digestKeptBooks_42 : decode cX4_digestKeptBooks 42 = .ok (.aload_n 0, 1) := by decide +kernel
theorem dX4_digestKeptBooks_43 : decode cX4_digestKeptBooks 43 = .ok (.getfield 53, 3) := by decide +kernel
theorem dX4_digestKeptBooks_46 : decode cX4_digestKeptBooks 46 = .ok (.getfield 184, 3) := by decide +kernel
theorem dX4_digestKeptBooks_49 : decode cX4_digestKeptBooks 49 = .ok (.if_icmp .ge 30, 3) := by decide +kernel
theorem dX4_digestKeptBooks_52 : decode cX4_digestKeptBooks 52 = .ok (.ldc2_w 314, 3) := by decide +kernel
theorem dX4_digestKeptBooks_55 : decode cX4_digestKeptBooks 55 = .ok (.lload_n 3, 1) := by decide +kernel
theorem dX4_digestKeptBooks_56 : decode cX4_digestKeptBooks 56 = .ok (.lmul, 1) := by decide +kernel
theorem dX4_digestKeptBooks_57 : decode cX4_digestKeptBooks 57 = .ok (.aload_n 0, 1) := by decide +kernel
theorem dX4_digestKeptBooks_58 : decode cX4_digestKeptBooks 58 = .ok (.getfield 36, 3) := by decide +kernel
theorem dX4_digestKeptBooks_61 : decode cX4_digestKeptBooks 61 = .ok (.getfield 328, 3) := by decide +kernel
theorem dX4_digestKeptBooks_64 : decode cX4_digestKeptBooks 64 = .ok (.iload 5, 2) := by decide +kernel
theorem dX4_digestKeptBooks_66 : decode cX4_digestKeptBooks 66 = .ok (.aaload, 1) := by decide +kernel
theorem dX4_digestKeptBooks_67 : decode cX4_digestKeptBooks 67 = .ok (.iload 6, 2) := by decide +kernel
theorem dX4_digestKeptBooks_69 : decode cX4_digestKeptBooks 69 = .ok (.iaload, 1) := by decide +kernel
theorem dX4_digestKeptBooks_70 : decode cX4_digestKeptBooks 70 = .ok (.i2l, 1) := by decide +kernel
theorem dX4_digestKeptBooks_71 : decode cX4_digestKeptBooks 71 = .ok (.ladd, 1) := by decide +kernel
theorem dX4_digestKeptBooks_72 : decode cX4_digestKeptBooks 72 = .ok (.lstore_n 3, 1) := by decide +kernel
theorem dX4_digestKeptBooks_73 : decode cX4_digestKeptBooks 73 = .ok (.iinc 6 1, 3) := by decide +kernel
theorem dX4_digestKeptBooks_76 : decode cX4_digestKeptBooks 76 = .ok (.goto (-36), 3) := by decide +kernel
theorem dX4_digestKeptBooks_79 : decode cX4_digestKeptBooks 79 = .ok (.iinc 5 1, 3) := by decide +kernel
theorem dX4_digestKeptBooks_82 : decode cX4_digestKeptBooks 82 = .ok (.goto (-77), 3) := by decide +kernel
theorem dX4_digestKeptBooks_85 : decode cX4_digestKeptBooks 85 = .ok (.lload_n 3, 1) := by decide +kernel
theorem dX4_digestKeptBooks_86 : decode cX4_digestKeptBooks 86 = .ok (.lreturn, 1) := by decide +kernel
theorem dX4_find_0 : decode cX4_find 0 = .ok (.aload_n 0, 1) := by decide +kernel
theorem dX4_find_1 : decode cX4_find 1 = .ok (.iload_n 1, 1) := by decide +kernel
theorem dX4_find_2 : decode cX4_find 2 = .ok (.putfield 68, 3) := by decide +kernel
theorem dX4_find_5 : decode cX4_find 5 = .ok (.aload_n 0, 1) := by decide +kernel
theorem dX4_find_6 : decode cX4_find 6 = .ok (.getfield 47, 3) := by decide +kernel
theorem dX4_find_9 : decode cX4_find 9 = .ok (.iload_n 1, 1) := by decide +kernel
theorem dX4_find_10 : decode cX4_find 10 = .ok (.dup2, 1) := by decide +kernel
theorem dX4_find_11 : decode cX4_find 11 = .ok (.iaload, 1) := by decide +kernel
theorem dX4_find_12 : decode cX4_find 12 = .ok (.iconst 1, 1) := by decide +kernel
theorem dX4_find_13 : decode cX4_find 13 = .ok (.iadd, 1) := by decide +kernel
theorem dX4_find_14 : decode cX4_find 14 = .ok (.iastore, 1) := by decide +kernel
theorem dX4_find_15 : decode cX4_find 15 = .ok (.bipush (-3), 2) := by decide +kernel
theorem dX4_find_17 : decode cX4_find 17 = .ok (.ireturn, 1) := by decide +kernel
theorem dX4_isRow_0 : decode cX4_isRow 0 = .ok (.iload_n 0, 1) := by decide +kernel
theorem dX4_isRow_1 : decode cX4_isRow 1 = .ok (.ifCond .lt 13, 3) := by decide +kernel
theorem dX4_isRow_4 : decode cX4_isRow 4 = .ok (.iload_n 0, 1) := by decide +kernel
theorem dX4_isRow_5 : decode cX4_isRow 5 = .ok (.bipush 6, 2) := by decide +kernel
theorem dX4_isRow_7 : decode cX4_isRow 7 = .ok (.if_icmp .ge 7, 3) := by decide +kernel
theorem dX4_isRow_10 : decode cX4_isRow 10 = .ok (.iconst 1, 1) := by decide +kernel
theorem dX4_isRow_11 : decode cX4_isRow 11 = .ok (.goto 4, 3) := by decide +kernel
theorem dX4_isRow_14 : decode cX4_isRow 14 = .ok (.iconst 0, 1) := by decide +kernel
theorem dX4_isRow_15 : decode cX4_isRow 15 = .ok (.ireturn, 1) := by decide +kernel
theorem dX4_isText_0 : decode cX4_isText 0 = .ok (.iload_n 0, 1) := by decide +kernel
theorem dX4_isText_1 : decode cX4_isText 1 = .ok (.ifCond .lt 12, 3) := by decide +kernel
theorem dX4_isText_4 : decode cX4_isText 4 = .ok (.iload_n 0, 1) := by decide +kernel
theorem dX4_isText_5 : decode cX4_isText 5 = .ok (.iconst 4, 1) := by decide +kernel
theorem dX4_isText_6 : decode cX4_isText 6 = .ok (.if_icmp .ge 7, 3) := by decide +kernel
theorem dX4_isText_9 : decode cX4_isText 9 = .ok (.iconst 1, 1) := by decide +kernel
theorem dX4_isText_10 : decode cX4_isText 10 = .ok (.goto 4, 3) := by decide +kernel
theorem dX4_isText_13 : decode cX4_isText 13 = .ok (.iconst 0, 1) := by decide +kernel
theorem dX4_isText_14 : decode cX4_isText 14 = .ok (.ireturn, 1) := by decide +kernel
theorem dX4_isHour_0 : decode cX4_isHour 0 = .ok (.iload_n 0, 1) := by decide +kernel
theorem dX4_isHour_1 : decode cX4_isHour 1 = .ok (.ifCond .lt 13, 3) := by decide +kernel
theorem dX4_isHour_4 : decode cX4_isHour 4 = .ok (.iload_n 0, 1) := by decide +kernel
theorem dX4_isHour_5 : decode cX4_isHour 5 = .ok (.bipush 12, 2) := by decide +kernel
theorem dX4_isHour_7 : decode cX4_isHour 7 = .ok (.if_icmp .ge 7, 3) := by decide +kernel
theorem dX4_isHour_10 : decode cX4_isHour 10 = .ok (.iconst 1, 1) := by decide +kernel
theorem dX4_isHour_11 : decode cX4_isHour 11 = .ok (.goto 4, 3) := by decide +kernel
theorem dX4_isHour_14 : decode cX4_isHour 14 = .ok (.iconst 0, 1) := by decide +kernel
theorem dX4_isHour_15 : decode cX4_isHour 15 = .ok (.ireturn, 1) := by decide +kernel
theorem dX4_isKeepingPlace_0 : decode cX4_isKeepingPlace 0 = .ok (.iload_n 0, 1) := by decide +kernel
theorem dX4_isKeepingPlace_1 : decode cX4_isKeepingPlace 1 = .ok (.ifCond .lt 12, 3) := by decide +kernel
theorem dX4_isKeepingPlace_4 : decode cX4_isKeepingPlace 4 = .ok (.iload_n 0, 1) := by decide +kernel
theorem dX4_isKeepingPlace_5 : decode cX4_isKeepingPlace 5 = .ok (.iconst 3, 1) := by decide +kernel
theorem dX4_isKeepingPlace_6 : decode cX4_isKeepingPlace 6 = .ok (.if_icmp .ge 7, 3) := by decide +kernel
theorem dX4_isKeepingPlace_9 : decode cX4_isKeepingPlace 9 = .ok (.iconst 1, 1) := by decide +kernel
theorem dX4_isKeepingPlace_10 : decode cX4_isKeepingPlace 10 = .ok (.goto 4, 3) := by decide +kernel
theorem dX4_isKeepingPlace_13 : decode cX4_isKeepingPlace 13 = .ok (.iconst 0, 1) := by decide +kernel
theorem dX4_isKeepingPlace_14 : decode cX4_isKeepingPlace 14 = .ok (.ireturn, 1) := by decide +kernel
theorem dX4_hasPlaces_0 : decode cX4_hasPlaces 0 = .ok (.iload_n 1, 1) := by decide +kernel
theorem dX4_hasPlaces_1 : decode cX4_hasPlaces 1 = .ok (.ifCond .lt 19, 3) := by decide +kernel
theorem dX4_hasPlaces_4 : decode cX4_hasPlaces 4 = .ok (.iload_n 1, 1) := by decide +kernel
theorem dX4_hasPlaces_5 : decode cX4_hasPlaces 5 = .ok (.iload_n 0, 1) := by decide +kernel
theorem dX4_hasPlaces_6 : decode cX4_hasPlaces 6 = .ok (.if_icmp .gt 14, 3) := by decide +kernel
theorem dX4_hasPlaces_9 : decode cX4_hasPlaces 9 = .ok (.iload_n 2, 1) := by decide +kernel
theorem dX4_hasPlaces_10 : decode cX4_hasPlaces 10 = .ok (.iload_n 0, 1) := by decide +kernel
theorem dX4_hasPlaces_11 : decode cX4_hasPlaces 11 = .ok (.iload_n 1, 1) := by decide +kernel
theorem dX4_hasPlaces_12 : decode cX4_hasPlaces 12 = .ok (.isub, 1) := by decide +kernel
theorem dX4_hasPlaces_13 : decode cX4_hasPlaces 13 = .ok (.if_icmp .gt 7, 3) := by decide +kernel
theorem dX4_hasPlaces_16 : decode cX4_hasPlaces 16 = .ok (.iconst 1, 1) := by decide +kernel
theorem dX4_hasPlaces_17 : decode cX4_hasPlaces 17 = .ok (.goto 4, 3) := by decide +kernel
theorem dX4_hasPlaces_20 : decode cX4_hasPlaces 20 = .ok (.iconst 0, 1) := by decide +kernel
theorem dX4_hasPlaces_21 : decode cX4_hasPlaces 21 = .ok (.ireturn, 1) := by decide +kernel
theorem dX4_howManyThere_0 : decode cX4_howManyThere 0 = .ok (.iconst 0, 1) := by decide +kernel
theorem dX4_howManyThere_1 : decode cX4_howManyThere 1 = .ok (.istore_n 1, 1) := by decide +kernel
theorem dX4_howManyThere_2 : decode cX4_howManyThere 2 = .ok (.aload_n 0, 1) := by decide +kernel
theorem dX4_howManyThere_3 : decode cX4_howManyThere 3 = .ok (.astore_n 2, 1) := by decide +kernel
theorem dX4_howManyThere_4 : decode cX4_howManyThere 4 = .ok (.aload_n 2, 1) := by decide +kernel
theorem dX4_howManyThere_5 : decode cX4_howManyThere 5 = .ok (.arraylength, 1) := by decide +kernel
theorem dX4_howManyThere_6 : decode cX4_howManyThere 6 = .ok (.istore_n 3, 1) := by decide +kernel
theorem dX4_howManyThere_7 : decode cX4_howManyThere 7 = .ok (.iconst 0, 1) := by decide +kernel
theorem dX4_howManyThere_8 : decode cX4_howManyThere 8 = .ok (.istore 4, 2) := by decide +kernel
theorem dX4_howManyThere_10 : decode cX4_howManyThere 10 = .ok (.iload 4, 2) := by decide +kernel
theorem dX4_howManyThere_12 : decode cX4_howManyThere 12 = .ok (.iload_n 3, 1) := by decide +kernel
theorem dX4_howManyThere_13 : decode cX4_howManyThere 13 = .ok (.if_icmp .ge 24, 3) := by decide +kernel
theorem dX4_howManyThere_16 : decode cX4_howManyThere 16 = .ok (.aload_n 2, 1) := by decide +kernel
theorem dX4_howManyThere_17 : decode cX4_howManyThere 17 = .ok (.iload 4, 2) := by decide +kernel
theorem dX4_howManyThere_19 : decode cX4_howManyThere 19 = .ok (.iaload, 1) := by decide +kernel
theorem dX4_howManyThere_20 : decode cX4_howManyThere 20 = .ok (.istore 5, 2) := by decide +kernel
theorem dX4_howManyThere_22 : decode cX4_howManyThere 22 = .ok (.iload 5, 2) := by decide +kernel
theorem dX4_howManyThere_24 : decode cX4_howManyThere 24 = .ok (.iconst (-1), 1) := by decide +kernel
theorem dX4_howManyThere_25 : decode cX4_howManyThere 25 = .ok (.if_icmp .eq 6, 3) := by decide +kernel
theorem dX4_howManyThere_28 : decode cX4_howManyThere 28 = .ok (.iinc 1 1, 3) := by decide +kernel
theorem dX4_howManyThere_31 : decode cX4_howManyThere 31 = .ok (.iinc 4 1, 3) := by decide +kernel
theorem dX4_howManyThere_34 : decode cX4_howManyThere 34 = .ok (.goto (-24), 3) := by decide +kernel
theorem dX4_howManyThere_37 : decode cX4_howManyThere 37 = .ok (.iload_n 1, 1) := by decide +kernel
theorem dX4_howManyThere_38 : decode cX4_howManyThere 38 = .ok (.ireturn, 1) := by decide +kernel
set_option maxRecDepth 20000 in
theorem ggX4_layOutRow_J7_fill_53178 : GoodIn wsX4_layOutRow wsJ7_fill_53178 := goodIn_r _ [6] (by decide +kernel) (by decide +kernel)
set_option maxRecDepth 20000 in
theorem gX4_layOutRow_J7_fill_53178 : GoodIn wsX4_layOutRow (va_wsS RX4 71 yJ7_fill_53178 wsJ7_fill_53178) := goodIn_app (goodIn_of _ (by decide +kernel)) ggX4_layOutRow_J7_fill_53178
theorem dX4_layOutRow_0 : decode cX4_layOutRow 0 = .ok (.aload_n 0, 1) := by decide +kernel
theorem dX4_layOutRow_1 : decode cX4_layOutRow 1 = .ok (.getfield 11, 3) := by decide +kernel
theorem dX4_layOutRow_4 : decode cX4_layOutRow 4 = .ok (.iload_n 1, 1) := by decide +kernel
theorem dX4_layOutRow_5 : decode cX4_layOutRow 5 = .ok (.aaload, 1) := by decide +kernel
theorem dX4_layOutRow_6 : decode cX4_layOutRow 6 = .ok (.iload_n 3, 1) := by decide +kernel
theorem dX4_layOutRow_7 : decode cX4_layOutRow 7 = .ok (.invokestatic 71, 3) := by decide +kernel
theorem dX4_layOutRow_10 : decode cX4_layOutRow 10 = .ok (.aload_n 0, 1) := by decide +kernel
theorem dX4_layOutRow_11 : decode cX4_layOutRow 11 = .ok (.getfield 14, 3) := by decide +kernel
theorem dX4_layOutRow_14 : decode cX4_layOutRow 14 = .ok (.iload_n 1, 1) := by decide +kernel
theorem dX4_layOutRow_15 : decode cX4_layOutRow 15 = .ok (.iload_n 2, 1) := by decide +kernel
theorem dX4_layOutRow_16 : decode cX4_layOutRow 16 = .ok (.iastore, 1) := by decide +kernel
theorem dX4_layOutRow_17 : decode cX4_layOutRow 17 = .ok (.return_, 1) := by decide +kernel
set_option maxRecDepth 20000 in
theorem ggX4_refusePlace_X4_isRow : GoodIn wsX4_refusePlace wsX4_isRow := goodIn_r _ [5] (by decide +kernel) (by decide +kernel)
set_option maxRecDepth 20000 in
theorem gX4_refusePlace_X4_isRow : GoodIn wsX4_refusePlace (va_wsS RX4 77 yX4_isRow wsX4_isRow) := goodIn_app (goodIn_of _ (by decide +kernel)) ggX4_refusePlace_X4_isRow
set_option maxRecDepth 20000 in
theorem ggX4_refusePlace_X4_find : GoodIn wsX4_refusePlace wsX4_find := goodIn_r _ [9, 10, 11, 15, 16, 17, 18, 19, 20, 21, 22, 23, 24, 25, 26, 27] (by decide +kernel) (by decide +kernel)
set_option maxRecDepth 20000 in
theorem gX4_refusePlace_X4_find : GoodIn wsX4_refusePlace (wsV RX4 81 RX4 yX4_find wsX4_find) := goodIn_app (goodIn_of _ (by decide +kernel)) ggX4_refusePlace_X4_find
set_option maxRecDepth 20000 in
theorem ggX4_refusePlace_X4_hasPlaces : GoodIn wsX4_refusePlace wsX4_hasPlaces := goodIn_r _ [14] (by decide +kernel) (by decide +kernel)
set_option maxRecDepth 20000 in
theorem gX4_refusePlace_X4_hasPlaces : GoodIn wsX4_refusePlace (va_wsS RX4 93 yX4_hasPlaces wsX4_hasPlaces) := goodIn_app (goodIn_of _ (by decide +kernel)) ggX4_refusePlace_X4_hasPlaces
theorem dX4_refusePlace_0 : decode cX4_refusePlace 0 = .ok (.iload_n 1, 1) := by decide +kernel
theorem dX4_refusePlace_1 : decode cX4_refusePlace 1 = .ok (.invokestatic 77, 3) := by decide +kernel
theorem dX4_refusePlace_4 : decode cX4_refusePlace 4 = .ok (.ifCond .ne 5, 3) := by decide +kernel
theorem dX4_refusePlace_7 : decode cX4_refusePlace 7 = .ok (.iconst (-1), 1) := by decide +kernel
theorem dX4_refusePlace_8 : decode cX4_refusePlace 8 = .ok (.ireturn, 1) := by decide +kernel
theorem dX4_refusePlace_9 : decode cX4_refusePlace 9 = .ok (.aload_n 0, 1) := by decide +kernel
theorem dX4_refusePlace_10 : decode cX4_refusePlace 10 = .ok (.getfield 14, 3) := by decide +kernel
theorem dX4_refusePlace_13 : decode cX4_refusePlace 13 = .ok (.iload_n 1, 1) := by decide +kernel
theorem dX4_refusePlace_14 : decode cX4_refusePlace 14 = .ok (.iaload, 1) := by decide +kernel
theorem dX4_refusePlace_15 : decode cX4_refusePlace 15 = .ok (.iconst (-1), 1) := by decide +kernel
theorem dX4_refusePlace_16 : decode cX4_refusePlace 16 = .ok (.if_icmp .ne 9, 3) := by decide +kernel
theorem dX4_refusePlace_19 : decode cX4_refusePlace 19 = .ok (.aload_n 0, 1) := by decide +kernel
theorem dX4_refusePlace_20 : decode cX4_refusePlace 20 = .ok (.iconst 1, 1) := by decide +kernel
theorem dX4_refusePlace_21 : decode cX4_refusePlace 21 = .ok (.invokevirtual 81, 3) := by decide +kernel
theorem dX4_refusePlace_24 : decode cX4_refusePlace 24 = .ok (.ireturn, 1) := by decide +kernel
theorem dX4_refusePlace_25 : decode cX4_refusePlace 25 = .ok (.aload_n 0, 1) := by decide +kernel
theorem dX4_refusePlace_26 : decode cX4_refusePlace 26 = .ok (.getfield 14, 3) := by decide +kernel
theorem dX4_refusePlace_29 : decode cX4_refusePlace 29 = .ok (.iload_n 1, 1) := by decide +kernel
theorem dX4_refusePlace_30 : decode cX4_refusePlace 30 = .ok (.iaload, 1) := by decide +kernel
theorem dX4_refusePlace_31 : decode cX4_refusePlace 31 = .ok (.iload_n 2, 1) := by decide +kernel
theorem dX4_refusePlace_32 : decode cX4_refusePlace 32 = .ok (.iconst 1, 1) := by decide +kernel
theorem dX4_refusePlace_33 : decode cX4_refusePlace 33 = .ok (.invokestatic 93, 3) := by decide +kernel
theorem dX4_refusePlace_36 : decode cX4_refusePlace 36 = .ok (.ifCond .eq 7, 3) := by decide +kernel
theorem dX4_refusePlace_39 : decode cX4_refusePlace 39 = .ok (.iconst 0, 1) := by decide +kernel
theorem dX4_refusePlace_40 : decode cX4_refusePlace 40 = .ok (.goto 8, 3) := by decide +kernel
theorem dX4_refusePlace_43 : decode cX4_refusePlace 43 = .ok (.aload_n 0, 1) := by decide +kernel
theorem dX4_refusePlace_44 : decode cX4_refusePlace 44 = .ok (.iconst 2, 1) := by decide +kernel
theorem dX4_refusePlace_45 : decode cX4_refusePlace 45 = .ok (.invokevirtual 81, 3) := by decide +kernel
theorem dX4_refusePlace_48 : decode cX4_refusePlace 48 = .ok (.ireturn, 1) := by decide +kernel
set_option maxRecDepth 20000 in
theorem ggX4_refuseRound_X4_isRow : GoodIn wsX4_refuseRound wsX4_isRow := goodIn_r _ [8] (by decide +kernel) (by decide +kernel)
set_option maxRecDepth 20000 in
theorem gX4_refuseRound_X4_isRow : GoodIn wsX4_refuseRound (va_wsS RX4 77 yX4_isRow wsX4_isRow) := goodIn_app (goodIn_of _ (by decide +kernel)) ggX4_refuseRound_X4_isRow
set_option maxRecDepth 20000 in
theorem ggX4_refuseRound_X4_find : GoodIn wsX4_refuseRound wsX4_find := goodIn_r _ [12, 13, 14, 18, 19, 20, 21, 22, 23, 24, 25, 26, 27, 28, 29, 30] (by decide +kernel) (by decide +kernel)
set_option maxRecDepth 20000 in
theorem gX4_refuseRound_X4_find : GoodIn wsX4_refuseRound (wsV RX4 81 RX4 yX4_find wsX4_find) := goodIn_app (goodIn_of _ (by decide +kernel)) ggX4_refuseRound_X4_find
set_option maxRecDepth 20000 in
theorem ggX4_refuseRound_X4_isHour : GoodIn wsX4_refuseRound wsX4_isHour := goodIn_r _ [17] (by decide +kernel) (by decide +kernel)
set_option maxRecDepth 20000 in
theorem gX4_refuseRound_X4_isHour : GoodIn wsX4_refuseRound (va_wsS RX4 152 yX4_isHour wsX4_isHour) := goodIn_app (goodIn_of _ (by decide +kernel)) ggX4_refuseRound_X4_isHour
theorem dX4_refuseRound_0 : decode cX4_refuseRound 0 = .ok (.iload_n 1, 1) := by decide +kernel
theorem dX4_refuseRound_1 : decode cX4_refuseRound 1 = .ok (.invokestatic 77, 3) := by decide +kernel
theorem dX4_refuseRound_4 : decode cX4_refuseRound 4 = .ok (.ifCond .ne 5, 3) := by decide +kernel
theorem dX4_refuseRound_7 : decode cX4_refuseRound 7 = .ok (.iconst (-1), 1) := by decide +kernel
theorem dX4_refuseRound_8 : decode cX4_refuseRound 8 = .ok (.ireturn, 1) := by decide +kernel
theorem dX4_refuseRound_9 : decode cX4_refuseRound 9 = .ok (.aload_n 0, 1) := by decide +kernel
theorem dX4_refuseRound_10 : decode cX4_refuseRound 10 = .ok (.getfield 14, 3) := by decide +kernel
theorem dX4_refuseRound_13 : decode cX4_refuseRound 13 = .ok (.iload_n 1, 1) := by decide +kernel
theorem dX4_refuseRound_14 : decode cX4_refuseRound 14 = .ok (.iaload, 1) := by decide +kernel
theorem dX4_refuseRound_15 : decode cX4_refuseRound 15 = .ok (.iconst (-1), 1) := by decide +kernel
theorem dX4_refuseRound_16 : decode cX4_refuseRound 16 = .ok (.if_icmp .ne 9, 3) := by decide +kernel
theorem dX4_refuseRound_19 : decode cX4_refuseRound 19 = .ok (.aload_n 0, 1) := by decide +kernel
theorem dX4_refuseRound_20 : decode cX4_refuseRound 20 = .ok (.iconst 1, 1) := by decide +kernel
theorem dX4_refuseRound_21 : decode cX4_refuseRound 21 = .ok (.invokevirtual 81, 3) := by decide +kernel
theorem dX4_refuseRound_24 : decode cX4_refuseRound 24 = .ok (.ireturn, 1) := by decide +kernel
theorem dX4_refuseRound_25 : decode cX4_refuseRound 25 = .ok (.aload_n 0, 1) := by decide +kernel
theorem dX4_refuseRound_26 : decode cX4_refuseRound 26 = .ok (.getfield 14, 3) := by decide +kernel
theorem dX4_refuseRound_29 : decode cX4_refuseRound 29 = .ok (.iload_n 1, 1) := by decide +kernel
theorem dX4_refuseRound_30 : decode cX4_refuseRound 30 = .ok (.iaload, 1) := by decide +kernel
theorem dX4_refuseRound_31 : decode cX4_refuseRound 31 = .ok (.aload_n 0, 1) := by decide +kernel
theorem dX4_refuseRound_32 : decode cX4_refuseRound 32 = .ok (.getfield 53, 3) := by decide +kernel
theorem dX4_refuseRound_35 : decode cX4_refuseRound 35 = .ok (.getfield 184, 3) := by decide +kernel
theorem dX4_refuseRound_38 : decode cX4_refuseRound 38 = .ok (.if_icmp .eq 9, 3) := by decide +kernel
theorem dX4_refuseRound_41 : decode cX4_refuseRound 41 = .ok (.aload_n 0, 1) := by decide +kernel
theorem dX4_refuseRound_42 : decode cX4_refuseRound 42 = .ok (.iconst 5, 1) := by decide +kernel
theorem dX4_refuseRound_43 : decode cX4_refuseRound 43 = .ok (.invokevirtual 81, 3) := by decide +kernel
theorem dX4_refuseRound_46 : decode cX4_refuseRound 46 = .ok (.ireturn, 1) := by decide +kernel
theorem dX4_refuseRound_47 : decode cX4_refuseRound 47 = .ok (.iconst 0, 1) := by decide +kernel
theorem dX4_refuseRound_48 : decode cX4_refuseRound 48 = .ok (.istore_n 2, 1) := by decide +kernel
theorem dX4_refuseRound_49 : decode cX4_refuseRound 49 = .ok (.iload_n 2, 1) := by decide +kernel
theorem dX4_refuseRound_50 : decode cX4_refuseRound 50 = .ok (.aload_n 0, 1) := by decide +kernel
theorem dX4_refuseRound_51 : decode cX4_refuseRound 51 = .ok (.getfield 53, 3) := by decide +kernel
theorem dX4_refuseRound_54 : decode cX4_refuseRound 54 = .ok (.getfield 184, 3) := by decide +kernel
theorem dX4_refuseRound_57 : decode cX4_refuseRound 57 = .ok (.if_icmp .ge 42, 3) := by decide +kernel
theorem dX4_refuseRound_60 : decode cX4_refuseRound 60 = .ok (.aload_n 0, 1) := by decide +kernel
theorem dX4_refuseRound_61 : decode cX4_refuseRound 61 = .ok (.getfield 11, 3) := by decide +kernel
theorem dX4_refuseRound_64 : decode cX4_refuseRound 64 = .ok (.iload_n 1, 1) := by decide +kernel
theorem dX4_refuseRound_65 : decode cX4_refuseRound 65 = .ok (.aaload, 1) := by decide +kernel
theorem dX4_refuseRound_66 : decode cX4_refuseRound 66 = .ok (.iload_n 2, 1) := by decide +kernel
theorem dX4_refuseRound_67 : decode cX4_refuseRound 67 = .ok (.iaload, 1) := by decide +kernel
theorem dX4_refuseRound_68 : decode cX4_refuseRound 68 = .ok (.invokestatic 152, 3) := by decide +kernel
theorem dX4_refuseRound_71 : decode cX4_refuseRound 71 = .ok (.ifCond .ne 22, 3) := by decide +kernel
theorem dX4_refuseRound_74 : decode cX4_refuseRound 74 = .ok (.aload_n 0, 1) := by decide +kernel
theorem dX4_refuseRound_75 : decode cX4_refuseRound 75 = .ok (.getfield 11, 3) := by decide +kernel
theorem dX4_refuseRound_78 : decode cX4_refuseRound 78 = .ok (.iload_n 1, 1) := by decide +kernel
theorem dX4_refuseRound_79 : decode cX4_refuseRound 79 = .ok (.aaload, 1) := by decide +kernel
theorem dX4_refuseRound_80 : decode cX4_refuseRound 80 = .ok (.iload_n 2, 1) := by decide +kernel
theorem dX4_refuseRound_81 : decode cX4_refuseRound 81 = .ok (.iaload, 1) := by decide +kernel
theorem dX4_refuseRound_82 : decode cX4_refuseRound 82 = .ok (.bipush (-9), 2) := by decide +kernel
theorem dX4_refuseRound_84 : decode cX4_refuseRound 84 = .ok (.if_icmp .eq 9, 3) := by decide +kernel
theorem dX4_refuseRound_87 : decode cX4_refuseRound 87 = .ok (.aload_n 0, 1) := by decide +kernel
theorem dX4_refuseRound_88 : decode cX4_refuseRound 88 = .ok (.iconst 3, 1) := by decide +kernel
theorem dX4_refuseRound_89 : decode cX4_refuseRound 89 = .ok (.invokevirtual 81, 3) := by decide +kernel
theorem dX4_refuseRound_92 : decode cX4_refuseRound 92 = .ok (.ireturn, 1) := by decide +kernel
theorem dX4_refuseRound_93 : decode cX4_refuseRound 93 = .ok (.iinc 2 1, 3) := by decide +kernel
theorem dX4_refuseRound_96 : decode cX4_refuseRound 96 = .ok (.goto (-47), 3) := by decide +kernel
theorem dX4_refuseRound_99 : decode cX4_refuseRound 99 = .ok (.iconst 0, 1) := by decide +kernel
theorem dX4_refuseRound_100 : decode cX4_refuseRound 100 = .ok (.ireturn, 1) := by decide +kernel
set_option maxRecDepth 20000 in
theorem ggX4_firstAmiss_X4_whatIsAmiss : GoodIn wsX4_firstAmiss wsX4_whatIsAmiss := goodIn_r _ [7, 1, 8, 9, 10, 11, 12, 13, 14, 15, 16, 17, 18, 19, 20, 21, 22, 23, 24, 25, 26, 27, 28, 29, 30, 31, 32, 33, 34, 35, 36, 37, 38, 39, 40, 41, 42, 43, 44, 45, 46, 47, 48, 49, 50, 51, 52, 53, 54, 55, 56, 57, 58, 59, 60, 61, 62, 63, 64] (by decide +kernel) (by decide +kernel)
set_option maxRecDepth 20000 in
theorem gX4_firstAmiss_X4_whatIsAmiss : GoodIn wsX4_firstAmiss (wsV RX4 180 RX4 yX4_whatIsAmiss wsX4_whatIsAmiss) := goodIn_app (goodIn_of _ (by decide +kernel)) ggX4_firstAmiss_X4_whatIsAmiss
theorem dX4_firstAmiss_0 : decode cX4_firstAmiss 0 = .ok (.iconst 0, 1) := by decide +kernel
theorem dX4_firstAmiss_1 : decode cX4_firstAmiss 1 = .ok (.istore_n 2, 1) := by decide +kernel
theorem dX4_firstAmiss_2 : decode cX4_firstAmiss 2 = .ok (.iload_n 2, 1) := by decide +kernel
theorem dX4_firstAmiss_3 : decode cX4_firstAmiss 3 = .ok (.aload_n 0, 1) := by decide +kernel
theorem dX4_firstAmiss_4 : decode cX4_firstAmiss 4 = .ok (.getfield 53, 3) := by decide +kernel
theorem dX4_firstAmiss_7 : decode cX4_firstAmiss 7 = .ok (.getfield 184, 3) := by decide +kernel
theorem dX4_firstAmiss_10 : decode cX4_firstAmiss 10 = .ok (.if_icmp .ge 20, 3) := by decide +kernel
theorem dX4_firstAmiss_13 : decode cX4_firstAmiss 13 = .ok (.aload_n 0, 1) := by decide +kernel
theorem dX4_firstAmiss_14 : decode cX4_firstAmiss 14 = .ok (.aload_n 1, 1) := by decide +kernel
theorem dX4_firstAmiss_15 : decode cX4_firstAmiss 15 = .ok (.iload_n 2, 1) := by decide +kernel
theorem dX4_firstAmiss_16 : decode cX4_firstAmiss 16 = .ok (.invokevirtual 180, 3) := by decide +kernel
theorem dX4_firstAmiss_19 : decode cX4_firstAmiss 19 = .ok (.ifCond .eq 5, 3) := by decide +kernel
theorem dX4_firstAmiss_22 : decode cX4_firstAmiss 22 = .ok (.iload_n 2, 1) := by decide +kernel
theorem dX4_firstAmiss_23 : decode cX4_firstAmiss 23 = .ok (.ireturn, 1) := by decide +kernel
theorem dX4_firstAmiss_24 : decode cX4_firstAmiss 24 = .ok (.iinc 2 1, 3) := by decide +kernel
theorem dX4_firstAmiss_27 : decode cX4_firstAmiss 27 = .ok (.goto (-25), 3) := by decide +kernel
theorem dX4_firstAmiss_30 : decode cX4_firstAmiss 30 = .ok (.bipush (-9), 2) := by decide +kernel
theorem dX4_firstAmiss_32 : decode cX4_firstAmiss 32 = .ok (.ireturn, 1) := by decide +kernel
set_option maxRecDepth 20000 in
theorem ggX4_whatIsAmiss_X3_peopleOut : GoodIn wsX4_whatIsAmiss wsX3_peopleOut := goodIn_r _ [8, 9, 10, 48, 49, 50, 51, 52, 53, 54, 55, 56, 57, 58] (by decide +kernel) (by decide +kernel)
set_option maxRecDepth 20000 in
theorem gX4_whatIsAmiss_X3_peopleOut : GoodIn wsX4_whatIsAmiss (wsV RX4 164 RX3 yX3_peopleOut wsX3_peopleOut) := goodIn_app (goodIn_of _ (by decide +kernel)) ggX4_whatIsAmiss_X3_peopleOut
set_option maxRecDepth 20000 in
theorem ggX4_whatIsAmiss_X3_isPayable : GoodIn wsX4_whatIsAmiss wsX3_isPayable := goodIn_r _ [14, 15, 16, 17, 18, 7, 19, 20, 21, 22, 23, 24, 25, 26, 27, 28, 29, 30, 31, 32, 33, 34, 48, 49, 50, 51, 52, 53, 54, 55, 56, 57, 58] (by decide +kernel) (by decide +kernel)
set_option maxRecDepth 20000 in
theorem gX4_whatIsAmiss_X3_isPayable : GoodIn wsX4_whatIsAmiss (wsV RX4 274 RX3 yX3_isPayable wsX3_isPayable) := goodIn_app (goodIn_of _ (by decide +kernel)) ggX4_whatIsAmiss_X3_isPayable
theorem dX4_whatIsAmiss_0 : decode cX4_whatIsAmiss 0 = .ok (.aload_n 1, 1) := by decide +kernel
theorem dX4_whatIsAmiss_1 : decode cX4_whatIsAmiss 1 = .ok (.iload_n 2, 1) := by decide +kernel
theorem dX4_whatIsAmiss_2 : decode cX4_whatIsAmiss 2 = .ok (.iaload, 1) := by decide +kernel
theorem dX4_whatIsAmiss_3 : decode cX4_whatIsAmiss 3 = .ok (.istore_n 3, 1) := by decide +kernel
theorem dX4_whatIsAmiss_4 : decode cX4_whatIsAmiss 4 = .ok (.iload_n 3, 1) := by decide +kernel
theorem dX4_whatIsAmiss_5 : decode cX4_whatIsAmiss 5 = .ok (.bipush (-9), 2) := by decide +kernel
theorem dX4_whatIsAmiss_7 : decode cX4_whatIsAmiss 7 = .ok (.if_icmp .ne 5, 3) := by decide +kernel
theorem dX4_whatIsAmiss_10 : decode cX4_whatIsAmiss 10 = .ok (.iconst 0, 1) := by decide +kernel
theorem dX4_whatIsAmiss_11 : decode cX4_whatIsAmiss 11 = .ok (.ireturn, 1) := by decide +kernel
theorem dX4_whatIsAmiss_12 : decode cX4_whatIsAmiss 12 = .ok (.aload_n 0, 1) := by decide +kernel
theorem dX4_whatIsAmiss_13 : decode cX4_whatIsAmiss 13 = .ok (.getfield 53, 3) := by decide +kernel
theorem dX4_whatIsAmiss_16 : decode cX4_whatIsAmiss 16 = .ok (.iload_n 2, 1) := by decide +kernel
theorem dX4_whatIsAmiss_17 : decode cX4_whatIsAmiss 17 = .ok (.iload_n 3, 1) := by decide +kernel
theorem dX4_whatIsAmiss_18 : decode cX4_whatIsAmiss 18 = .ok (.aload_n 0, 1) := by decide +kernel
theorem dX4_whatIsAmiss_19 : decode cX4_whatIsAmiss 19 = .ok (.getfield 53, 3) := by decide +kernel
theorem dX4_whatIsAmiss_22 : decode cX4_whatIsAmiss 22 = .ok (.iload_n 3, 1) := by decide +kernel
theorem dX4_whatIsAmiss_23 : decode cX4_whatIsAmiss 23 = .ok (.invokevirtual 164, 3) := by decide +kernel
theorem dX4_whatIsAmiss_26 : decode cX4_whatIsAmiss 26 = .ok (.invokevirtual 274, 3) := by decide +kernel
theorem dX4_whatIsAmiss_29 : decode cX4_whatIsAmiss 29 = .ok (.ifCond .ne 5, 3) := by decide +kernel
theorem dX4_whatIsAmiss_32 : decode cX4_whatIsAmiss 32 = .ok (.iconst 1, 1) := by decide +kernel
theorem dX4_whatIsAmiss_33 : decode cX4_whatIsAmiss 33 = .ok (.ireturn, 1) := by decide +kernel
theorem dX4_whatIsAmiss_34 : decode cX4_whatIsAmiss 34 = .ok (.iconst 0, 1) := by decide +kernel
theorem dX4_whatIsAmiss_35 : decode cX4_whatIsAmiss 35 = .ok (.istore 4, 2) := by decide +kernel
theorem dX4_whatIsAmiss_37 : decode cX4_whatIsAmiss 37 = .ok (.iconst 0, 1) := by decide +kernel
theorem dX4_whatIsAmiss_38 : decode cX4_whatIsAmiss 38 = .ok (.istore 5, 2) := by decide +kernel
theorem dX4_whatIsAmiss_40 : decode cX4_whatIsAmiss 40 = .ok (.iload 5, 2) := by decide +kernel
theorem dX4_whatIsAmiss_42 : decode cX4_whatIsAmiss 42 = .ok (.iload_n 2, 1) := by decide +kernel
theorem dX4_whatIsAmiss_43 : decode cX4_whatIsAmiss 43 = .ok (.if_icmp .ge 66, 3) := by decide +kernel
theorem dX4_whatIsAmiss_46 : decode cX4_whatIsAmiss 46 = .ok (.aload_n 1, 1) := by decide +kernel
theorem dX4_whatIsAmiss_47 : decode cX4_whatIsAmiss 47 = .ok (.iload 5, 2) := by decide +kernel
theorem dX4_whatIsAmiss_49 : decode cX4_whatIsAmiss 49 = .ok (.iaload, 1) := by decide +kernel
theorem dX4_whatIsAmiss_50 : decode cX4_whatIsAmiss 50 = .ok (.iload_n 3, 1) := by decide +kernel
theorem dX4_whatIsAmiss_51 : decode cX4_whatIsAmiss 51 = .ok (.if_icmp .ne 52, 3) := by decide +kernel
theorem dX4_whatIsAmiss_54 : decode cX4_whatIsAmiss 54 = .ok (.aload_n 0, 1) := by decide +kernel
theorem dX4_whatIsAmiss_55 : decode cX4_whatIsAmiss 55 = .ok (.getfield 53, 3) := by decide +kernel
theorem dX4_whatIsAmiss_58 : decode cX4_whatIsAmiss 58 = .ok (.getfield 268, 3) := by decide +kernel
theorem dX4_whatIsAmiss_61 : decode cX4_whatIsAmiss 61 = .ok (.iload 5, 2) := by decide +kernel
theorem dX4_whatIsAmiss_63 : decode cX4_whatIsAmiss 63 = .ok (.iaload, 1) := by decide +kernel
theorem dX4_whatIsAmiss_64 : decode cX4_whatIsAmiss 64 = .ok (.aload_n 0, 1) := by decide +kernel
theorem dX4_whatIsAmiss_65 : decode cX4_whatIsAmiss 65 = .ok (.getfield 53, 3) := by decide +kernel
theorem dX4_whatIsAmiss_68 : decode cX4_whatIsAmiss 68 = .ok (.getfield 268, 3) := by decide +kernel
theorem dX4_whatIsAmiss_71 : decode cX4_whatIsAmiss 71 = .ok (.iload_n 2, 1) := by decide +kernel
theorem dX4_whatIsAmiss_72 : decode cX4_whatIsAmiss 72 = .ok (.iaload, 1) := by decide +kernel
theorem dX4_whatIsAmiss_73 : decode cX4_whatIsAmiss 73 = .ok (.if_icmp .ne 5, 3) := by decide +kernel
theorem dX4_whatIsAmiss_76 : decode cX4_whatIsAmiss 76 = .ok (.iconst 2, 1) := by decide +kernel
theorem dX4_whatIsAmiss_77 : decode cX4_whatIsAmiss 77 = .ok (.ireturn, 1) := by decide +kernel
theorem dX4_whatIsAmiss_78 : decode cX4_whatIsAmiss 78 = .ok (.aload_n 0, 1) := by decide +kernel
theorem dX4_whatIsAmiss_79 : decode cX4_whatIsAmiss 79 = .ok (.getfield 53, 3) := by decide +kernel
theorem dX4_whatIsAmiss_82 : decode cX4_whatIsAmiss 82 = .ok (.getfield 331, 3) := by decide +kernel
theorem dX4_whatIsAmiss_85 : decode cX4_whatIsAmiss 85 = .ok (.iload 5, 2) := by decide +kernel
theorem dX4_whatIsAmiss_87 : decode cX4_whatIsAmiss 87 = .ok (.iaload, 1) := by decide +kernel
theorem dX4_whatIsAmiss_88 : decode cX4_whatIsAmiss 88 = .ok (.aload_n 0, 1) := by decide +kernel
theorem dX4_whatIsAmiss_89 : decode cX4_whatIsAmiss 89 = .ok (.getfield 53, 3) := by decide +kernel
theorem dX4_whatIsAmiss_92 : decode cX4_whatIsAmiss 92 = .ok (.getfield 331, 3) := by decide +kernel
theorem dX4_whatIsAmiss_95 : decode cX4_whatIsAmiss 95 = .ok (.iload_n 2, 1) := by decide +kernel
theorem dX4_whatIsAmiss_96 : decode cX4_whatIsAmiss 96 = .ok (.iaload, 1) := by decide +kernel
theorem dX4_whatIsAmiss_97 : decode cX4_whatIsAmiss 97 = .ok (.if_icmp .ne 6, 3) := by decide +kernel
theorem dX4_whatIsAmiss_100 : decode cX4_whatIsAmiss 100 = .ok (.iconst 1, 1) := by decide +kernel
theorem dX4_whatIsAmiss_101 : decode cX4_whatIsAmiss 101 = .ok (.istore 4, 2) := by decide +kernel
theorem dX4_whatIsAmiss_103 : decode cX4_whatIsAmiss 103 = .ok (.iinc 5 1, 3) := by decide +kernel
theorem dX4_whatIsAmiss_106 : decode cX4_whatIsAmiss 106 = .ok (.goto (-66), 3) := by decide +kernel
theorem dX4_whatIsAmiss_109 : decode cX4_whatIsAmiss 109 = .ok (.iload 4, 2) := by decide +kernel
theorem dX4_whatIsAmiss_111 : decode cX4_whatIsAmiss 111 = .ok (.ifCond .eq 7, 3) := by decide +kernel
theorem dX4_whatIsAmiss_114 : decode cX4_whatIsAmiss 114 = .ok (.iconst 3, 1) := by decide +kernel
theorem dX4_whatIsAmiss_115 : decode cX4_whatIsAmiss 115 = .ok (.goto 4, 3) := by decide +kernel
theorem dX4_whatIsAmiss_118 : decode cX4_whatIsAmiss 118 = .ok (.iconst 0, 1) := by decide +kernel
theorem dX4_whatIsAmiss_119 : decode cX4_whatIsAmiss 119 = .ok (.ireturn, 1) := by decide +kernel
set_option maxRecDepth 20000 in
theorem ggX4_isTakenBy_X3_clash : GoodIn wsX4_isTakenBy wsX3_clash := goodIn_r _ [9, 10, 11, 25, 26, 27, 28, 29, 30, 31, 32, 33, 34, 35] (by decide +kernel) (by decide +kernel)
set_option maxRecDepth 20000 in
theorem gX4_isTakenBy_X3_clash : GoodIn wsX4_isTakenBy (wsV RX4 334 RX3 yX3_clash wsX3_clash) := goodIn_app (goodIn_of _ (by decide +kernel)) ggX4_isTakenBy_X3_clash
theorem dX4_isTakenBy_0 : decode cX4_isTakenBy 0 = .ok (.iconst 0, 1) := by decide +kernel
theorem dX4_isTakenBy_1 : decode cX4_isTakenBy 1 = .ok (.istore_n 3, 1) := by decide +kernel
theorem dX4_isTakenBy_2 : decode cX4_isTakenBy 2 = .ok (.iload_n 3, 1) := by decide +kernel
theorem dX4_isTakenBy_3 : decode cX4_isTakenBy 3 = .ok (.aload_n 0, 1) := by decide +kernel
theorem dX4_isTakenBy_4 : decode cX4_isTakenBy 4 = .ok (.getfield 53, 3) := by decide +kernel
theorem dX4_isTakenBy_7 : decode cX4_isTakenBy 7 = .ok (.getfield 184, 3) := by decide +kernel
theorem dX4_isTakenBy_10 : decode cX4_isTakenBy 10 = .ok (.if_icmp .ge 36, 3) := by decide +kernel
theorem dX4_isTakenBy_13 : decode cX4_isTakenBy 13 = .ok (.aload_n 0, 1) := by decide +kernel
theorem dX4_isTakenBy_14 : decode cX4_isTakenBy 14 = .ok (.getfield 36, 3) := by decide +kernel
theorem dX4_isTakenBy_17 : decode cX4_isTakenBy 17 = .ok (.getfield 280, 3) := by decide +kernel
theorem dX4_isTakenBy_20 : decode cX4_isTakenBy 20 = .ok (.iload_n 3, 1) := by decide +kernel
theorem dX4_isTakenBy_21 : decode cX4_isTakenBy 21 = .ok (.iaload, 1) := by decide +kernel
theorem dX4_isTakenBy_22 : decode cX4_isTakenBy 22 = .ok (.iload_n 2, 1) := by decide +kernel
theorem dX4_isTakenBy_23 : decode cX4_isTakenBy 23 = .ok (.if_icmp .ne 17, 3) := by decide +kernel
theorem dX4_isTakenBy_26 : decode cX4_isTakenBy 26 = .ok (.aload_n 0, 1) := by decide +kernel
theorem dX4_isTakenBy_27 : decode cX4_isTakenBy 27 = .ok (.getfield 53, 3) := by decide +kernel
theorem dX4_isTakenBy_30 : decode cX4_isTakenBy 30 = .ok (.iload_n 1, 1) := by decide +kernel
theorem dX4_isTakenBy_31 : decode cX4_isTakenBy 31 = .ok (.iload_n 3, 1) := by decide +kernel
theorem dX4_isTakenBy_32 : decode cX4_isTakenBy 32 = .ok (.invokevirtual 334, 3) := by decide +kernel
theorem dX4_isTakenBy_35 : decode cX4_isTakenBy 35 = .ok (.ifCond .eq 5, 3) := by decide +kernel
theorem dX4_isTakenBy_38 : decode cX4_isTakenBy 38 = .ok (.iconst 1, 1) := by decide +kernel
theorem dX4_isTakenBy_39 : decode cX4_isTakenBy 39 = .ok (.ireturn, 1) := by decide +kernel
theorem dX4_isTakenBy_40 : decode cX4_isTakenBy 40 = .ok (.iinc 3 1, 3) := by decide +kernel
theorem dX4_isTakenBy_43 : decode cX4_isTakenBy 43 = .ok (.goto (-41), 3) := by decide +kernel
theorem dX4_isTakenBy_46 : decode cX4_isTakenBy 46 = .ok (.iconst 0, 1) := by decide +kernel
theorem dX4_isTakenBy_47 : decode cX4_isTakenBy 47 = .ok (.ireturn, 1) := by decide +kernel
theorem dX4_ofDebt_0 : decode cX4_ofDebt 0 = .ok (.iload_n 2, 1) := by decide +kernel
theorem dX4_ofDebt_1 : decode cX4_ofDebt 1 = .ok (.tableswitch 71 0 3 #[31, 41, 51, 61], 31) := by decide +kernel
theorem dX4_ofDebt_32 : decode cX4_ofDebt 32 = .ok (.aload_n 0, 1) := by decide +kernel
theorem dX4_ofDebt_33 : decode cX4_ofDebt 33 = .ok (.getfield 53, 3) := by decide +kernel
theorem dX4_ofDebt_36 : decode cX4_ofDebt 36 = .ok (.getfield 268, 3) := by decide +kernel
theorem dX4_ofDebt_39 : decode cX4_ofDebt 39 = .ok (.iload_n 1, 1) := by decide +kernel
theorem dX4_ofDebt_40 : decode cX4_ofDebt 40 = .ok (.iaload, 1) := by decide +kernel
theorem dX4_ofDebt_41 : decode cX4_ofDebt 41 = .ok (.ireturn, 1) := by decide +kernel
theorem dX4_ofDebt_42 : decode cX4_ofDebt 42 = .ok (.aload_n 0, 1) := by decide +kernel
theorem dX4_ofDebt_43 : decode cX4_ofDebt 43 = .ok (.getfield 53, 3) := by decide +kernel
theorem dX4_ofDebt_46 : decode cX4_ofDebt 46 = .ok (.getfield 331, 3) := by decide +kernel
theorem dX4_ofDebt_49 : decode cX4_ofDebt 49 = .ok (.iload_n 1, 1) := by decide +kernel
theorem dX4_ofDebt_50 : decode cX4_ofDebt 50 = .ok (.iaload, 1) := by decide +kernel
theorem dX4_ofDebt_51 : decode cX4_ofDebt 51 = .ok (.ireturn, 1) := by decide +kernel
theorem dX4_ofDebt_52 : decode cX4_ofDebt 52 = .ok (.aload_n 0, 1) := by decide +kernel
theorem dX4_ofDebt_53 : decode cX4_ofDebt 53 = .ok (.getfield 53, 3) := by decide +kernel
theorem dX4_ofDebt_56 : decode cX4_ofDebt 56 = .ok (.getfield 265, 3) := by decide +kernel
theorem dX4_ofDebt_59 : decode cX4_ofDebt 59 = .ok (.iload_n 1, 1) := by decide +kernel
theorem dX4_ofDebt_60 : decode cX4_ofDebt 60 = .ok (.iaload, 1) := by decide +kernel
theorem dX4_ofDebt_61 : decode cX4_ofDebt 61 = .ok (.ireturn, 1) := by decide +kernel
theorem dX4_ofDebt_62 : decode cX4_ofDebt 62 = .ok (.aload_n 0, 1) := by decide +kernel
theorem dX4_ofDebt_63 : decode cX4_ofDebt 63 = .ok (.getfield 53, 3) := by decide +kernel
theorem dX4_ofDebt_66 : decode cX4_ofDebt 66 = .ok (.getfield 337, 3) := by decide +kernel
theorem dX4_ofDebt_69 : decode cX4_ofDebt 69 = .ok (.iload_n 1, 1) := by decide +kernel
theorem dX4_ofDebt_70 : decode cX4_ofDebt 70 = .ok (.iaload, 1) := by decide +kernel
theorem dX4_ofDebt_71 : decode cX4_ofDebt 71 = .ok (.ireturn, 1) := by decide +kernel
theorem dX4_ofDebt_72 : decode cX4_ofDebt 72 = .ok (.aload_n 0, 1) := by decide +kernel
theorem dX4_ofDebt_73 : decode cX4_ofDebt 73 = .ok (.getfield 36, 3) := by decide +kernel
theorem dX4_ofDebt_76 : decode cX4_ofDebt 76 = .ok (.getfield 280, 3) := by decide +kernel
theorem dX4_ofDebt_79 : decode cX4_ofDebt 79 = .ok (.iload_n 1, 1) := by decide +kernel
theorem dX4_ofDebt_80 : decode cX4_ofDebt 80 = .ok (.iaload, 1) := by decide +kernel
theorem dX4_ofDebt_81 : decode cX4_ofDebt 81 = .ok (.ireturn, 1) := by decide +kernel
set_option maxRecDepth 20000 in
theorem ggX4_mustBeOut_X3_provesOut : GoodIn wsX4_mustBeOut wsX3_provesOut := goodIn_r _ [9, 10, 11, 12, 26, 27, 28, 29, 30, 31, 32, 33, 34, 35, 36] (by decide +kernel) (by decide +kernel)
set_option maxRecDepth 20000 in
theorem gX4_mustBeOut_X3_provesOut : GoodIn wsX4_mustBeOut (wsV RX4 340 RX3 yX3_provesOut wsX3_provesOut) := goodIn_app (goodIn_of _ (by decide +kernel)) ggX4_mustBeOut_X3_provesOut
theorem dX4_mustBeOut_0 : decode cX4_mustBeOut 0 = .ok (.iconst 0, 1) := by decide +kernel
theorem dX4_mustBeOut_1 : decode cX4_mustBeOut 1 = .ok (.istore_n 3, 1) := by decide +kernel
theorem dX4_mustBeOut_2 : decode cX4_mustBeOut 2 = .ok (.iconst 0, 1) := by decide +kernel
theorem dX4_mustBeOut_3 : decode cX4_mustBeOut 3 = .ok (.istore 4, 2) := by decide +kernel
theorem dX4_mustBeOut_5 : decode cX4_mustBeOut 5 = .ok (.iload 4, 2) := by decide +kernel
theorem dX4_mustBeOut_7 : decode cX4_mustBeOut 7 = .ok (.aload_n 0, 1) := by decide +kernel
theorem dX4_mustBeOut_8 : decode cX4_mustBeOut 8 = .ok (.getfield 53, 3) := by decide +kernel
theorem dX4_mustBeOut_11 : decode cX4_mustBeOut 11 = .ok (.getfield 184, 3) := by decide +kernel
theorem dX4_mustBeOut_14 : decode cX4_mustBeOut 14 = .ok (.if_icmp .ge 62, 3) := by decide +kernel
theorem dX4_mustBeOut_17 : decode cX4_mustBeOut 17 = .ok (.aload_n 1, 1) := by decide +kernel
theorem dX4_mustBeOut_18 : decode cX4_mustBeOut 18 = .ok (.iload 4, 2) := by decide +kernel
theorem dX4_mustBeOut_20 : decode cX4_mustBeOut 20 = .ok (.iaload, 1) := by decide +kernel
theorem dX4_mustBeOut_21 : decode cX4_mustBeOut 21 = .ok (.bipush (-9), 2) := by decide +kernel
theorem dX4_mustBeOut_23 : decode cX4_mustBeOut 23 = .ok (.if_icmp .eq 47, 3) := by decide +kernel
theorem dX4_mustBeOut_26 : decode cX4_mustBeOut 26 = .ok (.aload_n 0, 1) := by decide +kernel
theorem dX4_mustBeOut_27 : decode cX4_mustBeOut 27 = .ok (.getfield 53, 3) := by decide +kernel
theorem dX4_mustBeOut_30 : decode cX4_mustBeOut 30 = .ok (.getfield 268, 3) := by decide +kernel
theorem dX4_mustBeOut_33 : decode cX4_mustBeOut 33 = .ok (.iload 4, 2) := by decide +kernel
theorem dX4_mustBeOut_35 : decode cX4_mustBeOut 35 = .ok (.iaload, 1) := by decide +kernel
theorem dX4_mustBeOut_36 : decode cX4_mustBeOut 36 = .ok (.iload_n 2, 1) := by decide +kernel
theorem dX4_mustBeOut_37 : decode cX4_mustBeOut 37 = .ok (.if_icmp .eq 24, 3) := by decide +kernel
theorem dX4_mustBeOut_40 : decode cX4_mustBeOut 40 = .ok (.aload_n 0, 1) := by decide +kernel
theorem dX4_mustBeOut_41 : decode cX4_mustBeOut 41 = .ok (.getfield 53, 3) := by decide +kernel
theorem dX4_mustBeOut_44 : decode cX4_mustBeOut 44 = .ok (.aload_n 0, 1) := by decide +kernel
theorem dX4_mustBeOut_45 : decode cX4_mustBeOut 45 = .ok (.getfield 53, 3) := by decide +kernel
theorem dX4_mustBeOut_48 : decode cX4_mustBeOut 48 = .ok (.getfield 331, 3) := by decide +kernel
theorem dX4_mustBeOut_51 : decode cX4_mustBeOut 51 = .ok (.iload 4, 2) := by decide +kernel
theorem dX4_mustBeOut_53 : decode cX4_mustBeOut 53 = .ok (.iaload, 1) := by decide +kernel
theorem dX4_mustBeOut_54 : decode cX4_mustBeOut 54 = .ok (.iload_n 2, 1) := by decide +kernel
theorem dX4_mustBeOut_55 : decode cX4_mustBeOut 55 = .ok (.invokevirtual 340, 3) := by decide +kernel
theorem dX4_mustBeOut_58 : decode cX4_mustBeOut 58 = .ok (.ifCond .eq 12, 3) := by decide +kernel
theorem dX4_mustBeOut_61 : decode cX4_mustBeOut 61 = .ok (.iload_n 3, 1) := by decide +kernel
theorem dX4_mustBeOut_62 : decode cX4_mustBeOut 62 = .ok (.iconst 1, 1) := by decide +kernel
theorem dX4_mustBeOut_63 : decode cX4_mustBeOut 63 = .ok (.aload_n 1, 1) := by decide +kernel
theorem dX4_mustBeOut_64 : decode cX4_mustBeOut 64 = .ok (.iload 4, 2) := by decide +kernel
theorem dX4_mustBeOut_66 : decode cX4_mustBeOut 66 = .ok (.iaload, 1) := by decide +kernel
theorem dX4_mustBeOut_67 : decode cX4_mustBeOut 67 = .ok (.ishl, 1) := by decide +kernel
theorem dX4_mustBeOut_68 : decode cX4_mustBeOut 68 = .ok (.ior, 1) := by decide +kernel
theorem dX4_mustBeOut_69 : decode cX4_mustBeOut 69 = .ok (.istore_n 3, 1) := by decide +kernel
theorem dX4_mustBeOut_70 : decode cX4_mustBeOut 70 = .ok (.iinc 4 1, 3) := by decide +kernel
theorem dX4_mustBeOut_73 : decode cX4_mustBeOut 73 = .ok (.goto (-68), 3) := by decide +kernel
theorem dX4_mustBeOut_76 : decode cX4_mustBeOut 76 = .ok (.iload_n 3, 1) := by decide +kernel
theorem dX4_mustBeOut_77 : decode cX4_mustBeOut 77 = .ok (.ireturn, 1) := by decide +kernel
