theorem dX5_amiss_126 : decode cX5_amiss 126 = .ok (.iconst 1, 1) := by decide +kernel
theorem dX5_amiss_127 : decode cX5_amiss 127 = .ok (.invokevirtual 164, 3) := by decide +kernel
theorem dX5_amiss_130 : decode cX5_amiss 130 = .ok (.if_icmp .ne 7, 3) := by decide +kernel
theorem dX5_amiss_133 : decode cX5_amiss 133 = .ok (.iconst 1, 1) := by decide +kernel
theorem dX5_amiss_134 : decode cX5_amiss 134 = .ok (.goto 4, 3) := by decide +kernel
theorem dX5_amiss_137 : decode cX5_amiss 137 = .ok (.iconst 0, 1) := by decide +kernel
theorem dX5_amiss_138 : decode cX5_amiss 138 = .ok (.istore_n 3, 1) := by decide +kernel
theorem dX5_amiss_139 : decode cX5_amiss 139 = .ok (.iinc 4 1, 3) := by decide +kernel
theorem dX5_amiss_142 : decode cX5_amiss 142 = .ok (.goto (-93), 3) := by decide +kernel
theorem dX5_amiss_145 : decode cX5_amiss 145 = .ok (.iload_n 2, 1) := by decide +kernel
theorem dX5_amiss_146 : decode cX5_amiss 146 = .ok (.ifCond .ne 7, 3) := by decide +kernel
theorem dX5_amiss_149 : decode cX5_amiss 149 = .ok (.iload_n 3, 1) := by decide +kernel
theorem dX5_amiss_150 : decode cX5_amiss 150 = .ok (.ifCond .eq 13, 3) := by decide +kernel
theorem dX5_amiss_153 : decode cX5_amiss 153 = .ok (.iload_n 2, 1) := by decide +kernel
theorem dX5_amiss_154 : decode cX5_amiss 154 = .ok (.ifCond .eq 7, 3) := by decide +kernel
theorem dX5_amiss_157 : decode cX5_amiss 157 = .ok (.iconst 2, 1) := by decide +kernel
theorem dX5_amiss_158 : decode cX5_amiss 158 = .ok (.goto 4, 3) := by decide +kernel
theorem dX5_amiss_161 : decode cX5_amiss 161 = .ok (.iconst 3, 1) := by decide +kernel
theorem dX5_amiss_162 : decode cX5_amiss 162 = .ok (.ireturn, 1) := by decide +kernel
theorem dX5_amiss_163 : decode cX5_amiss 163 = .ok (.iinc 1 1, 3) := by decide +kernel
theorem dX5_amiss_166 : decode cX5_amiss 166 = .ok (.goto (-164), 3) := by decide +kernel
theorem dX5_amiss_169 : decode cX5_amiss 169 = .ok (.aload_n 0, 1) := by decide +kernel
theorem dX5_amiss_170 : decode cX5_amiss 170 = .ok (.iconst 0, 1) := by decide +kernel
theorem dX5_amiss_171 : decode cX5_amiss 171 = .ok (.putfield 204, 3) := by decide +kernel
theorem dX5_amiss_174 : decode cX5_amiss 174 = .ok (.iconst 0, 1) := by decide +kernel
theorem dX5_amiss_175 : decode cX5_amiss 175 = .ok (.ireturn, 1) := by decide +kernel
set_option maxRecDepth 20000 in
theorem ggX5_judge_X5_isRow : GoodIn wsX5_judge wsX5_isRow := goodIn_r _ [5, 6, 7, 4, 8] (by decide +kernel) (by decide +kernel)
set_option maxRecDepth 20000 in
theorem gX5_judge_X5_isRow : GoodIn wsX5_judge (va_wsS RX5 82 yX5_isRow wsX5_isRow) := goodIn_app (goodIn_of _ (by decide +kernel)) ggX5_judge_X5_isRow
set_option maxRecDepth 20000 in
theorem ggX5_judge_X5_needRound : GoodIn wsX5_judge wsX5_needRound := goodIn_r _ [12, 13, 14, 15, 16, 17, 18, 4, 19, 20, 21, 22, 23, 24, 25, 26, 27, 28, 29, 6, 7, 8, 77, 78, 79, 80, 81, 82, 83, 84, 85, 86, 87, 88, 89, 90, 91, 92, 93, 94, 95, 96, 97, 98, 99, 100, 101, 102, 103, 104, 105, 106] (by decide +kernel) (by decide +kernel)
set_option maxRecDepth 20000 in
theorem gX5_judge_X5_needRound : GoodIn wsX5_judge (wsV RX5 207 RX5 yX5_needRound wsX5_needRound) := goodIn_app (goodIn_of _ (by decide +kernel)) ggX5_judge_X5_needRound
set_option maxRecDepth 20000 in
theorem ggX5_judge_X5_amiss : GoodIn wsX5_judge wsX5_amiss := goodIn_r _ [33, 14, 1, 15, 34, 35, 36, 4, 37, 38, 39, 40, 41, 42, 43, 44, 45, 46, 47, 48, 49, 50, 51, 52, 53, 54, 55, 56, 57, 58, 59, 60, 61, 62, 63, 64, 65, 66, 67, 68, 69, 70, 71, 77, 78, 79, 80, 81, 82, 83, 84, 85, 86, 87, 88, 89, 90, 91, 92, 93, 94, 95, 96, 97, 98, 99, 100, 101, 102, 103, 104, 105, 106] (by decide +kernel) (by decide +kernel)
set_option maxRecDepth 20000 in
theorem gX5_judge_X5_amiss : GoodIn wsX5_judge (wsV RX5 210 RX5 yX5_amiss wsX5_amiss) := goodIn_app (goodIn_of _ (by decide +kernel)) ggX5_judge_X5_amiss
set_option maxRecDepth 20000 in
theorem ggX5_judge_X5_tells : GoodIn wsX5_judge wsX5_tells := goodIn_r _ [75, 76, 77, 78, 79, 80, 81, 82, 83, 84, 85, 86, 87, 88, 89, 90, 91, 92, 93, 94, 95, 96, 97, 98, 99, 100, 101, 102, 103, 104, 105, 106] (by decide +kernel) (by decide +kernel)
set_option maxRecDepth 20000 in
theorem gX5_judge_X5_tells : GoodIn wsX5_judge (wsV RX5 94 RX5 yX5_tells wsX5_tells) := goodIn_app (goodIn_of _ (by decide +kernel)) ggX5_judge_X5_tells
theorem dX5_judge_0 : decode cX5_judge 0 = .ok (.iload_n 1, 1) := by decide +kernel
theorem dX5_judge_1 : decode cX5_judge 1 = .ok (.invokestatic 82, 3) := by decide +kernel
theorem dX5_judge_4 : decode cX5_judge 4 = .ok (.ifCond .ne 5, 3) := by decide +kernel
theorem dX5_judge_7 : decode cX5_judge 7 = .ok (.iconst (-1), 1) := by decide +kernel
theorem dX5_judge_8 : decode cX5_judge 8 = .ok (.ireturn, 1) := by decide +kernel
theorem dX5_judge_9 : decode cX5_judge 9 = .ok (.aload_n 0, 1) := by decide +kernel
theorem dX5_judge_10 : decode cX5_judge 10 = .ok (.iload_n 1, 1) := by decide +kernel
theorem dX5_judge_11 : decode cX5_judge 11 = .ok (.invokevirtual 207, 3) := by decide +kernel
theorem dX5_judge_14 : decode cX5_judge 14 = .ok (.istore_n 2, 1) := by decide +kernel
theorem dX5_judge_15 : decode cX5_judge 15 = .ok (.iload_n 2, 1) := by decide +kernel
theorem dX5_judge_16 : decode cX5_judge 16 = .ok (.ifCond .ge 5, 3) := by decide +kernel
theorem dX5_judge_19 : decode cX5_judge 19 = .ok (.iload_n 2, 1) := by decide +kernel
theorem dX5_judge_20 : decode cX5_judge 20 = .ok (.ireturn, 1) := by decide +kernel
theorem dX5_judge_21 : decode cX5_judge 21 = .ok (.aload_n 0, 1) := by decide +kernel
theorem dX5_judge_22 : decode cX5_judge 22 = .ok (.invokevirtual 210, 3) := by decide +kernel
theorem dX5_judge_25 : decode cX5_judge 25 = .ok (.istore_n 3, 1) := by decide +kernel
theorem dX5_judge_26 : decode cX5_judge 26 = .ok (.aload_n 0, 1) := by decide +kernel
theorem dX5_judge_27 : decode cX5_judge 27 = .ok (.aload_n 0, 1) := by decide +kernel
theorem dX5_judge_28 : decode cX5_judge 28 = .ok (.getfield 204, 3) := by decide +kernel
theorem dX5_judge_31 : decode cX5_judge 31 = .ok (.iload_n 3, 1) := by decide +kernel
theorem dX5_judge_32 : decode cX5_judge 32 = .ok (.invokevirtual 94, 3) := by decide +kernel
theorem dX5_judge_35 : decode cX5_judge 35 = .ok (.ireturn, 1) := by decide +kernel
set_option maxRecDepth 20000 in
theorem ggX5_costOf_X5_debtAt : GoodIn wsX5_costOf wsX5_debtAt := goodIn_r _ [5, 6, 7, 8, 9, 10, 11, 12, 13, 14, 15, 16, 17, 18, 19, 20, 21, 22, 23, 24, 25, 26, 27, 28, 29, 30, 31, 32, 33, 34, 35, 36] (by decide +kernel) (by decide +kernel)
set_option maxRecDepth 20000 in
theorem gX5_costOf_X5_debtAt : GoodIn wsX5_costOf (wsV RX5 164 RX5 yX5_debtAt wsX5_debtAt) := goodIn_app (goodIn_of _ (by decide +kernel)) ggX5_costOf_X5_debtAt
theorem dX5_costOf_0 : decode cX5_costOf 0 = .ok (.aload_n 0, 1) := by decide +kernel
theorem dX5_costOf_1 : decode cX5_costOf 1 = .ok (.iload_n 1, 1) := by decide +kernel
theorem dX5_costOf_2 : decode cX5_costOf 2 = .ok (.iconst 2, 1) := by decide +kernel
theorem dX5_costOf_3 : decode cX5_costOf 3 = .ok (.invokevirtual 164, 3) := by decide +kernel
theorem dX5_costOf_6 : decode cX5_costOf 6 = .ok (.iload_n 2, 1) := by decide +kernel
theorem dX5_costOf_7 : decode cX5_costOf 7 = .ok (.aload_n 0, 1) := by decide +kernel
theorem dX5_costOf_8 : decode cX5_costOf 8 = .ok (.iload_n 1, 1) := by decide +kernel
theorem dX5_costOf_9 : decode cX5_costOf 9 = .ok (.iconst 3, 1) := by decide +kernel
theorem dX5_costOf_10 : decode cX5_costOf 10 = .ok (.invokevirtual 164, 3) := by decide +kernel
theorem dX5_costOf_13 : decode cX5_costOf 13 = .ok (.imul, 1) := by decide +kernel
theorem dX5_costOf_14 : decode cX5_costOf 14 = .ok (.iadd, 1) := by decide +kernel
theorem dX5_costOf_15 : decode cX5_costOf 15 = .ok (.ireturn, 1) := by decide +kernel
set_option maxRecDepth 20000 in
theorem ggX5_worth_X5_isRow : GoodIn wsX5_worth wsX5_isRow := goodIn_r _ [6, 7, 8, 5, 9] (by decide +kernel) (by decide +kernel)
set_option maxRecDepth 20000 in
theorem gX5_worth_X5_isRow : GoodIn wsX5_worth (va_wsS RX5 82 yX5_isRow wsX5_isRow) := goodIn_app (goodIn_of _ (by decide +kernel)) ggX5_worth_X5_isRow
set_option maxRecDepth 20000 in
theorem ggX5_worth_X5_needRound : GoodIn wsX5_worth wsX5_needRound := goodIn_r _ [13, 14, 1, 2, 15, 16, 17, 5, 18, 19, 20, 21, 22, 23, 24, 25, 26, 27, 28, 7, 8, 9, 84, 85, 86, 87, 88, 89, 90, 91, 92, 93, 94, 95, 96, 97, 98, 99, 100, 101, 102, 103, 104, 105, 106, 107, 108, 109, 110, 111, 112, 113] (by decide +kernel) (by decide +kernel)
set_option maxRecDepth 20000 in
theorem gX5_worth_X5_needRound : GoodIn wsX5_worth (wsV RX5 207 RX5 yX5_needRound wsX5_needRound) := goodIn_app (goodIn_of _ (by decide +kernel)) ggX5_worth_X5_needRound
set_option maxRecDepth 20000 in
theorem ggX5_worth_X5_amiss : GoodIn wsX5_worth wsX5_amiss := goodIn_r _ [32, 1, 33, 2, 34, 35, 36, 5, 37, 38, 39, 40, 41, 42, 43, 44, 45, 46, 47, 48, 49, 50, 51, 52, 53, 54, 55, 56, 57, 58, 59, 60, 61, 62, 63, 64, 65, 66, 67, 68, 69, 70, 71, 84, 85, 86, 87, 88, 89, 90, 91, 92, 93, 94, 95, 96, 97, 98, 99, 100, 101, 102, 103, 104, 105, 106, 107, 108, 109, 110, 111, 112, 113] (by decide +kernel) (by decide +kernel)
set_option maxRecDepth 20000 in
theorem gX5_worth_X5_amiss : GoodIn wsX5_worth (wsV RX5 210 RX5 yX5_amiss wsX5_amiss) := goodIn_app (goodIn_of _ (by decide +kernel)) ggX5_worth_X5_amiss
set_option maxRecDepth 20000 in
theorem ggX5_worth_X5_meets : GoodIn wsX5_worth wsX5_meets := goodIn_r _ [18, 19, 20, 84, 85, 86, 87, 88, 89, 90, 91, 92, 93, 94, 95, 96, 97, 98, 99, 100, 101, 102, 103, 104, 105, 106, 107, 108, 109, 110, 111, 112, 113] (by decide +kernel) (by decide +kernel)
set_option maxRecDepth 20000 in
theorem gX5_worth_X5_meets : GoodIn wsX5_worth (wsV RX5 86 RX5 yX5_meets wsX5_meets) := goodIn_app (goodIn_of _ (by decide +kernel)) ggX5_worth_X5_meets
set_option maxRecDepth 20000 in
theorem ggX5_worth_X5_costOf : GoodIn wsX5_worth wsX5_costOf := goodIn_r _ [75, 38, 39, 40, 5, 41, 42, 84, 85, 86, 87, 88, 89, 90, 91, 92, 93, 94, 95, 96, 97, 98, 99, 100, 101, 102, 103, 104, 105, 106, 107, 108, 109, 110, 111, 112, 113] (by decide +kernel) (by decide +kernel)
set_option maxRecDepth 20000 in
theorem gX5_worth_X5_costOf : GoodIn wsX5_worth (wsV RX5 214 RX5 yX5_costOf wsX5_costOf) := goodIn_app (goodIn_of _ (by decide +kernel)) ggX5_worth_X5_costOf
set_option maxRecDepth 20000 in
theorem ggX5_worth_X5_greater : GoodIn wsX5_worth wsX5_greater := goodIn_r _ [78] (by decide +kernel) (by decide +kernel)
set_option maxRecDepth 20000 in
theorem gX5_worth_X5_greater : GoodIn wsX5_worth (va_wsS RX5 217 yX5_greater wsX5_greater) := goodIn_app (goodIn_of _ (by decide +kernel)) ggX5_worth_X5_greater
set_option maxRecDepth 20000 in
theorem ggX5_worth_X5_tells : GoodIn wsX5_worth wsX5_tells := goodIn_r _ [82, 83, 84, 85, 86, 87, 88, 89, 90, 91, 92, 93, 94, 95, 96, 97, 98, 99, 100, 101, 102, 103, 104, 105, 106, 107, 108, 109, 110, 111, 112, 113] (by decide +kernel) (by decide +kernel)
set_option maxRecDepth 20000 in
theorem gX5_worth_X5_tells : GoodIn wsX5_worth (wsV RX5 94 RX5 yX5_tells wsX5_tells) := goodIn_app (goodIn_of _ (by decide +kernel)) ggX5_worth_X5_tells
theorem dX5_worth_0 : decode cX5_worth 0 = .ok (.iload_n 1, 1) := by decide +kernel
theorem dX5_worth_1 : decode cX5_worth 1 = .ok (.invokestatic 82, 3) := by decide +kernel
theorem dX5_worth_4 : decode cX5_worth 4 = .ok (.ifCond .ne 5, 3) := by decide +kernel
theorem dX5_worth_7 : decode cX5_worth 7 = .ok (.iconst (-1), 1) := by decide +kernel
theorem dX5_worth_8 : decode cX5_worth 8 = .ok (.ireturn, 1) := by decide +kernel
theorem dX5_worth_9 : decode cX5_worth 9 = .ok (.aload_n 0, 1) := by decide +kernel
theorem dX5_worth_10 : decode cX5_worth 10 = .ok (.iload_n 1, 1) := by decide +kernel
theorem dX5_worth_11 : decode cX5_worth 11 = .ok (.invokevirtual 207, 3) := by decide +kernel
theorem dX5_worth_14 : decode cX5_worth 14 = .ok (.istore_n 2, 1) := by decide +kernel
theorem dX5_worth_15 : decode cX5_worth 15 = .ok (.iload_n 2, 1) := by decide +kernel
theorem dX5_worth_16 : decode cX5_worth 16 = .ok (.ifCond .ge 5, 3) := by decide +kernel
theorem dX5_worth_19 : decode cX5_worth 19 = .ok (.iload_n 2, 1) := by decide +kernel
theorem dX5_worth_20 : decode cX5_worth 20 = .ok (.ireturn, 1) := by decide +kernel
theorem dX5_worth_21 : decode cX5_worth 21 = .ok (.aload_n 0, 1) := by decide +kernel
theorem dX5_worth_22 : decode cX5_worth 22 = .ok (.invokevirtual 210, 3) := by decide +kernel
theorem dX5_worth_25 : decode cX5_worth 25 = .ok (.ifCond .eq 9, 3) := by decide +kernel
theorem dX5_worth_28 : decode cX5_worth 28 = .ok (.aload_n 0, 1) := by decide +kernel
theorem dX5_worth_29 : decode cX5_worth 29 = .ok (.iconst 3, 1) := by decide +kernel
theorem dX5_worth_30 : decode cX5_worth 30 = .ok (.invokevirtual 86, 3) := by decide +kernel
theorem dX5_worth_33 : decode cX5_worth 33 = .ok (.ireturn, 1) := by decide +kernel
theorem dX5_worth_34 : decode cX5_worth 34 = .ok (.iconst 0, 1) := by decide +kernel
theorem dX5_worth_35 : decode cX5_worth 35 = .ok (.istore_n 3, 1) := by decide +kernel
theorem dX5_worth_36 : decode cX5_worth 36 = .ok (.iconst 0, 1) := by decide +kernel
theorem dX5_worth_37 : decode cX5_worth 37 = .ok (.istore 4, 2) := by decide +kernel
theorem dX5_worth_39 : decode cX5_worth 39 = .ok (.iconst 0, 1) := by decide +kernel
theorem dX5_worth_40 : decode cX5_worth 40 = .ok (.istore 5, 2) := by decide +kernel
theorem dX5_worth_42 : decode cX5_worth 42 = .ok (.iload 5, 2) := by decide +kernel
theorem dX5_worth_44 : decode cX5_worth 44 = .ok (.aload_n 0, 1) := by decide +kernel
theorem dX5_worth_45 : decode cX5_worth 45 = .ok (.getfield 143, 3) := by decide +kernel
theorem dX5_worth_48 : decode cX5_worth 48 = .ok (.if_icmp .ge 75, 3) := by decide +kernel
theorem dX5_worth_51 : decode cX5_worth 51 = .ok (.iload_n 3, 1) := by decide +kernel
theorem dX5_worth_52 : decode cX5_worth 52 = .ok (.aload_n 0, 1) := by decide +kernel
theorem dX5_worth_53 : decode cX5_worth 53 = .ok (.iload 5, 2) := by decide +kernel
theorem dX5_worth_55 : decode cX5_worth 55 = .ok (.aload_n 0, 1) := by decide +kernel
theorem dX5_worth_56 : decode cX5_worth 56 = .ok (.getfield 41, 3) := by decide +kernel
theorem dX5_worth_59 : decode cX5_worth 59 = .ok (.iload 5, 2) := by decide +kernel
theorem dX5_worth_61 : decode cX5_worth 61 = .ok (.iaload, 1) := by decide +kernel
theorem dX5_worth_62 : decode cX5_worth 62 = .ok (.bipush (-9), 2) := by decide +kernel
theorem dX5_worth_64 : decode cX5_worth 64 = .ok (.if_icmp .ne 8, 3) := by decide +kernel
theorem dX5_worth_67 : decode cX5_worth 67 = .ok (.bipush 12, 2) := by decide +kernel
theorem dX5_worth_69 : decode cX5_worth 69 = .ok (.goto 10, 3) := by decide +kernel
theorem dX5_worth_72 : decode cX5_worth 72 = .ok (.aload_n 0, 1) := by decide +kernel
theorem dX5_worth_73 : decode cX5_worth 73 = .ok (.getfield 41, 3) := by decide +kernel
theorem dX5_worth_76 : decode cX5_worth 76 = .ok (.iload 5, 2) := by decide +kernel
theorem dX5_worth_78 : decode cX5_worth 78 = .ok (.iaload, 1) := by decide +kernel
theorem dX5_worth_79 : decode cX5_worth 79 = .ok (.invokevirtual 214, 3) := by decide +kernel
theorem dX5_worth_82 : decode cX5_worth 82 = .ok (.iadd, 1) := by decide +kernel
theorem dX5_worth_83 : decode cX5_worth 83 = .ok (.istore_n 3, 1) := by decide +kernel
theorem dX5_worth_84 : decode cX5_worth 84 = .ok (.aload_n 0, 1) := by decide +kernel
theorem dX5_worth_85 : decode cX5_worth 85 = .ok (.getfield 41, 3) := by decide +kernel
theorem dX5_worth_88 : decode cX5_worth 88 = .ok (.iload 5, 2) := by decide +kernel
theorem dX5_worth_90 : decode cX5_worth 90 = .ok (.iaload, 1) := by decide +kernel
theorem dX5_worth_91 : decode cX5_worth 91 = .ok (.bipush (-9), 2) := by decide +kernel
theorem dX5_worth_93 : decode cX5_worth 93 = .ok (.if_icmp .ne 8, 3) := by decide +kernel
theorem dX5_worth_96 : decode cX5_worth 96 = .ok (.iload 4, 2) := by decide +kernel
theorem dX5_worth_98 : decode cX5_worth 98 = .ok (.goto 17, 3) := by decide +kernel
theorem dX5_worth_101 : decode cX5_worth 101 = .ok (.iload 4, 2) := by decide +kernel
theorem dX5_worth_103 : decode cX5_worth 103 = .ok (.aload_n 0, 1) := by decide +kernel
theorem dX5_worth_104 : decode cX5_worth 104 = .ok (.getfield 41, 3) := by decide +kernel
theorem dX5_worth_107 : decode cX5_worth 107 = .ok (.iload 5, 2) := by decide +kernel
theorem dX5_worth_109 : decode cX5_worth 109 = .ok (.iaload, 1) := by decide +kernel
theorem dX5_worth_110 : decode cX5_worth 110 = .ok (.iconst 1, 1) := by decide +kernel
theorem dX5_worth_111 : decode cX5_worth 111 = .ok (.iadd, 1) := by decide +kernel
theorem dX5_worth_112 : decode cX5_worth 112 = .ok (.invokestatic 217, 3) := by decide +kernel
theorem dX5_worth_115 : decode cX5_worth 115 = .ok (.istore 4, 2) := by decide +kernel
theorem dX5_worth_117 : decode cX5_worth 117 = .ok (.iinc 5 1, 3) := by decide +kernel
theorem dX5_worth_120 : decode cX5_worth 120 = .ok (.goto (-78), 3) := by decide +kernel
theorem dX5_worth_123 : decode cX5_worth 123 = .ok (.aload_n 0, 1) := by decide +kernel
theorem dX5_worth_124 : decode cX5_worth 124 = .ok (.iload 4, 2) := by decide +kernel
theorem dX5_worth_126 : decode cX5_worth 126 = .ok (.iload_n 3, 1) := by decide +kernel
theorem dX5_worth_127 : decode cX5_worth 127 = .ok (.invokevirtual 94, 3) := by decide +kernel
theorem dX5_worth_130 : decode cX5_worth 130 = .ok (.ireturn, 1) := by decide +kernel
theorem dX5_spot_0 : decode cX5_spot 0 = .ok (.sipush 256, 3) := by decide +kernel
theorem dX5_spot_3 : decode cX5_spot 3 = .ok (.iload_n 0, 1) := by decide +kernel
theorem dX5_spot_4 : decode cX5_spot 4 = .ok (.imul, 1) := by decide +kernel
theorem dX5_spot_5 : decode cX5_spot 5 = .ok (.iload_n 1, 1) := by decide +kernel
theorem dX5_spot_6 : decode cX5_spot 6 = .ok (.iadd, 1) := by decide +kernel
theorem dX5_spot_7 : decode cX5_spot 7 = .ok (.ireturn, 1) := by decide +kernel
theorem dX5_allDebts_0 : decode cX5_allDebts 0 = .ok (.iconst 1, 1) := by decide +kernel
theorem dX5_allDebts_1 : decode cX5_allDebts 1 = .ok (.aload_n 0, 1) := by decide +kernel
theorem dX5_allDebts_2 : decode cX5_allDebts 2 = .ok (.getfield 143, 3) := by decide +kernel
theorem dX5_allDebts_5 : decode cX5_allDebts 5 = .ok (.ishl, 1) := by decide +kernel
theorem dX5_allDebts_6 : decode cX5_allDebts 6 = .ok (.iconst 1, 1) := by decide +kernel
theorem dX5_allDebts_7 : decode cX5_allDebts 7 = .ok (.isub, 1) := by decide +kernel
theorem dX5_allDebts_8 : decode cX5_allDebts 8 = .ok (.ireturn, 1) := by decide +kernel
set_option maxRecDepth 20000 in
theorem ggX5_layMay_X5_payable : GoodIn wsX5_layMay wsX5_payable := goodIn_r _ [6, 7, 8, 9, 10, 5, 11, 12, 13, 14, 15, 16, 17, 18, 19, 20, 21, 22, 23, 24, 25, 26, 27, 28, 29, 30, 31, 32, 33, 34, 35, 36, 37, 38, 39, 40, 41, 42, 43, 44, 45, 54, 55, 56, 57, 58, 59, 60, 61, 62, 63, 64, 65, 66, 67, 68, 69, 70, 71, 72, 73, 74, 75, 76, 77, 78, 79, 80, 81, 82, 83] (by decide +kernel) (by decide +kernel)
set_option maxRecDepth 20000 in
theorem gX5_layMay_X5_payable : GoodIn wsX5_layMay (wsV RX5 195 RX5 yX5_payable wsX5_payable) := goodIn_app (goodIn_of _ (by decide +kernel)) ggX5_layMay_X5_payable
set_option maxRecDepth 20000 in
theorem ggX5_layMay_X5_allDebts : GoodIn wsX5_layMay wsX5_allDebts := goodIn_r _ [49, 7, 54, 55, 56, 57, 58, 59, 60, 61, 62, 63, 64, 65, 66, 67, 68, 69, 70, 71, 72, 73, 74, 75, 76, 77, 78, 79, 80, 81, 82, 83] (by decide +kernel) (by decide +kernel)
set_option maxRecDepth 20000 in
theorem gX5_layMay_X5_allDebts : GoodIn wsX5_layMay (wsV RX5 220 RX5 yX5_allDebts wsX5_allDebts) := goodIn_app (goodIn_of _ (by decide +kernel)) ggX5_layMay_X5_allDebts
set_option maxRecDepth 20000 in
theorem ggX5_layMay_X5_fits : GoodIn wsX5_layMay wsX5_fits := goodIn_r _ [53, 7, 22, 23, 5, 24, 12, 13, 14, 15, 16, 54, 55, 56, 57, 58, 59, 60, 61, 62, 63, 64, 65, 66, 67, 68, 69, 70, 71, 72, 73, 74, 75, 76, 77, 78, 79, 80, 81, 82, 83] (by decide +kernel) (by decide +kernel)
set_option maxRecDepth 20000 in
theorem gX5_layMay_X5_fits : GoodIn wsX5_layMay (wsV RX5 198 RX5 yX5_fits wsX5_fits) := goodIn_app (goodIn_of _ (by decide +kernel)) ggX5_layMay_X5_fits
theorem dX5_layMay_0 : decode cX5_layMay 0 = .ok (.aload_n 0, 1) := by decide +kernel
theorem dX5_layMay_1 : decode cX5_layMay 1 = .ok (.iload_n 1, 1) := by decide +kernel
theorem dX5_layMay_2 : decode cX5_layMay 2 = .ok (.invokevirtual 195, 3) := by decide +kernel
theorem dX5_layMay_5 : decode cX5_layMay 5 = .ok (.istore_n 2, 1) := by decide +kernel
theorem dX5_layMay_6 : decode cX5_layMay 6 = .ok (.iconst 0, 1) := by decide +kernel
theorem dX5_layMay_7 : decode cX5_layMay 7 = .ok (.istore_n 3, 1) := by decide +kernel
theorem dX5_layMay_8 : decode cX5_layMay 8 = .ok (.iload_n 3, 1) := by decide +kernel
theorem dX5_layMay_9 : decode cX5_layMay 9 = .ok (.aload_n 0, 1) := by decide +kernel
theorem dX5_layMay_10 : decode cX5_layMay 10 = .ok (.invokevirtual 220, 3) := by decide +kernel
theorem dX5_layMay_13 : decode cX5_layMay 13 = .ok (.if_icmp .gt 36, 3) := by decide +kernel
theorem dX5_layMay_16 : decode cX5_layMay 16 = .ok (.aload_n 0, 1) := by decide +kernel
theorem dX5_layMay_17 : decode cX5_layMay 17 = .ok (.getfield 51, 3) := by decide +kernel
theorem dX5_layMay_20 : decode cX5_layMay 20 = .ok (.iload_n 3, 1) := by decide +kernel
theorem dX5_layMay_21 : decode cX5_layMay 21 = .ok (.iload_n 3, 1) := by decide +kernel
theorem dX5_layMay_22 : decode cX5_layMay 22 = .ok (.iload_n 2, 1) := by decide +kernel
theorem dX5_layMay_23 : decode cX5_layMay 23 = .ok (.iconst (-1), 1) := by decide +kernel
theorem dX5_layMay_24 : decode cX5_layMay 24 = .ok (.ixor, 1) := by decide +kernel
theorem dX5_layMay_25 : decode cX5_layMay 25 = .ok (.iand, 1) := by decide +kernel
theorem dX5_layMay_26 : decode cX5_layMay 26 = .ok (.ifCond .ne 15, 3) := by decide +kernel
theorem dX5_layMay_29 : decode cX5_layMay 29 = .ok (.aload_n 0, 1) := by decide +kernel
theorem dX5_layMay_30 : decode cX5_layMay 30 = .ok (.iload_n 3, 1) := by decide +kernel
theorem dX5_layMay_31 : decode cX5_layMay 31 = .ok (.invokevirtual 198, 3) := by decide +kernel
theorem dX5_layMay_34 : decode cX5_layMay 34 = .ok (.ifCond .eq 7, 3) := by decide +kernel
theorem dX5_layMay_37 : decode cX5_layMay 37 = .ok (.iconst 1, 1) := by decide +kernel
theorem dX5_layMay_38 : decode cX5_layMay 38 = .ok (.goto 4, 3) := by decide +kernel
theorem dX5_layMay_41 : decode cX5_layMay 41 = .ok (.iconst 0, 1) := by decide +kernel
theorem dX5_layMay_42 : decode cX5_layMay 42 = .ok (.bastore, 1) := by decide +kernel
theorem dX5_layMay_43 : decode cX5_layMay 43 = .ok (.iinc 3 1, 3) := by decide +kernel
theorem dX5_layMay_46 : decode cX5_layMay 46 = .ok (.goto (-38), 3) := by decide +kernel
theorem dX5_layMay_49 : decode cX5_layMay 49 = .ok (.return_, 1) := by decide +kernel
set_option maxRecDepth 20000 in
theorem ggX5_gain_X5_has : GoodIn wsX5_gain wsX5_has := goodIn_r _ [5] (by decide +kernel) (by decide +kernel)
set_option maxRecDepth 20000 in
theorem gX5_gain_X5_has : GoodIn wsX5_gain (va_wsS RX5 149 yX5_has wsX5_has) := goodIn_app (goodIn_of _ (by decide +kernel)) ggX5_gain_X5_has
set_option maxRecDepth 20000 in
theorem ggX5_gain_X5_costOf : GoodIn wsX5_gain wsX5_costOf := goodIn_r _ [9, 10, 11, 12, 4, 13, 14, 15, 16, 17, 18, 19, 20, 21, 22, 23, 24, 25, 26, 27, 28, 29, 30, 31, 32, 33, 34, 35, 36, 37, 38, 39, 40, 41, 42, 43, 44] (by decide +kernel) (by decide +kernel)
set_option maxRecDepth 20000 in
theorem gX5_gain_X5_costOf : GoodIn wsX5_gain (wsV RX5 214 RX5 yX5_costOf wsX5_costOf) := goodIn_app (goodIn_of _ (by decide +kernel)) ggX5_gain_X5_costOf
theorem dX5_gain_0 : decode cX5_gain 0 = .ok (.iconst 0, 1) := by decide +kernel
theorem dX5_gain_1 : decode cX5_gain 1 = .ok (.istore_n 3, 1) := by decide +kernel
theorem dX5_gain_2 : decode cX5_gain 2 = .ok (.iconst 0, 1) := by decide +kernel
theorem dX5_gain_3 : decode cX5_gain 3 = .ok (.istore 4, 2) := by decide +kernel
theorem dX5_gain_5 : decode cX5_gain 5 = .ok (.iload 4, 2) := by decide +kernel
theorem dX5_gain_7 : decode cX5_gain 7 = .ok (.aload_n 0, 1) := by decide +kernel
theorem dX5_gain_8 : decode cX5_gain 8 = .ok (.getfield 143, 3) := by decide +kernel
theorem dX5_gain_11 : decode cX5_gain 11 = .ok (.if_icmp .ge 36, 3) := by decide +kernel
theorem dX5_gain_14 : decode cX5_gain 14 = .ok (.iload_n 3, 1) := by decide +kernel
theorem dX5_gain_15 : decode cX5_gain 15 = .ok (.iload_n 1, 1) := by decide +kernel
theorem dX5_gain_16 : decode cX5_gain 16 = .ok (.iload 4, 2) := by decide +kernel
theorem dX5_gain_18 : decode cX5_gain 18 = .ok (.invokestatic 149, 3) := by decide +kernel
theorem dX5_gain_21 : decode cX5_gain 21 = .ok (.ifCond .eq 17, 3) := by decide +kernel
theorem dX5_gain_24 : decode cX5_gain 24 = .ok (.sipush 10000, 3) := by decide +kernel
theorem dX5_gain_27 : decode cX5_gain 27 = .ok (.aload_n 0, 1) := by decide +kernel
theorem dX5_gain_28 : decode cX5_gain 28 = .ok (.iload 4, 2) := by decide +kernel
theorem dX5_gain_30 : decode cX5_gain 30 = .ok (.iload_n 2, 1) := by decide +kernel
theorem dX5_gain_31 : decode cX5_gain 31 = .ok (.invokevirtual 214, 3) := by decide +kernel
theorem dX5_gain_34 : decode cX5_gain 34 = .ok (.isub, 1) := by decide +kernel
theorem dX5_gain_35 : decode cX5_gain 35 = .ok (.goto 4, 3) := by decide +kernel
theorem dX5_gain_38 : decode cX5_gain 38 = .ok (.iconst 0, 1) := by decide +kernel
theorem dX5_gain_39 : decode cX5_gain 39 = .ok (.iadd, 1) := by decide +kernel
theorem dX5_gain_40 : decode cX5_gain 40 = .ok (.istore_n 3, 1) := by decide +kernel
theorem dX5_gain_41 : decode cX5_gain 41 = .ok (.iinc 4 1, 3) := by decide +kernel
theorem dX5_gain_44 : decode cX5_gain 44 = .ok (.goto (-39), 3) := by decide +kernel
theorem dX5_gain_47 : decode cX5_gain 47 = .ok (.iload_n 3, 1) := by decide +kernel
theorem dX5_gain_48 : decode cX5_gain 48 = .ok (.ireturn, 1) := by decide +kernel
set_option maxRecDepth 20000 in
theorem ggX5_layRounds_X5_allDebts : GoodIn wsX5_layRounds wsX5_allDebts := goodIn_r _ [8, 1, 75, 76, 77, 78, 79, 80, 81, 82, 83, 84, 85, 86, 87, 88, 89, 90, 91, 92, 93, 94, 95, 96, 97, 98, 99, 100, 101, 102, 103, 104] (by decide +kernel) (by decide +kernel)
set_option maxRecDepth 20000 in
theorem gX5_layRounds_X5_allDebts : GoodIn wsX5_layRounds (wsV RX5 220 RX5 yX5_allDebts wsX5_allDebts) := goodIn_app (goodIn_of _ (by decide +kernel)) ggX5_layRounds_X5_allDebts
set_option maxRecDepth 20000 in
theorem ggX5_layRounds_X5_has : GoodIn wsX5_layRounds wsX5_has := goodIn_r _ [11] (by decide +kernel) (by decide +kernel)
set_option maxRecDepth 20000 in
theorem gX5_layRounds_X5_has : GoodIn wsX5_layRounds (va_wsS RX5 149 yX5_has wsX5_has) := goodIn_app (goodIn_of _ (by decide +kernel)) ggX5_layRounds_X5_has
set_option maxRecDepth 20000 in
theorem ggX5_layRounds_X5_costOf : GoodIn wsX5_layRounds wsX5_costOf := goodIn_r _ [15, 16, 17, 18, 7, 19, 20, 75, 76, 77, 78, 79, 80, 81, 82, 83, 84, 85, 86, 87, 88, 89, 90, 91, 92, 93, 94, 95, 96, 97, 98, 99, 100, 101, 102, 103, 104] (by decide +kernel) (by decide +kernel)
set_option maxRecDepth 20000 in
theorem gX5_layRounds_X5_costOf : GoodIn wsX5_layRounds (wsV RX5 214 RX5 yX5_costOf wsX5_costOf) := goodIn_app (goodIn_of _ (by decide +kernel)) ggX5_layRounds_X5_costOf
set_option maxRecDepth 20000 in
theorem ggX5_layRounds_X5_spot : GoodIn wsX5_layRounds wsX5_spot := goodIn_r _ [23] (by decide +kernel) (by decide +kernel)
set_option maxRecDepth 20000 in
theorem gX5_layRounds_X5_spot : GoodIn wsX5_layRounds (va_wsS RX5 223 yX5_spot wsX5_spot) := goodIn_app (goodIn_of _ (by decide +kernel)) ggX5_layRounds_X5_spot
set_option maxRecDepth 20000 in
theorem ggX5_layRounds_X5_layMay : GoodIn wsX5_layRounds wsX5_layMay := goodIn_r _ [27, 28, 29, 30, 31, 7, 32, 1, 33, 34, 35, 36, 16, 17, 18, 19, 20, 37, 38, 39, 40, 41, 9, 10, 11, 42, 43, 44, 45, 46, 47, 48, 49, 50, 51, 52, 53, 54, 55, 56, 57, 58, 59, 60, 61, 62, 4, 5, 6, 8, 63, 64, 65, 66, 75, 76, 77, 78, 79, 80, 81, 82, 83, 84, 85, 86, 87, 88, 89, 90, 91, 92, 93, 94, 95, 96, 97, 98, 99, 100, 101, 102, 103, 104] (by decide +kernel) (by decide +kernel)
set_option maxRecDepth 20000 in
theorem gX5_layRounds_X5_layMay : GoodIn wsX5_layRounds (wsV RX5 226 RX5 yX5_layMay wsX5_layMay) := goodIn_app (goodIn_of _ (by decide +kernel)) ggX5_layRounds_X5_layMay
set_option maxRecDepth 20000 in
theorem ggX5_layRounds_X5_layBest : GoodIn wsX5_layRounds wsX5_layBest := goodIn_r _ [70, 28, 2, 3, 4, 5, 6, 7, 8, 1, 71, 72, 73, 74, 9, 10, 11, 12, 13, 14, 15, 16, 17, 18, 19, 20, 21, 22, 23, 75, 76, 77, 78, 79, 80, 81, 82, 83, 84, 85, 86, 87, 88, 89, 90, 91, 92, 93, 94, 95, 96, 97, 98, 99, 100, 101, 102, 103, 104] (by decide +kernel) (by decide +kernel)
set_option maxRecDepth 20000 in
theorem gX5_layRounds_X5_layBest : GoodIn wsX5_layRounds (wsV RX5 230 RX5 yX5_layBest wsX5_layBest) := goodIn_app (goodIn_of _ (by decide +kernel)) ggX5_layRounds_X5_layBest
theorem dX5_layRounds_0 : decode cX5_layRounds 0 = .ok (.iconst 0, 1) := by decide +kernel
theorem dX5_layRounds_1 : decode cX5_layRounds 1 = .ok (.istore_n 2, 1) := by decide +kernel
theorem dX5_layRounds_2 : decode cX5_layRounds 2 = .ok (.iload_n 2, 1) := by decide +kernel
theorem dX5_layRounds_3 : decode cX5_layRounds 3 = .ok (.aload_n 0, 1) := by decide +kernel
theorem dX5_layRounds_4 : decode cX5_layRounds 4 = .ok (.invokevirtual 220, 3) := by decide +kernel
theorem dX5_layRounds_7 : decode cX5_layRounds 7 = .ok (.if_icmp .gt 76, 3) := by decide +kernel
theorem dX5_layRounds_10 : decode cX5_layRounds 10 = .ok (.iconst 0, 1) := by decide +kernel
theorem dX5_layRounds_11 : decode cX5_layRounds 11 = .ok (.istore_n 3, 1) := by decide +kernel
theorem dX5_layRounds_12 : decode cX5_layRounds 12 = .ok (.iconst 0, 1) := by decide +kernel
theorem dX5_layRounds_13 : decode cX5_layRounds 13 = .ok (.istore 4, 2) := by decide +kernel
theorem dX5_layRounds_15 : decode cX5_layRounds 15 = .ok (.iload 4, 2) := by decide +kernel
theorem dX5_layRounds_17 : decode cX5_layRounds 17 = .ok (.aload_n 0, 1) := by decide +kernel
theorem dX5_layRounds_18 : decode cX5_layRounds 18 = .ok (.getfield 143, 3) := by decide +kernel
theorem dX5_layRounds_21 : decode cX5_layRounds 21 = .ok (.if_icmp .ge 33, 3) := by decide +kernel
theorem dX5_layRounds_24 : decode cX5_layRounds 24 = .ok (.iload_n 3, 1) := by decide +kernel
theorem dX5_layRounds_25 : decode cX5_layRounds 25 = .ok (.iload_n 2, 1) := by decide +kernel
theorem dX5_layRounds_26 : decode cX5_layRounds 26 = .ok (.iload 4, 2) := by decide +kernel
theorem dX5_layRounds_28 : decode cX5_layRounds 28 = .ok (.invokestatic 149, 3) := by decide +kernel
theorem dX5_layRounds_31 : decode cX5_layRounds 31 = .ok (.ifCond .eq 7, 3) := by decide +kernel
theorem dX5_layRounds_34 : decode cX5_layRounds 34 = .ok (.iconst 0, 1) := by decide +kernel
theorem dX5_layRounds_35 : decode cX5_layRounds 35 = .ok (.goto 11, 3) := by decide +kernel
theorem dX5_layRounds_38 : decode cX5_layRounds 38 = .ok (.aload_n 0, 1) := by decide +kernel
theorem dX5_layRounds_39 : decode cX5_layRounds 39 = .ok (.iload 4, 2) := by decide +kernel
theorem dX5_layRounds_41 : decode cX5_layRounds 41 = .ok (.bipush 12, 2) := by decide +kernel
theorem dX5_layRounds_43 : decode cX5_layRounds 43 = .ok (.invokevirtual 214, 3) := by decide +kernel
theorem dX5_layRounds_46 : decode cX5_layRounds 46 = .ok (.iadd, 1) := by decide +kernel
theorem dX5_layRounds_47 : decode cX5_layRounds 47 = .ok (.istore_n 3, 1) := by decide +kernel
theorem dX5_layRounds_48 : decode cX5_layRounds 48 = .ok (.iinc 4 1, 3) := by decide +kernel
theorem dX5_layRounds_51 : decode cX5_layRounds 51 = .ok (.goto (-36), 3) := by decide +kernel
theorem dX5_layRounds_54 : decode cX5_layRounds 54 = .ok (.aload_n 0, 1) := by decide +kernel
theorem dX5_layRounds_55 : decode cX5_layRounds 55 = .ok (.getfield 44, 3) := by decide +kernel
theorem dX5_layRounds_58 : decode cX5_layRounds 58 = .ok (.iload_n 1, 1) := by decide +kernel
theorem dX5_layRounds_59 : decode cX5_layRounds 59 = .ok (.iload_n 2, 1) := by decide +kernel
theorem dX5_layRounds_60 : decode cX5_layRounds 60 = .ok (.invokestatic 223, 3) := by decide +kernel
theorem dX5_layRounds_63 : decode cX5_layRounds 63 = .ok (.iload_n 3, 1) := by decide +kernel
theorem dX5_layRounds_64 : decode cX5_layRounds 64 = .ok (.ineg, 1) := by decide +kernel
theorem dX5_layRounds_65 : decode cX5_layRounds 65 = .ok (.iastore, 1) := by decide +kernel
theorem dX5_layRounds_66 : decode cX5_layRounds 66 = .ok (.aload_n 0, 1) := by decide +kernel
theorem dX5_layRounds_67 : decode cX5_layRounds 67 = .ok (.getfield 47, 3) := by decide +kernel
theorem dX5_layRounds_70 : decode cX5_layRounds 70 = .ok (.iload_n 1, 1) := by decide +kernel
theorem dX5_layRounds_71 : decode cX5_layRounds 71 = .ok (.iload_n 2, 1) := by decide +kernel
theorem dX5_layRounds_72 : decode cX5_layRounds 72 = .ok (.invokestatic 223, 3) := by decide +kernel
theorem dX5_layRounds_75 : decode cX5_layRounds 75 = .ok (.lconst 1, 1) := by decide +kernel
theorem dX5_layRounds_76 : decode cX5_layRounds 76 = .ok (.lastore, 1) := by decide +kernel
theorem dX5_layRounds_77 : decode cX5_layRounds 77 = .ok (.iinc 2 1, 3) := by decide +kernel
theorem dX5_layRounds_80 : decode cX5_layRounds 80 = .ok (.goto (-78), 3) := by decide +kernel
theorem dX5_layRounds_83 : decode cX5_layRounds 83 = .ok (.iload_n 1, 1) := by decide +kernel
theorem dX5_layRounds_84 : decode cX5_layRounds 84 = .ok (.iconst 1, 1) := by decide +kernel
theorem dX5_layRounds_85 : decode cX5_layRounds 85 = .ok (.isub, 1) := by decide +kernel
theorem dX5_layRounds_86 : decode cX5_layRounds 86 = .ok (.istore_n 2, 1) := by decide +kernel
theorem dX5_layRounds_87 : decode cX5_layRounds 87 = .ok (.iload_n 2, 1) := by decide +kernel
theorem dX5_layRounds_88 : decode cX5_layRounds 88 = .ok (.ifCond .lt 36, 3) := by decide +kernel
theorem dX5_layRounds_91 : decode cX5_layRounds 91 = .ok (.aload_n 0, 1) := by decide +kernel
theorem dX5_layRounds_92 : decode cX5_layRounds 92 = .ok (.iload_n 2, 1) := by decide +kernel
theorem dX5_layRounds_93 : decode cX5_layRounds 93 = .ok (.invokevirtual 226, 3) := by decide +kernel
theorem dX5_layRounds_96 : decode cX5_layRounds 96 = .ok (.iconst 0, 1) := by decide +kernel
theorem dX5_layRounds_97 : decode cX5_layRounds 97 = .ok (.istore_n 3, 1) := by decide +kernel
theorem dX5_layRounds_98 : decode cX5_layRounds 98 = .ok (.iload_n 3, 1) := by decide +kernel
theorem dX5_layRounds_99 : decode cX5_layRounds 99 = .ok (.aload_n 0, 1) := by decide +kernel
theorem dX5_layRounds_100 : decode cX5_layRounds 100 = .ok (.invokevirtual 220, 3) := by decide +kernel
theorem dX5_layRounds_103 : decode cX5_layRounds 103 = .ok (.if_icmp .gt 15, 3) := by decide +kernel
theorem dX5_layRounds_106 : decode cX5_layRounds 106 = .ok (.aload_n 0, 1) := by decide +kernel
theorem dX5_layRounds_107 : decode cX5_layRounds 107 = .ok (.iload_n 2, 1) := by decide +kernel
theorem dX5_layRounds_108 : decode cX5_layRounds 108 = .ok (.iload_n 3, 1) := by decide +kernel
theorem dX5_layRounds_109 : decode cX5_layRounds 109 = .ok (.invokevirtual 230, 3) := by decide +kernel
theorem dX5_layRounds_112 : decode cX5_layRounds 112 = .ok (.iinc 3 1, 3) := by decide +kernel
theorem dX5_layRounds_115 : decode cX5_layRounds 115 = .ok (.goto (-17), 3) := by decide +kernel
theorem dX5_layRounds_118 : decode cX5_layRounds 118 = .ok (.iinc 2 (-1), 3) := by decide +kernel
theorem dX5_layRounds_121 : decode cX5_layRounds 121 = .ok (.goto (-34), 3) := by decide +kernel
theorem dX5_layRounds_124 : decode cX5_layRounds 124 = .ok (.return_, 1) := by decide +kernel
set_option maxRecDepth 20000 in
theorem ggX5_layBest_X5_allDebts : GoodIn wsX5_layBest wsX5_allDebts := goodIn_r _ [8, 9, 29, 30, 31, 32, 33, 34, 35, 36, 37, 38, 39, 40, 41, 42, 43, 44, 45, 46, 47, 48, 49, 50, 51, 52, 53, 54, 55, 56, 57, 58] (by decide +kernel) (by decide +kernel)
set_option maxRecDepth 20000 in
theorem gX5_layBest_X5_allDebts : GoodIn wsX5_layBest (wsV RX5 220 RX5 yX5_allDebts wsX5_allDebts) := goodIn_app (goodIn_of _ (by decide +kernel)) ggX5_layBest_X5_allDebts
set_option maxRecDepth 20000 in
theorem ggX5_layBest_X5_gain : GoodIn wsX5_layBest wsX5_gain := goodIn_r _ [13, 9, 14, 15, 7, 16, 17, 18, 19, 20, 21, 22, 23, 24, 25, 29, 30, 31, 32, 33, 34, 35, 36, 37, 38, 39, 40, 41, 42, 43, 44, 45, 46, 47, 48, 49, 50, 51, 52, 53, 54, 55, 56, 57, 58] (by decide +kernel) (by decide +kernel)
set_option maxRecDepth 20000 in
theorem gX5_layBest_X5_gain : GoodIn wsX5_layBest (wsV RX5 234 RX5 yX5_gain wsX5_gain) := goodIn_app (goodIn_of _ (by decide +kernel)) ggX5_layBest_X5_gain
set_option maxRecDepth 20000 in
theorem ggX5_layBest_X5_spot : GoodIn wsX5_layBest wsX5_spot := goodIn_r _ [28] (by decide +kernel) (by decide +kernel)
set_option maxRecDepth 20000 in
theorem gX5_layBest_X5_spot : GoodIn wsX5_layBest (va_wsS RX5 223 yX5_spot wsX5_spot) := goodIn_app (goodIn_of _ (by decide +kernel)) ggX5_layBest_X5_spot
theorem dX5_layBest_0 : decode cX5_layBest 0 = .ok (.aload_n 0, 1) := by decide +kernel
theorem dX5_layBest_1 : decode cX5_layBest 1 = .ok (.invokevirtual 220, 3) := by decide +kernel
theorem dX5_layBest_4 : decode cX5_layBest 4 = .ok (.iload_n 2, 1) := by decide +kernel
theorem dX5_layBest_5 : decode cX5_layBest 5 = .ok (.iconst (-1), 1) := by decide +kernel
theorem dX5_layBest_6 : decode cX5_layBest 6 = .ok (.ixor, 1) := by decide +kernel
theorem dX5_layBest_7 : decode cX5_layBest 7 = .ok (.iand, 1) := by decide +kernel
theorem dX5_layBest_8 : decode cX5_layBest 8 = .ok (.istore_n 3, 1) := by decide +kernel
theorem dX5_layBest_9 : decode cX5_layBest 9 = .ok (.iconst 0, 1) := by decide +kernel
theorem dX5_layBest_10 : decode cX5_layBest 10 = .ok (.istore 4, 2) := by decide +kernel
theorem dX5_layBest_12 : decode cX5_layBest 12 = .ok (.lconst 0, 1) := by decide +kernel
theorem dX5_layBest_13 : decode cX5_layBest 13 = .ok (.lstore 5, 2) := by decide +kernel
theorem dX5_layBest_15 : decode cX5_layBest 15 = .ok (.iload_n 3, 1) := by decide +kernel
theorem dX5_layBest_16 : decode cX5_layBest 16 = .ok (.istore 7, 2) := by decide +kernel
theorem dX5_layBest_18 : decode cX5_layBest 18 = .ok (.iload 7, 2) := by decide +kernel
theorem dX5_layBest_20 : decode cX5_layBest 20 = .ok (.ifCond .lt 110, 3) := by decide +kernel
theorem dX5_layBest_23 : decode cX5_layBest 23 = .ok (.aload_n 0, 1) := by decide +kernel
theorem dX5_layBest_24 : decode cX5_layBest 24 = .ok (.getfield 51, 3) := by decide +kernel
theorem dX5_layBest_27 : decode cX5_layBest 27 = .ok (.iload 7, 2) := by decide +kernel
theorem dX5_layBest_29 : decode cX5_layBest 29 = .ok (.baload, 1) := by decide +kernel
theorem dX5_layBest_30 : decode cX5_layBest 30 = .ok (.ifCond .eq 80, 3) := by decide +kernel
theorem dX5_layBest_33 : decode cX5_layBest 33 = .ok (.aload_n 0, 1) := by decide +kernel
theorem dX5_layBest_34 : decode cX5_layBest 34 = .ok (.iload 7, 2) := by decide +kernel
theorem dX5_layBest_36 : decode cX5_layBest 36 = .ok (.iload_n 1, 1) := by decide +kernel
theorem dX5_layBest_37 : decode cX5_layBest 37 = .ok (.invokevirtual 234, 3) := by decide +kernel
theorem dX5_layBest_40 : decode cX5_layBest 40 = .ok (.aload_n 0, 1) := by decide +kernel
theorem dX5_layBest_41 : decode cX5_layBest 41 = .ok (.getfield 44, 3) := by decide +kernel
theorem dX5_layBest_44 : decode cX5_layBest 44 = .ok (.iload_n 1, 1) := by decide +kernel
theorem dX5_layBest_45 : decode cX5_layBest 45 = .ok (.iconst 1, 1) := by decide +kernel
theorem dX5_layBest_46 : decode cX5_layBest 46 = .ok (.iadd, 1) := by decide +kernel
theorem dX5_layBest_47 : decode cX5_layBest 47 = .ok (.iload_n 2, 1) := by decide +kernel
theorem dX5_layBest_48 : decode cX5_layBest 48 = .ok (.iload 7, 2) := by decide +kernel
theorem dX5_layBest_50 : decode cX5_layBest 50 = .ok (.ior, 1) := by decide +kernel
theorem dX5_layBest_51 : decode cX5_layBest 51 = .ok (.invokestatic 223, 3) := by decide +kernel
theorem dX5_layBest_54 : decode cX5_layBest 54 = .ok (.iaload, 1) := by decide +kernel
theorem dX5_layBest_55 : decode cX5_layBest 55 = .ok (.iadd, 1) := by decide +kernel
theorem dX5_layBest_56 : decode cX5_layBest 56 = .ok (.istore 8, 2) := by decide +kernel
theorem dX5_layBest_58 : decode cX5_layBest 58 = .ok (.lload 5, 2) := by decide +kernel
theorem dX5_layBest_60 : decode cX5_layBest 60 = .ok (.lconst 0, 1) := by decide +kernel
theorem dX5_layBest_61 : decode cX5_layBest 61 = .ok (.lcmp, 1) := by decide +kernel
theorem dX5_layBest_62 : decode cX5_layBest 62 = .ok (.ifCond .eq 10, 3) := by decide +kernel
theorem dX5_layBest_65 : decode cX5_layBest 65 = .ok (.iload 8, 2) := by decide +kernel
theorem dX5_layBest_67 : decode cX5_layBest 67 = .ok (.iload 4, 2) := by decide +kernel
theorem dX5_layBest_69 : decode cX5_layBest 69 = .ok (.if_icmp .le 10, 3) := by decide +kernel
theorem dX5_layBest_72 : decode cX5_layBest 72 = .ok (.iload 8, 2) := by decide +kernel
theorem dX5_layBest_74 : decode cX5_layBest 74 = .ok (.istore 4, 2) := by decide +kernel
theorem dX5_layBest_76 : decode cX5_layBest 76 = .ok (.lconst 0, 1) := by decide +kernel
theorem dX5_layBest_77 : decode cX5_layBest 77 = .ok (.lstore 5, 2) := by decide +kernel
theorem dX5_layBest_79 : decode cX5_layBest 79 = .ok (.lload 5, 2) := by decide +kernel
theorem dX5_layBest_81 : decode cX5_layBest 81 = .ok (.iload 8, 2) := by decide +kernel
theorem dX5_layBest_83 : decode cX5_layBest 83 = .ok (.iload 4, 2) := by decide +kernel
theorem dX5_layBest_85 : decode cX5_layBest 85 = .ok (.if_icmp .ne 21, 3) := by decide +kernel
theorem dX5_layBest_88 : decode cX5_layBest 88 = .ok (.aload_n 0, 1) := by decide +kernel
theorem dX5_layBest_89 : decode cX5_layBest 89 = .ok (.getfield 47, 3) := by decide +kernel
theorem dX5_layBest_92 : decode cX5_layBest 92 = .ok (.iload_n 1, 1) := by decide +kernel
theorem dX5_layBest_93 : decode cX5_layBest 93 = .ok (.iconst 1, 1) := by decide +kernel
theorem dX5_layBest_94 : decode cX5_layBest 94 = .ok (.iadd, 1) := by decide +kernel
theorem dX5_layBest_95 : decode cX5_layBest 95 = .ok (.iload_n 2, 1) := by decide +kernel
theorem dX5_layBest_96 : decode cX5_layBest 96 = .ok (.iload 7, 2) := by decide +kernel
theorem dX5_layBest_98 : decode cX5_layBest 98 = .ok (.ior, 1) := by decide +kernel
theorem dX5_layBest_99 : decode cX5_layBest 99 = .ok (.invokestatic 223, 3) := by decide +kernel
theorem dX5_layBest_102 : decode cX5_layBest 102 = .ok (.laload, 1) := by decide +kernel
theorem dX5_layBest_103 : decode cX5_layBest 103 = .ok (.goto 4, 3) := by decide +kernel
theorem dX5_layBest_106 : decode cX5_layBest 106 = .ok (.lconst 0, 1) := by decide +kernel
theorem dX5_layBest_107 : decode cX5_layBest 107 = .ok (.ladd, 1) := by decide +kernel
theorem dX5_layBest_108 : decode cX5_layBest 108 = .ok (.lstore 5, 2) := by decide +kernel
theorem dX5_layBest_110 : decode cX5_layBest 110 = .ok (.iload 7, 2) := by decide +kernel
theorem dX5_layBest_112 : decode cX5_layBest 112 = .ok (.ifCond .ne 7, 3) := by decide +kernel
theorem dX5_layBest_115 : decode cX5_layBest 115 = .ok (.iconst (-1), 1) := by decide +kernel
theorem dX5_layBest_116 : decode cX5_layBest 116 = .ok (.goto 9, 3) := by decide +kernel
theorem dX5_layBest_119 : decode cX5_layBest 119 = .ok (.iload 7, 2) := by decide +kernel
theorem dX5_layBest_121 : decode cX5_layBest 121 = .ok (.iconst 1, 1) := by decide +kernel
theorem dX5_layBest_122 : decode cX5_layBest 122 = .ok (.isub, 1) := by decide +kernel
theorem dX5_layBest_123 : decode cX5_layBest 123 = .ok (.iload_n 3, 1) := by decide +kernel
theorem dX5_layBest_124 : decode cX5_layBest 124 = .ok (.iand, 1) := by decide +kernel
theorem dX5_layBest_125 : decode cX5_layBest 125 = .ok (.istore 7, 2) := by decide +kernel
theorem dX5_layBest_127 : decode cX5_layBest 127 = .ok (.goto (-109), 3) := by decide +kernel
theorem dX5_layBest_130 : decode cX5_layBest 130 = .ok (.aload_n 0, 1) := by decide +kernel
theorem dX5_layBest_131 : decode cX5_layBest 131 = .ok (.getfield 44, 3) := by decide +kernel
theorem dX5_layBest_134 : decode cX5_layBest 134 = .ok (.iload_n 1, 1) := by decide +kernel
theorem dX5_layBest_135 : decode cX5_layBest 135 = .ok (.iload_n 2, 1) := by decide +kernel
theorem dX5_layBest_136 : decode cX5_layBest 136 = .ok (.invokestatic 223, 3) := by decide +kernel
theorem dX5_layBest_139 : decode cX5_layBest 139 = .ok (.iload 4, 2) := by decide +kernel
theorem dX5_layBest_141 : decode cX5_layBest 141 = .ok (.iastore, 1) := by decide +kernel
theorem dX5_layBest_142 : decode cX5_layBest 142 = .ok (.aload_n 0, 1) := by decide +kernel
theorem dX5_layBest_143 : decode cX5_layBest 143 = .ok (.getfield 47, 3) := by decide +kernel
theorem dX5_layBest_146 : decode cX5_layBest 146 = .ok (.iload_n 1, 1) := by decide +kernel
theorem dX5_layBest_147 : decode cX5_layBest 147 = .ok (.iload_n 2, 1) := by decide +kernel
theorem dX5_layBest_148 : decode cX5_layBest 148 = .ok (.invokestatic 223, 3) := by decide +kernel
theorem dX5_layBest_151 : decode cX5_layBest 151 = .ok (.lload 5, 2) := by decide +kernel
theorem dX5_layBest_153 : decode cX5_layBest 153 = .ok (.lastore, 1) := by decide +kernel
theorem dX5_layBest_154 : decode cX5_layBest 154 = .ok (.return_, 1) := by decide +kernel
theorem dX5_paidMany_0 : decode cX5_paidMany 0 = .ok (.aload_n 0, 1) := by decide +kernel
theorem dX5_paidMany_1 : decode cX5_paidMany 1 = .ok (.getfield 44, 3) := by decide +kernel
theorem dX5_paidMany_4 : decode cX5_paidMany 4 = .ok (.iconst 0, 1) := by decide +kernel
theorem dX5_paidMany_5 : decode cX5_paidMany 5 = .ok (.iaload, 1) := by decide +kernel
theorem dX5_paidMany_6 : decode cX5_paidMany 6 = .ok (.istore_n 1, 1) := by decide +kernel
theorem dX5_paidMany_7 : decode cX5_paidMany 7 = .ok (.iload_n 1, 1) := by decide +kernel
theorem dX5_paidMany_8 : decode cX5_paidMany 8 = .ok (.ifCond .gt 7, 3) := by decide +kernel
theorem dX5_paidMany_11 : decode cX5_paidMany 11 = .ok (.iconst 0, 1) := by decide +kernel
theorem dX5_paidMany_12 : decode cX5_paidMany 12 = .ok (.goto 14, 3) := by decide +kernel
theorem dX5_paidMany_15 : decode cX5_paidMany 15 = .ok (.iload_n 1, 1) := by decide +kernel
theorem dX5_paidMany_16 : decode cX5_paidMany 16 = .ok (.sipush 10000, 3) := by decide +kernel
theorem dX5_paidMany_19 : decode cX5_paidMany 19 = .ok (.iadd, 1) := by decide +kernel
theorem dX5_paidMany_20 : decode cX5_paidMany 20 = .ok (.iconst 1, 1) := by decide +kernel
theorem dX5_paidMany_21 : decode cX5_paidMany 21 = .ok (.isub, 1) := by decide +kernel
theorem dX5_paidMany_22 : decode cX5_paidMany 22 = .ok (.sipush 10000, 3) := by decide +kernel
theorem dX5_paidMany_25 : decode cX5_paidMany 25 = .ok (.idiv, 1) := by decide +kernel
theorem dX5_paidMany_26 : decode cX5_paidMany 26 = .ok (.ireturn, 1) := by decide +kernel
set_option maxRecDepth 20000 in
theorem ggX5_bestCost_X5_paidMany : GoodIn wsX5_bestCost wsX5_paidMany := goodIn_r _ [6, 1, 7, 8, 9, 10, 11, 12, 13, 14, 15, 16, 17, 18, 19, 20, 21, 22, 23, 24, 25, 26, 27, 28, 29, 30, 31, 32, 33, 34, 35, 36] (by decide +kernel) (by decide +kernel)
set_option maxRecDepth 20000 in
theorem gX5_bestCost_X5_paidMany : GoodIn wsX5_bestCost (wsV RX5 237 RX5 yX5_paidMany wsX5_paidMany) := goodIn_app (goodIn_of _ (by decide +kernel)) ggX5_bestCost_X5_paidMany
theorem dX5_bestCost_0 : decode cX5_bestCost 0 = .ok (.sipush 10000, 3) := by decide +kernel
theorem dX5_bestCost_3 : decode cX5_bestCost 3 = .ok (.aload_n 0, 1) := by decide +kernel
theorem dX5_bestCost_4 : decode cX5_bestCost 4 = .ok (.invokevirtual 237, 3) := by decide +kernel
theorem dX5_bestCost_7 : decode cX5_bestCost 7 = .ok (.imul, 1) := by decide +kernel
theorem dX5_bestCost_8 : decode cX5_bestCost 8 = .ok (.aload_n 0, 1) := by decide +kernel
theorem dX5_bestCost_9 : decode cX5_bestCost 9 = .ok (.getfield 44, 3) := by decide +kernel
theorem dX5_bestCost_12 : decode cX5_bestCost 12 = .ok (.iconst 0, 1) := by decide +kernel
theorem dX5_bestCost_13 : decode cX5_bestCost 13 = .ok (.iaload, 1) := by decide +kernel
theorem dX5_bestCost_14 : decode cX5_bestCost 14 = .ok (.isub, 1) := by decide +kernel
theorem dX5_bestCost_15 : decode cX5_bestCost 15 = .ok (.ireturn, 1) := by decide +kernel
set_option maxRecDepth 20000 in
theorem ggX5_layRound_X5_layRounds : GoodIn wsX5_layRound wsX5_layRounds := goodIn_r _ [9, 1, 4, 10, 11, 12, 13, 8, 14, 15, 16, 17, 18, 19, 20, 21, 22, 23, 24, 25, 26, 27, 28, 29, 30, 31, 32, 33, 3, 34, 35, 36, 37, 38, 39, 40, 41, 42, 43, 44, 45, 46, 47, 48, 49, 50, 51, 52, 53, 54, 55, 56, 57, 58, 59, 60, 61, 62, 63, 64, 65, 66, 67, 68, 69, 70, 71, 72, 73, 74, 75, 76, 77, 78, 79, 80, 81, 82, 83, 84, 85, 86, 87, 88, 89, 90, 91, 92, 93, 94, 95, 96, 97, 98, 99, 100, 101, 102, 103, 104, 105, 106, 107, 108, 109] (by decide +kernel) (by decide +kernel)
set_option maxRecDepth 20000 in
theorem gX5_layRound_X5_layRounds : GoodIn wsX5_layRound (wsV RX5 240 RX5 yX5_layRounds wsX5_layRounds) := goodIn_app (goodIn_of _ (by decide +kernel)) ggX5_layRound_X5_layRounds
set_option maxRecDepth 20000 in
theorem ggX5_layRound_X5_layMay : GoodIn wsX5_layRound wsX5_layMay := goodIn_r _ [33, 3, 34, 35, 36, 8, 37, 1, 38, 39, 40, 41, 22, 23, 24, 25, 26, 42, 43, 44, 45, 46, 15, 16, 17, 47, 48, 49, 50, 51, 52, 53, 54, 55, 56, 57, 58, 59, 60, 61, 62, 63, 64, 65, 66, 67, 11, 12, 13, 14, 68, 69, 70, 71, 80, 81, 82, 83, 84, 85, 86, 87, 88, 89, 90, 91, 92, 93, 94, 95, 96, 97, 98, 99, 100, 101, 102, 103, 104, 105, 106, 107, 108, 109] (by decide +kernel) (by decide +kernel)
set_option maxRecDepth 20000 in
theorem gX5_layRound_X5_layMay : GoodIn wsX5_layRound (wsV RX5 226 RX5 yX5_layMay wsX5_layMay) := goodIn_app (goodIn_of _ (by decide +kernel)) ggX5_layRound_X5_layMay
set_option maxRecDepth 20000 in
theorem ggX5_layRound_X5_gain : GoodIn wsX5_layRound wsX5_gain := goodIn_r _ [79, 1, 15, 16, 8, 17, 18, 19, 20, 21, 22, 23, 24, 25, 26, 80, 81, 82, 83, 84, 85, 86, 87, 88, 89, 90, 91, 92, 93, 94, 95, 96, 97, 98, 99, 100, 101, 102, 103, 104, 105, 106, 107, 108, 109] (by decide +kernel) (by decide +kernel)
set_option maxRecDepth 20000 in
theorem gX5_layRound_X5_gain : GoodIn wsX5_layRound (wsV RX5 234 RX5 yX5_gain wsX5_gain) := goodIn_app (goodIn_of _ (by decide +kernel)) ggX5_layRound_X5_gain
set_option maxRecDepth 20000 in
theorem ggX5_layRound_X5_spot : GoodIn wsX5_layRound wsX5_spot := goodIn_r _ [29] (by decide +kernel) (by decide +kernel)
set_option maxRecDepth 20000 in
theorem gX5_layRound_X5_spot : GoodIn wsX5_layRound (va_wsS RX5 223 yX5_spot wsX5_spot) := goodIn_app (goodIn_of _ (by decide +kernel)) ggX5_layRound_X5_spot
set_option maxRecDepth 20000 in
theorem ggX5_layRound_X5_has : GoodIn wsX5_layRound wsX5_has := goodIn_r _ [17] (by decide +kernel) (by decide +kernel)
set_option maxRecDepth 20000 in
theorem gX5_layRound_X5_has : GoodIn wsX5_layRound (va_wsS RX5 149 yX5_has wsX5_has) := goodIn_app (goodIn_of _ (by decide +kernel)) ggX5_layRound_X5_has
theorem dX5_layRound_0 : decode cX5_layRound 0 = .ok (.aload_n 0, 1) := by decide +kernel
theorem dX5_layRound_1 : decode cX5_layRound 1 = .ok (.bipush 12, 2) := by decide +kernel
theorem dX5_layRound_3 : decode cX5_layRound 3 = .ok (.invokevirtual 240, 3) := by decide +kernel
theorem dX5_layRound_6 : decode cX5_layRound 6 = .ok (.iconst 0, 1) := by decide +kernel
theorem dX5_layRound_7 : decode cX5_layRound 7 = .ok (.istore_n 1, 1) := by decide +kernel
theorem dX5_layRound_8 : decode cX5_layRound 8 = .ok (.iload_n 1, 1) := by decide +kernel
theorem dX5_layRound_9 : decode cX5_layRound 9 = .ok (.aload_n 0, 1) := by decide +kernel
theorem dX5_layRound_10 : decode cX5_layRound 10 = .ok (.getfield 143, 3) := by decide +kernel
theorem dX5_layRound_13 : decode cX5_layRound 13 = .ok (.if_icmp .ge 17, 3) := by decide +kernel
theorem dX5_layRound_16 : decode cX5_layRound 16 = .ok (.aload_n 0, 1) := by decide +kernel
theorem dX5_layRound_17 : decode cX5_layRound 17 = .ok (.getfield 41, 3) := by decide +kernel
theorem dX5_layRound_20 : decode cX5_layRound 20 = .ok (.iload_n 1, 1) := by decide +kernel
theorem dX5_layRound_21 : decode cX5_layRound 21 = .ok (.bipush (-9), 2) := by decide +kernel
theorem dX5_layRound_23 : decode cX5_layRound 23 = .ok (.iastore, 1) := by decide +kernel
theorem dX5_layRound_24 : decode cX5_layRound 24 = .ok (.iinc 1 1, 3) := by decide +kernel
theorem dX5_layRound_27 : decode cX5_layRound 27 = .ok (.goto (-19), 3) := by decide +kernel
theorem dX5_layRound_30 : decode cX5_layRound 30 = .ok (.iconst 0, 1) := by decide +kernel
theorem dX5_layRound_31 : decode cX5_layRound 31 = .ok (.istore_n 1, 1) := by decide +kernel
theorem dX5_layRound_32 : decode cX5_layRound 32 = .ok (.iconst 0, 1) := by decide +kernel
theorem dX5_layRound_33 : decode cX5_layRound 33 = .ok (.istore_n 2, 1) := by decide +kernel
theorem dX5_layRound_34 : decode cX5_layRound 34 = .ok (.iload_n 2, 1) := by decide +kernel
theorem dX5_layRound_35 : decode cX5_layRound 35 = .ok (.bipush 12, 2) := by decide +kernel
theorem dX5_layRound_37 : decode cX5_layRound 37 = .ok (.if_icmp .ge 120, 3) := by decide +kernel
theorem dX5_layRound_40 : decode cX5_layRound 40 = .ok (.aload_n 0, 1) := by decide +kernel
theorem dX5_layRound_41 : decode cX5_layRound 41 = .ok (.iload_n 2, 1) := by decide +kernel
theorem dX5_layRound_42 : decode cX5_layRound 42 = .ok (.invokevirtual 226, 3) := by decide +kernel
theorem dX5_layRound_45 : decode cX5_layRound 45 = .ok (.iconst 0, 1) := by decide +kernel
theorem dX5_layRound_46 : decode cX5_layRound 46 = .ok (.istore_n 3, 1) := by decide +kernel
theorem dX5_layRound_47 : decode cX5_layRound 47 = .ok (.iload_n 3, 1) := by decide +kernel
theorem dX5_layRound_48 : decode cX5_layRound 48 = .ok (.iload_n 1, 1) := by decide +kernel
theorem dX5_layRound_49 : decode cX5_layRound 49 = .ok (.iand, 1) := by decide +kernel
theorem dX5_layRound_50 : decode cX5_layRound 50 = .ok (.ifCond .ne 46, 3) := by decide +kernel
theorem dX5_layRound_53 : decode cX5_layRound 53 = .ok (.aload_n 0, 1) := by decide +kernel
theorem dX5_layRound_54 : decode cX5_layRound 54 = .ok (.getfield 51, 3) := by decide +kernel
theorem dX5_layRound_57 : decode cX5_layRound 57 = .ok (.iload_n 3, 1) := by decide +kernel
theorem dX5_layRound_58 : decode cX5_layRound 58 = .ok (.baload, 1) := by decide +kernel
theorem dX5_layRound_59 : decode cX5_layRound 59 = .ok (.ifCond .eq 37, 3) := by decide +kernel
theorem dX5_layRound_62 : decode cX5_layRound 62 = .ok (.aload_n 0, 1) := by decide +kernel
theorem dX5_layRound_63 : decode cX5_layRound 63 = .ok (.iload_n 3, 1) := by decide +kernel
theorem dX5_layRound_64 : decode cX5_layRound 64 = .ok (.iload_n 2, 1) := by decide +kernel
theorem dX5_layRound_65 : decode cX5_layRound 65 = .ok (.invokevirtual 234, 3) := by decide +kernel
theorem dX5_layRound_68 : decode cX5_layRound 68 = .ok (.aload_n 0, 1) := by decide +kernel
theorem dX5_layRound_69 : decode cX5_layRound 69 = .ok (.getfield 44, 3) := by decide +kernel
theorem dX5_layRound_72 : decode cX5_layRound 72 = .ok (.iload_n 2, 1) := by decide +kernel
theorem dX5_layRound_73 : decode cX5_layRound 73 = .ok (.iconst 1, 1) := by decide +kernel
theorem dX5_layRound_74 : decode cX5_layRound 74 = .ok (.iadd, 1) := by decide +kernel
theorem dX5_layRound_75 : decode cX5_layRound 75 = .ok (.iload_n 1, 1) := by decide +kernel
theorem dX5_layRound_76 : decode cX5_layRound 76 = .ok (.iload_n 3, 1) := by decide +kernel
theorem dX5_layRound_77 : decode cX5_layRound 77 = .ok (.ior, 1) := by decide +kernel
theorem dX5_layRound_78 : decode cX5_layRound 78 = .ok (.invokestatic 223, 3) := by decide +kernel
theorem dX5_layRound_81 : decode cX5_layRound 81 = .ok (.iaload, 1) := by decide +kernel
theorem dX5_layRound_82 : decode cX5_layRound 82 = .ok (.iadd, 1) := by decide +kernel
theorem dX5_layRound_83 : decode cX5_layRound 83 = .ok (.aload_n 0, 1) := by decide +kernel
theorem dX5_layRound_84 : decode cX5_layRound 84 = .ok (.getfield 44, 3) := by decide +kernel
theorem dX5_layRound_87 : decode cX5_layRound 87 = .ok (.iload_n 2, 1) := by decide +kernel
theorem dX5_layRound_88 : decode cX5_layRound 88 = .ok (.iload_n 1, 1) := by decide +kernel
theorem dX5_layRound_89 : decode cX5_layRound 89 = .ok (.invokestatic 223, 3) := by decide +kernel
theorem dX5_layRound_92 : decode cX5_layRound 92 = .ok (.iaload, 1) := by decide +kernel
theorem dX5_layRound_93 : decode cX5_layRound 93 = .ok (.if_icmp .eq 9, 3) := by decide +kernel
theorem dX5_layRound_96 : decode cX5_layRound 96 = .ok (.iinc 3 1, 3) := by decide +kernel
theorem dX5_layRound_99 : decode cX5_layRound 99 = .ok (.goto (-52), 3) := by decide +kernel
theorem dX5_layRound_102 : decode cX5_layRound 102 = .ok (.iconst 0, 1) := by decide +kernel
theorem dX5_layRound_103 : decode cX5_layRound 103 = .ok (.istore 4, 2) := by decide +kernel
theorem dX5_layRound_105 : decode cX5_layRound 105 = .ok (.iload 4, 2) := by decide +kernel
theorem dX5_layRound_107 : decode cX5_layRound 107 = .ok (.aload_n 0, 1) := by decide +kernel
theorem dX5_layRound_108 : decode cX5_layRound 108 = .ok (.getfield 143, 3) := by decide +kernel
theorem dX5_layRound_111 : decode cX5_layRound 111 = .ok (.if_icmp .ge 36, 3) := by decide +kernel
theorem dX5_layRound_114 : decode cX5_layRound 114 = .ok (.aload_n 0, 1) := by decide +kernel
theorem dX5_layRound_115 : decode cX5_layRound 115 = .ok (.getfield 41, 3) := by decide +kernel
theorem dX5_layRound_118 : decode cX5_layRound 118 = .ok (.iload 4, 2) := by decide +kernel
theorem dX5_layRound_120 : decode cX5_layRound 120 = .ok (.iload_n 3, 1) := by decide +kernel
theorem dX5_layRound_121 : decode cX5_layRound 121 = .ok (.iload 4, 2) := by decide +kernel
theorem dX5_layRound_123 : decode cX5_layRound 123 = .ok (.invokestatic 149, 3) := by decide +kernel
theorem dX5_layRound_126 : decode cX5_layRound 126 = .ok (.ifCond .eq 7, 3) := by decide +kernel
theorem dX5_layRound_129 : decode cX5_layRound 129 = .ok (.iload_n 2, 1) := by decide +kernel
theorem dX5_layRound_130 : decode cX5_layRound 130 = .ok (.goto 10, 3) := by decide +kernel
theorem dX5_layRound_133 : decode cX5_layRound 133 = .ok (.aload_n 0, 1) := by decide +kernel
theorem dX5_layRound_134 : decode cX5_layRound 134 = .ok (.getfield 41, 3) := by decide +kernel
theorem dX5_layRound_137 : decode cX5_layRound 137 = .ok (.iload 4, 2) := by decide +kernel
theorem dX5_layRound_139 : decode cX5_layRound 139 = .ok (.iaload, 1) := by decide +kernel
theorem dX5_layRound_140 : decode cX5_layRound 140 = .ok (.iastore, 1) := by decide +kernel
theorem dX5_layRound_141 : decode cX5_layRound 141 = .ok (.iinc 4 1, 3) := by decide +kernel
theorem dX5_layRound_144 : decode cX5_layRound 144 = .ok (.goto (-39), 3) := by decide +kernel
theorem dX5_layRound_147 : decode cX5_layRound 147 = .ok (.iload_n 1, 1) := by decide +kernel
theorem dX5_layRound_148 : decode cX5_layRound 148 = .ok (.iload_n 3, 1) := by decide +kernel
theorem dX5_layRound_149 : decode cX5_layRound 149 = .ok (.ior, 1) := by decide +kernel
theorem dX5_layRound_150 : decode cX5_layRound 150 = .ok (.istore_n 1, 1) := by decide +kernel
theorem dX5_layRound_151 : decode cX5_layRound 151 = .ok (.iinc 2 1, 3) := by decide +kernel
theorem dX5_layRound_154 : decode cX5_layRound 154 = .ok (.goto (-120), 3) := by decide +kernel
theorem dX5_layRound_157 : decode cX5_layRound 157 = .ok (.return_, 1) := by decide +kernel
set_option maxRecDepth 20000 in
theorem ggX5_best_X5_isRow : GoodIn wsX5_best wsX5_isRow := goodIn_r _ [8, 9, 10, 7, 11] (by decide +kernel) (by decide +kernel)
set_option maxRecDepth 20000 in
theorem gX5_best_X5_isRow : GoodIn wsX5_best (va_wsS RX5 82 yX5_isRow wsX5_isRow) := goodIn_app (goodIn_of _ (by decide +kernel)) ggX5_best_X5_isRow
set_option maxRecDepth 20000 in
theorem ggX5_best_X5_layRound : GoodIn wsX5_best wsX5_layRound := goodIn_r _ [15, 2, 4, 16, 17, 18, 19, 20, 7, 21, 22, 23, 24, 25, 26, 27, 28, 29, 30, 31, 32, 33, 34, 35, 36, 37, 38, 39, 40, 41, 42, 43, 44, 45, 46, 47, 48, 49, 50, 51, 52, 53, 54, 55, 56, 57, 58, 59, 60, 61, 62, 63, 64, 65, 66, 67, 68, 69, 70, 71, 72, 73, 74, 75, 76, 77, 78, 79, 80, 81, 82, 83, 84, 85, 86, 87, 88, 89, 90, 91, 105, 106, 107, 108, 109, 110, 111, 112, 113, 114, 115, 116, 117, 118, 119, 120, 121, 122, 123, 124, 125, 126, 127, 128, 129, 130, 131, 132, 133, 134] (by decide +kernel) (by decide +kernel)
set_option maxRecDepth 20000 in
theorem gX5_best_X5_layRound : GoodIn wsX5_best (wsV RX5 243 RX5 yX5_layRound wsX5_layRound) := goodIn_app (goodIn_of _ (by decide +kernel)) ggX5_best_X5_layRound
set_option maxRecDepth 20000 in
theorem ggX5_best_X5_bestCost : GoodIn wsX5_best wsX5_bestCost := goodIn_r _ [95, 17, 96, 97, 98, 7, 99, 105, 106, 107, 108, 109, 110, 111, 112, 113, 114, 115, 116, 117, 118, 119, 120, 121, 122, 123, 124, 125, 126, 127, 128, 129, 130, 131, 132, 133, 134] (by decide +kernel) (by decide +kernel)
set_option maxRecDepth 20000 in
theorem gX5_best_X5_bestCost : GoodIn wsX5_best (wsV RX5 246 RX5 yX5_bestCost wsX5_bestCost) := goodIn_app (goodIn_of _ (by decide +kernel)) ggX5_best_X5_bestCost
set_option maxRecDepth 20000 in
theorem ggX5_best_X5_paidMany : GoodIn wsX5_best wsX5_paidMany := goodIn_r _ [99, 17, 105, 106, 107, 108, 109, 110, 111, 112, 113, 114, 115, 116, 117, 118, 119, 120, 121, 122, 123, 124, 125, 126, 127, 128, 129, 130, 131, 132, 133, 134] (by decide +kernel) (by decide +kernel)
set_option maxRecDepth 20000 in
theorem gX5_best_X5_paidMany : GoodIn wsX5_best (wsV RX5 237 RX5 yX5_paidMany wsX5_paidMany) := goodIn_app (goodIn_of _ (by decide +kernel)) ggX5_best_X5_paidMany
set_option maxRecDepth 20000 in
theorem ggX5_best_X5_tells : GoodIn wsX5_best wsX5_tells := goodIn_r _ [103, 104, 105, 106, 107, 108, 109, 110, 111, 112, 113, 114, 115, 116, 117, 118, 119, 120, 121, 122, 123, 124, 125, 126, 127, 128, 129, 130, 131, 132, 133, 134] (by decide +kernel) (by decide +kernel)
set_option maxRecDepth 20000 in
theorem gX5_best_X5_tells : GoodIn wsX5_best (wsV RX5 94 RX5 yX5_tells wsX5_tells) := goodIn_app (goodIn_of _ (by decide +kernel)) ggX5_best_X5_tells
theorem dX5_best_0 : decode cX5_best 0 = .ok (.iload_n 1, 1) := by decide +kernel
theorem dX5_best_1 : decode cX5_best 1 = .ok (.invokestatic 82, 3) := by decide +kernel
theorem dX5_best_4 : decode cX5_best 4 = .ok (.ifCond .ne 5, 3) := by decide +kernel
theorem dX5_best_7 : decode cX5_best 7 = .ok (.iconst (-1), 1) := by decide +kernel
theorem dX5_best_8 : decode cX5_best 8 = .ok (.ireturn, 1) := by decide +kernel
theorem dX5_best_9 : decode cX5_best 9 = .ok (.aload_n 0, 1) := by decide +kernel
theorem dX5_best_10 : decode cX5_best 10 = .ok (.invokevirtual 243, 3) := by decide +kernel
theorem dX5_best_13 : decode cX5_best 13 = .ok (.aload_n 0, 1) := by decide +kernel
theorem dX5_best_14 : decode cX5_best 14 = .ok (.getfield 13, 3) := by decide +kernel
theorem dX5_best_17 : decode cX5_best 17 = .ok (.iload_n 1, 1) := by decide +kernel
theorem dX5_best_18 : decode cX5_best 18 = .ok (.aload_n 0, 1) := by decide +kernel
theorem dX5_best_19 : decode cX5_best 19 = .ok (.getfield 143, 3) := by decide +kernel
theorem dX5_best_22 : decode cX5_best 22 = .ok (.iastore, 1) := by decide +kernel
theorem dX5_best_23 : decode cX5_best 23 = .ok (.iconst 0, 1) := by decide +kernel
theorem dX5_best_24 : decode cX5_best 24 = .ok (.istore_n 2, 1) := by decide +kernel
theorem dX5_best_25 : decode cX5_best 25 = .ok (.iload_n 2, 1) := by decide +kernel
theorem dX5_best_26 : decode cX5_best 26 = .ok (.bipush 60, 2) := by decide +kernel
theorem dX5_best_28 : decode cX5_best 28 = .ok (.if_icmp .ge 38, 3) := by decide +kernel
theorem dX5_best_31 : decode cX5_best 31 = .ok (.aload_n 0, 1) := by decide +kernel
theorem dX5_best_32 : decode cX5_best 32 = .ok (.getfield 16, 3) := by decide +kernel
theorem dX5_best_35 : decode cX5_best 35 = .ok (.bipush 60, 2) := by decide +kernel
theorem dX5_best_37 : decode cX5_best 37 = .ok (.iload_n 1, 1) := by decide +kernel
theorem dX5_best_38 : decode cX5_best 38 = .ok (.imul, 1) := by decide +kernel
theorem dX5_best_39 : decode cX5_best 39 = .ok (.iload_n 2, 1) := by decide +kernel
theorem dX5_best_40 : decode cX5_best 40 = .ok (.iadd, 1) := by decide +kernel
theorem dX5_best_41 : decode cX5_best 41 = .ok (.iload_n 2, 1) := by decide +kernel
theorem dX5_best_42 : decode cX5_best 42 = .ok (.aload_n 0, 1) := by decide +kernel
theorem dX5_best_43 : decode cX5_best 43 = .ok (.getfield 143, 3) := by decide +kernel
theorem dX5_best_46 : decode cX5_best 46 = .ok (.if_icmp .ge 12, 3) := by decide +kernel
theorem dX5_best_49 : decode cX5_best 49 = .ok (.aload_n 0, 1) := by decide +kernel
theorem dX5_best_50 : decode cX5_best 50 = .ok (.getfield 41, 3) := by decide +kernel
theorem dX5_best_53 : decode cX5_best 53 = .ok (.iload_n 2, 1) := by decide +kernel
theorem dX5_best_54 : decode cX5_best 54 = .ok (.iaload, 1) := by decide +kernel
theorem dX5_best_55 : decode cX5_best 55 = .ok (.goto 4, 3) := by decide +kernel
theorem dX5_best_58 : decode cX5_best 58 = .ok (.iconst 0, 1) := by decide +kernel
theorem dX5_best_59 : decode cX5_best 59 = .ok (.iastore, 1) := by decide +kernel
theorem dX5_best_60 : decode cX5_best 60 = .ok (.iinc 2 1, 3) := by decide +kernel
theorem dX5_best_63 : decode cX5_best 63 = .ok (.goto (-38), 3) := by decide +kernel
theorem dX5_best_66 : decode cX5_best 66 = .ok (.aload_n 0, 1) := by decide +kernel
theorem dX5_best_67 : decode cX5_best 67 = .ok (.aload_n 0, 1) := by decide +kernel
theorem dX5_best_68 : decode cX5_best 68 = .ok (.invokevirtual 246, 3) := by decide +kernel
theorem dX5_best_71 : decode cX5_best 71 = .ok (.aload_n 0, 1) := by decide +kernel
theorem dX5_best_72 : decode cX5_best 72 = .ok (.invokevirtual 237, 3) := by decide +kernel
theorem dX5_best_75 : decode cX5_best 75 = .ok (.invokevirtual 94, 3) := by decide +kernel
theorem dX5_best_78 : decode cX5_best 78 = .ok (.ireturn, 1) := by decide +kernel
set_option maxRecDepth 20000 in
theorem ggX5_ways_X5_layRounds : GoodIn wsX5_ways wsX5_layRounds := goodIn_r _ [8, 9, 10, 1, 11, 12, 13, 7, 14, 15, 16, 17, 18, 19, 20, 21, 22, 23, 24, 25, 26, 27, 28, 29, 30, 31, 32, 33, 34, 35, 36, 37, 38, 39, 40, 41, 42, 43, 44, 45, 46, 47, 48, 49, 50, 51, 52, 53, 54, 55, 56, 57, 58, 59, 60, 61, 62, 63, 64, 65, 66, 67, 68, 69, 70, 71, 72, 73, 74, 75, 76, 77, 78, 79, 80, 81, 82, 83, 84, 85, 86, 87, 88, 89, 90, 91, 92, 93, 94, 95, 96, 97, 98, 99, 100, 101, 102, 103, 104, 105, 106, 107, 108, 109, 110] (by decide +kernel) (by decide +kernel)
set_option maxRecDepth 20000 in
theorem gX5_ways_X5_layRounds : GoodIn wsX5_ways (wsV RX5 240 RX5 yX5_layRounds wsX5_layRounds) := goodIn_app (goodIn_of _ (by decide +kernel)) ggX5_ways_X5_layRounds
theorem dX5_ways_0 : decode cX5_ways 0 = .ok (.aload_n 0, 1) := by decide +kernel
theorem dX5_ways_1 : decode cX5_ways 1 = .ok (.bipush 12, 2) := by decide +kernel
theorem dX5_ways_3 : decode cX5_ways 3 = .ok (.invokevirtual 240, 3) := by decide +kernel
theorem dX5_ways_6 : decode cX5_ways 6 = .ok (.aload_n 0, 1) := by decide +kernel
theorem dX5_ways_7 : decode cX5_ways 7 = .ok (.aload_n 0, 1) := by decide +kernel
theorem dX5_ways_8 : decode cX5_ways 8 = .ok (.getfield 47, 3) := by decide +kernel
theorem dX5_ways_11 : decode cX5_ways 11 = .ok (.iconst 0, 1) := by decide +kernel
theorem dX5_ways_12 : decode cX5_ways 12 = .ok (.laload, 1) := by decide +kernel
theorem dX5_ways_13 : decode cX5_ways 13 = .ok (.putfield 79, 3) := by decide +kernel
theorem dX5_ways_16 : decode cX5_ways 16 = .ok (.aload_n 0, 1) := by decide +kernel
theorem dX5_ways_17 : decode cX5_ways 17 = .ok (.lconst 1, 1) := by decide +kernel
theorem dX5_ways_18 : decode cX5_ways 18 = .ok (.putfield 64, 3) := by decide +kernel
theorem dX5_ways_21 : decode cX5_ways 21 = .ok (.iconst 1, 1) := by decide +kernel
theorem dX5_ways_22 : decode cX5_ways 22 = .ok (.ireturn, 1) := by decide +kernel
set_option maxRecDepth 20000 in
theorem ggX5_soonest_X5_layRounds : GoodIn wsX5_soonest wsX5_layRounds := goodIn_r _ [5, 6, 7, 8, 9, 10, 11, 4, 12, 13, 14, 15, 16, 17, 18, 19, 20, 21, 22, 23, 24, 25, 26, 27, 28, 29, 30, 31, 32, 33, 34, 35, 36, 37, 38, 39, 40, 41, 42, 43, 44, 45, 46, 47, 48, 49, 50, 51, 52, 53, 54, 55, 56, 57, 58, 59, 60, 61, 62, 63, 64, 65, 66, 67, 68, 69, 70, 71, 72, 73, 74, 75, 76, 77, 78, 92, 93, 94, 95, 96, 97, 98, 99, 100, 101, 102, 103, 104, 105, 106, 107, 108, 109, 110, 111, 112, 113, 114, 115, 116, 117, 118, 119, 120, 121] (by decide +kernel) (by decide +kernel)
set_option maxRecDepth 20000 in
theorem gX5_soonest_X5_layRounds : GoodIn wsX5_soonest (wsV RX5 240 RX5 yX5_layRounds wsX5_layRounds) := goodIn_app (goodIn_of _ (by decide +kernel)) ggX5_soonest_X5_layRounds
set_option maxRecDepth 20000 in
theorem ggX5_soonest_X5_paidMany : GoodIn wsX5_soonest wsX5_paidMany := goodIn_r _ [82, 7, 92, 93, 94, 95, 96, 97, 98, 99, 100, 101, 102, 103, 104, 105, 106, 107, 108, 109, 110, 111, 112, 113, 114, 115, 116, 117, 118, 119, 120, 121] (by decide +kernel) (by decide +kernel)
set_option maxRecDepth 20000 in
theorem gX5_soonest_X5_paidMany : GoodIn wsX5_soonest (wsV RX5 237 RX5 yX5_paidMany wsX5_paidMany) := goodIn_app (goodIn_of _ (by decide +kernel)) ggX5_soonest_X5_paidMany
set_option maxRecDepth 20000 in
theorem ggX5_soonest_X5_bestCost : GoodIn wsX5_soonest wsX5_bestCost := goodIn_r _ [86, 7, 79, 80, 81, 4, 82, 92, 93, 94, 95, 96, 97, 98, 99, 100, 101, 102, 103, 104, 105, 106, 107, 108, 109, 110, 111, 112, 113, 114, 115, 116, 117, 118, 119, 120, 121] (by decide +kernel) (by decide +kernel)
set_option maxRecDepth 20000 in
theorem gX5_soonest_X5_bestCost : GoodIn wsX5_soonest (wsV RX5 246 RX5 yX5_bestCost wsX5_bestCost) := goodIn_app (goodIn_of _ (by decide +kernel)) ggX5_soonest_X5_bestCost
set_option maxRecDepth 20000 in
theorem ggX5_soonest_X5_tells : GoodIn wsX5_soonest wsX5_tells := goodIn_r _ [90, 91, 92, 93, 94, 95, 96, 97, 98, 99, 100, 101, 102, 103, 104, 105, 106, 107, 108, 109, 110, 111, 112, 113, 114, 115, 116, 117, 118, 119, 120, 121] (by decide +kernel) (by decide +kernel)
set_option maxRecDepth 20000 in
theorem gX5_soonest_X5_tells : GoodIn wsX5_soonest (wsV RX5 94 RX5 yX5_tells wsX5_tells) := goodIn_app (goodIn_of _ (by decide +kernel)) ggX5_soonest_X5_tells
theorem dX5_soonest_0 : decode cX5_soonest 0 = .ok (.aload_n 0, 1) := by decide +kernel
theorem dX5_soonest_1 : decode cX5_soonest 1 = .ok (.bipush 12, 2) := by decide +kernel
theorem dX5_soonest_3 : decode cX5_soonest 3 = .ok (.invokevirtual 240, 3) := by decide +kernel
theorem dX5_soonest_6 : decode cX5_soonest 6 = .ok (.aload_n 0, 1) := by decide +kernel
theorem dX5_soonest_7 : decode cX5_soonest 7 = .ok (.invokevirtual 237, 3) := by decide +kernel
theorem dX5_soonest_10 : decode cX5_soonest 10 = .ok (.istore_n 1, 1) := by decide +kernel
theorem dX5_soonest_11 : decode cX5_soonest 11 = .ok (.iconst 0, 1) := by decide +kernel
theorem dX5_soonest_12 : decode cX5_soonest 12 = .ok (.istore_n 2, 1) := by decide +kernel
theorem dX5_soonest_13 : decode cX5_soonest 13 = .ok (.iload_n 2, 1) := by decide +kernel
theorem dX5_soonest_14 : decode cX5_soonest 14 = .ok (.bipush 12, 2) := by decide +kernel
theorem dX5_soonest_16 : decode cX5_soonest 16 = .ok (.if_icmp .ge 32, 3) := by decide +kernel
theorem dX5_soonest_19 : decode cX5_soonest 19 = .ok (.aload_n 0, 1) := by decide +kernel
theorem dX5_soonest_20 : decode cX5_soonest 20 = .ok (.iload_n 2, 1) := by decide +kernel
theorem dX5_soonest_21 : decode cX5_soonest 21 = .ok (.invokevirtual 240, 3) := by decide +kernel
theorem dX5_soonest_24 : decode cX5_soonest 24 = .ok (.aload_n 0, 1) := by decide +kernel
theorem dX5_soonest_25 : decode cX5_soonest 25 = .ok (.invokevirtual 237, 3) := by decide +kernel
theorem dX5_soonest_28 : decode cX5_soonest 28 = .ok (.iload_n 1, 1) := by decide +kernel
theorem dX5_soonest_29 : decode cX5_soonest 29 = .ok (.if_icmp .ne 13, 3) := by decide +kernel
theorem dX5_soonest_32 : decode cX5_soonest 32 = .ok (.aload_n 0, 1) := by decide +kernel
theorem dX5_soonest_33 : decode cX5_soonest 33 = .ok (.aload_n 0, 1) := by decide +kernel
theorem dX5_soonest_34 : decode cX5_soonest 34 = .ok (.invokevirtual 246, 3) := by decide +kernel
theorem dX5_soonest_37 : decode cX5_soonest 37 = .ok (.iload_n 2, 1) := by decide +kernel
theorem dX5_soonest_38 : decode cX5_soonest 38 = .ok (.invokevirtual 94, 3) := by decide +kernel
theorem dX5_soonest_41 : decode cX5_soonest 41 = .ok (.ireturn, 1) := by decide +kernel
theorem dX5_soonest_42 : decode cX5_soonest 42 = .ok (.iinc 2 1, 3) := by decide +kernel
theorem dX5_soonest_45 : decode cX5_soonest 45 = .ok (.goto (-32), 3) := by decide +kernel
theorem dX5_soonest_48 : decode cX5_soonest 48 = .ok (.aload_n 0, 1) := by decide +kernel
theorem dX5_soonest_49 : decode cX5_soonest 49 = .ok (.bipush 12, 2) := by decide +kernel
theorem dX5_soonest_51 : decode cX5_soonest 51 = .ok (.invokevirtual 240, 3) := by decide +kernel
theorem dX5_soonest_54 : decode cX5_soonest 54 = .ok (.aload_n 0, 1) := by decide +kernel
theorem dX5_soonest_55 : decode cX5_soonest 55 = .ok (.aload_n 0, 1) := by decide +kernel
theorem dX5_soonest_56 : decode cX5_soonest 56 = .ok (.invokevirtual 246, 3) := by decide +kernel
theorem dX5_soonest_59 : decode cX5_soonest 59 = .ok (.bipush 12, 2) := by decide +kernel
theorem dX5_soonest_61 : decode cX5_soonest 61 = .ok (.invokevirtual 94, 3) := by decide +kernel
theorem dX5_soonest_64 : decode cX5_soonest 64 = .ok (.ireturn, 1) := by decide +kernel
set_option maxRecDepth 20000 in
theorem ggX5_ringOf_X5_debtAt : GoodIn wsX5_ringOf wsX5_debtAt := goodIn_r _ [7, 8, 12, 13, 14, 15, 16, 17, 18, 19, 20, 21, 22, 23, 24, 25, 26, 27, 28, 29, 30, 31, 32, 33, 34, 35, 36, 37, 38, 39, 40, 41] (by decide +kernel) (by decide +kernel)
set_option maxRecDepth 20000 in
theorem gX5_ringOf_X5_debtAt : GoodIn wsX5_ringOf (wsV RX5 164 RX5 yX5_debtAt wsX5_debtAt) := goodIn_app (goodIn_of _ (by decide +kernel)) ggX5_ringOf_X5_debtAt
set_option maxRecDepth 20000 in
theorem ggX5_ringOf_X5_has : GoodIn wsX5_ringOf wsX5_has := goodIn_r _ [11] (by decide +kernel) (by decide +kernel)
set_option maxRecDepth 20000 in
theorem gX5_ringOf_X5_has : GoodIn wsX5_ringOf (va_wsS RX5 149 yX5_has wsX5_has) := goodIn_app (goodIn_of _ (by decide +kernel)) ggX5_ringOf_X5_has
theorem dX5_ringOf_0 : decode cX5_ringOf 0 = .ok (.iconst 1, 1) := by decide +kernel
theorem dX5_ringOf_1 : decode cX5_ringOf 1 = .ok (.iload_n 1, 1) := by decide +kernel
theorem dX5_ringOf_2 : decode cX5_ringOf 2 = .ok (.ishl, 1) := by decide +kernel
theorem dX5_ringOf_3 : decode cX5_ringOf 3 = .ok (.istore_n 2, 1) := by decide +kernel
theorem dX5_ringOf_4 : decode cX5_ringOf 4 = .ok (.iconst 1, 1) := by decide +kernel
theorem dX5_ringOf_5 : decode cX5_ringOf 5 = .ok (.iload_n 1, 1) := by decide +kernel
theorem dX5_ringOf_6 : decode cX5_ringOf 6 = .ok (.ishl, 1) := by decide +kernel
theorem dX5_ringOf_7 : decode cX5_ringOf 7 = .ok (.istore_n 3, 1) := by decide +kernel
theorem dX5_ringOf_8 : decode cX5_ringOf 8 = .ok (.iconst 1, 1) := by decide +kernel
theorem dX5_ringOf_9 : decode cX5_ringOf 9 = .ok (.istore 4, 2) := by decide +kernel
theorem dX5_ringOf_11 : decode cX5_ringOf 11 = .ok (.iload 4, 2) := by decide +kernel
theorem dX5_ringOf_13 : decode cX5_ringOf 13 = .ok (.aload_n 0, 1) := by decide +kernel
theorem dX5_ringOf_14 : decode cX5_ringOf 14 = .ok (.getfield 140, 3) := by decide +kernel
theorem dX5_ringOf_17 : decode cX5_ringOf 17 = .ok (.if_icmp .gt 86, 3) := by decide +kernel
theorem dX5_ringOf_20 : decode cX5_ringOf 20 = .ok (.iconst 0, 1) := by decide +kernel
theorem dX5_ringOf_21 : decode cX5_ringOf 21 = .ok (.istore 5, 2) := by decide +kernel
theorem dX5_ringOf_23 : decode cX5_ringOf 23 = .ok (.iconst 0, 1) := by decide +kernel
theorem dX5_ringOf_24 : decode cX5_ringOf 24 = .ok (.istore 6, 2) := by decide +kernel
theorem dX5_ringOf_26 : decode cX5_ringOf 26 = .ok (.iload 6, 2) := by decide +kernel
theorem dX5_ringOf_28 : decode cX5_ringOf 28 = .ok (.aload_n 0, 1) := by decide +kernel
theorem dX5_ringOf_29 : decode cX5_ringOf 29 = .ok (.getfield 143, 3) := by decide +kernel
theorem dX5_ringOf_32 : decode cX5_ringOf 32 = .ok (.if_icmp .ge 41, 3) := by decide +kernel
theorem dX5_ringOf_35 : decode cX5_ringOf 35 = .ok (.iload 5, 2) := by decide +kernel
theorem dX5_ringOf_37 : decode cX5_ringOf 37 = .ok (.iload_n 3, 1) := by decide +kernel
theorem dX5_ringOf_38 : decode cX5_ringOf 38 = .ok (.aload_n 0, 1) := by decide +kernel
theorem dX5_ringOf_39 : decode cX5_ringOf 39 = .ok (.iload 6, 2) := by decide +kernel
theorem dX5_ringOf_41 : decode cX5_ringOf 41 = .ok (.iconst 0, 1) := by decide +kernel
theorem dX5_ringOf_42 : decode cX5_ringOf 42 = .ok (.invokevirtual 164, 3) := by decide +kernel
theorem dX5_ringOf_45 : decode cX5_ringOf 45 = .ok (.invokestatic 149, 3) := by decide +kernel
theorem dX5_ringOf_48 : decode cX5_ringOf 48 = .ok (.ifCond .eq 15, 3) := by decide +kernel
theorem dX5_ringOf_51 : decode cX5_ringOf 51 = .ok (.iconst 1, 1) := by decide +kernel
theorem dX5_ringOf_52 : decode cX5_ringOf 52 = .ok (.aload_n 0, 1) := by decide +kernel
theorem dX5_ringOf_53 : decode cX5_ringOf 53 = .ok (.iload 6, 2) := by decide +kernel
theorem dX5_ringOf_55 : decode cX5_ringOf 55 = .ok (.iconst 1, 1) := by decide +kernel
theorem dX5_ringOf_56 : decode cX5_ringOf 56 = .ok (.invokevirtual 164, 3) := by decide +kernel
theorem dX5_ringOf_59 : decode cX5_ringOf 59 = .ok (.ishl, 1) := by decide +kernel
theorem dX5_ringOf_60 : decode cX5_ringOf 60 = .ok (.goto 4, 3) := by decide +kernel
theorem dX5_ringOf_63 : decode cX5_ringOf 63 = .ok (.iconst 0, 1) := by decide +kernel
theorem dX5_ringOf_64 : decode cX5_ringOf 64 = .ok (.ior, 1) := by decide +kernel
theorem dX5_ringOf_65 : decode cX5_ringOf 65 = .ok (.istore 5, 2) := by decide +kernel
theorem dX5_ringOf_67 : decode cX5_ringOf 67 = .ok (.iinc 6 1, 3) := by decide +kernel
theorem dX5_ringOf_70 : decode cX5_ringOf 70 = .ok (.goto (-44), 3) := by decide +kernel
theorem dX5_ringOf_73 : decode cX5_ringOf 73 = .ok (.iload 5, 2) := by decide +kernel
theorem dX5_ringOf_75 : decode cX5_ringOf 75 = .ok (.iload_n 1, 1) := by decide +kernel
theorem dX5_ringOf_76 : decode cX5_ringOf 76 = .ok (.invokestatic 149, 3) := by decide +kernel
theorem dX5_ringOf_79 : decode cX5_ringOf 79 = .ok (.ifCond .eq 6, 3) := by decide +kernel
theorem dX5_ringOf_82 : decode cX5_ringOf 82 = .ok (.iload 4, 2) := by decide +kernel
theorem dX5_ringOf_84 : decode cX5_ringOf 84 = .ok (.ireturn, 1) := by decide +kernel
theorem dX5_ringOf_85 : decode cX5_ringOf 85 = .ok (.iload 5, 2) := by decide +kernel
theorem dX5_ringOf_87 : decode cX5_ringOf 87 = .ok (.iload_n 2, 1) := by decide +kernel
theorem dX5_ringOf_88 : decode cX5_ringOf 88 = .ok (.iconst (-1), 1) := by decide +kernel
theorem dX5_ringOf_89 : decode cX5_ringOf 89 = .ok (.ixor, 1) := by decide +kernel
theorem dX5_ringOf_90 : decode cX5_ringOf 90 = .ok (.iand, 1) := by decide +kernel
theorem dX5_ringOf_91 : decode cX5_ringOf 91 = .ok (.istore_n 3, 1) := by decide +kernel
theorem dX5_ringOf_92 : decode cX5_ringOf 92 = .ok (.iload_n 2, 1) := by decide +kernel
theorem dX5_ringOf_93 : decode cX5_ringOf 93 = .ok (.iload 5, 2) := by decide +kernel
theorem dX5_ringOf_95 : decode cX5_ringOf 95 = .ok (.ior, 1) := by decide +kernel
theorem dX5_ringOf_96 : decode cX5_ringOf 96 = .ok (.istore_n 2, 1) := by decide +kernel
theorem dX5_ringOf_97 : decode cX5_ringOf 97 = .ok (.iinc 4 1, 3) := by decide +kernel
theorem dX5_ringOf_100 : decode cX5_ringOf 100 = .ok (.goto (-89), 3) := by decide +kernel
theorem dX5_ringOf_103 : decode cX5_ringOf 103 = .ok (.iconst 0, 1) := by decide +kernel
theorem dX5_ringOf_104 : decode cX5_ringOf 104 = .ok (.ireturn, 1) := by decide +kernel
set_option maxRecDepth 20000 in
theorem ggX5_rings_X5_ringOf : GoodIn wsX5_rings wsX5_ringOf := goodIn_r _ [6, 1, 7, 8, 9, 10, 5, 11, 12, 13, 14, 15, 21, 22, 23, 24, 25, 26, 27, 28, 29, 30, 31, 32, 33, 34, 35, 36, 37, 38, 39, 40, 41, 42, 43, 44, 45, 46, 47, 48, 49, 50] (by decide +kernel) (by decide +kernel)
set_option maxRecDepth 20000 in
theorem gX5_rings_X5_ringOf : GoodIn wsX5_rings (wsV RX5 249 RX5 yX5_ringOf wsX5_ringOf) := goodIn_app (goodIn_of _ (by decide +kernel)) ggX5_rings_X5_ringOf
set_option maxRecDepth 20000 in
theorem ggX5_rings_X5_tells : GoodIn wsX5_rings wsX5_tells := goodIn_r _ [19, 20, 21, 22, 23, 24, 25, 26, 27, 28, 29, 30, 31, 32, 33, 34, 35, 36, 37, 38, 39, 40, 41, 42, 43, 44, 45, 46, 47, 48, 49, 50] (by decide +kernel) (by decide +kernel)
set_option maxRecDepth 20000 in
theorem gX5_rings_X5_tells : GoodIn wsX5_rings (wsV RX5 94 RX5 yX5_tells wsX5_tells) := goodIn_app (goodIn_of _ (by decide +kernel)) ggX5_rings_X5_tells
theorem dX5_rings_0 : decode cX5_rings 0 = .ok (.iconst 0, 1) := by decide +kernel
theorem dX5_rings_1 : decode cX5_rings 1 = .ok (.istore_n 1, 1) := by decide +kernel
theorem dX5_rings_2 : decode cX5_rings 2 = .ok (.iconst 0, 1) := by decide +kernel
theorem dX5_rings_3 : decode cX5_rings 3 = .ok (.istore_n 2, 1) := by decide +kernel
theorem dX5_rings_4 : decode cX5_rings 4 = .ok (.iconst 0, 1) := by decide +kernel
theorem dX5_rings_5 : decode cX5_rings 5 = .ok (.istore_n 3, 1) := by decide +kernel
theorem dX5_rings_6 : decode cX5_rings 6 = .ok (.iload_n 3, 1) := by decide +kernel
theorem dX5_rings_7 : decode cX5_rings 7 = .ok (.aload_n 0, 1) := by decide +kernel
theorem dX5_rings_8 : decode cX5_rings 8 = .ok (.getfield 140, 3) := by decide +kernel
theorem dX5_rings_11 : decode cX5_rings 11 = .ok (.if_icmp .ge 53, 3) := by decide +kernel
theorem dX5_rings_14 : decode cX5_rings 14 = .ok (.aload_n 0, 1) := by decide +kernel
theorem dX5_rings_15 : decode cX5_rings 15 = .ok (.iload_n 3, 1) := by decide +kernel
theorem dX5_rings_16 : decode cX5_rings 16 = .ok (.invokevirtual 249, 3) := by decide +kernel
theorem dX5_rings_19 : decode cX5_rings 19 = .ok (.istore 4, 2) := by decide +kernel
theorem dX5_rings_21 : decode cX5_rings 21 = .ok (.iload_n 1, 1) := by decide +kernel
theorem dX5_rings_22 : decode cX5_rings 22 = .ok (.iload 4, 2) := by decide +kernel
theorem dX5_rings_24 : decode cX5_rings 24 = .ok (.ifCond .le 9, 3) := by decide +kernel
theorem dX5_rings_27 : decode cX5_rings 27 = .ok (.iconst 1, 1) := by decide +kernel
theorem dX5_rings_28 : decode cX5_rings 28 = .ok (.iload_n 3, 1) := by decide +kernel
theorem dX5_rings_29 : decode cX5_rings 29 = .ok (.ishl, 1) := by decide +kernel
theorem dX5_rings_30 : decode cX5_rings 30 = .ok (.goto 4, 3) := by decide +kernel
theorem dX5_rings_33 : decode cX5_rings 33 = .ok (.iconst 0, 1) := by decide +kernel
theorem dX5_rings_34 : decode cX5_rings 34 = .ok (.ior, 1) := by decide +kernel
theorem dX5_rings_35 : decode cX5_rings 35 = .ok (.istore_n 1, 1) := by decide +kernel
theorem dX5_rings_36 : decode cX5_rings 36 = .ok (.iload 4, 2) := by decide +kernel
theorem dX5_rings_38 : decode cX5_rings 38 = .ok (.ifCond .le 18, 3) := by decide +kernel
theorem dX5_rings_41 : decode cX5_rings 41 = .ok (.iload_n 2, 1) := by decide +kernel
theorem dX5_rings_42 : decode cX5_rings 42 = .ok (.ifCond .eq 9, 3) := by decide +kernel
theorem dX5_rings_45 : decode cX5_rings 45 = .ok (.iload 4, 2) := by decide +kernel
theorem dX5_rings_47 : decode cX5_rings 47 = .ok (.iload_n 2, 1) := by decide +kernel
theorem dX5_rings_48 : decode cX5_rings 48 = .ok (.if_icmp .ge 8, 3) := by decide +kernel
theorem dX5_rings_51 : decode cX5_rings 51 = .ok (.iload 4, 2) := by decide +kernel
theorem dX5_rings_53 : decode cX5_rings 53 = .ok (.goto 4, 3) := by decide +kernel
theorem dX5_rings_56 : decode cX5_rings 56 = .ok (.iload_n 2, 1) := by decide +kernel
theorem dX5_rings_57 : decode cX5_rings 57 = .ok (.istore_n 2, 1) := by decide +kernel
theorem dX5_rings_58 : decode cX5_rings 58 = .ok (.iinc 3 1, 3) := by decide +kernel
theorem dX5_rings_61 : decode cX5_rings 61 = .ok (.goto (-55), 3) := by decide +kernel
theorem dX5_rings_64 : decode cX5_rings 64 = .ok (.aload_n 0, 1) := by decide +kernel
theorem dX5_rings_65 : decode cX5_rings 65 = .ok (.iload_n 2, 1) := by decide +kernel
theorem dX5_rings_66 : decode cX5_rings 66 = .ok (.iload_n 1, 1) := by decide +kernel
theorem dX5_rings_67 : decode cX5_rings 67 = .ok (.invokevirtual 94, 3) := by decide +kernel
theorem dX5_rings_70 : decode cX5_rings 70 = .ok (.ireturn, 1) := by decide +kernel
theorem dX5_keepHabits_0 : decode cX5_keepHabits 0 = .ok (.iconst 0, 1) := by decide +kernel
theorem dX5_keepHabits_1 : decode cX5_keepHabits 1 = .ok (.istore_n 1, 1) := by decide +kernel
theorem dX5_keepHabits_2 : decode cX5_keepHabits 2 = .ok (.iload_n 1, 1) := by decide +kernel
theorem dX5_keepHabits_3 : decode cX5_keepHabits 3 = .ok (.aload_n 0, 1) := by decide +kernel
theorem dX5_keepHabits_4 : decode cX5_keepHabits 4 = .ok (.getfield 140, 3) := by decide +kernel
theorem dX5_keepHabits_7 : decode cX5_keepHabits 7 = .ok (.if_icmp .ge 25, 3) := by decide +kernel
theorem dX5_keepHabits_10 : decode cX5_keepHabits 10 = .ok (.aload_n 0, 1) := by decide +kernel
theorem dX5_keepHabits_11 : decode cX5_keepHabits 11 = .ok (.getfield 55, 3) := by decide +kernel
theorem dX5_keepHabits_14 : decode cX5_keepHabits 14 = .ok (.iload_n 1, 1) := by decide +kernel
theorem dX5_keepHabits_15 : decode cX5_keepHabits 15 = .ok (.aload_n 0, 1) := by decide +kernel
theorem dX5_keepHabits_16 : decode cX5_keepHabits 16 = .ok (.getfield 29, 3) := by decide +kernel
theorem dX5_keepHabits_19 : decode cX5_keepHabits 19 = .ok (.iconst 4, 1) := by decide +kernel
theorem dX5_keepHabits_20 : decode cX5_keepHabits 20 = .ok (.iload_n 1, 1) := by decide +kernel
theorem dX5_keepHabits_21 : decode cX5_keepHabits 21 = .ok (.imul, 1) := by decide +kernel
theorem dX5_keepHabits_22 : decode cX5_keepHabits 22 = .ok (.iconst 2, 1) := by decide +kernel
theorem dX5_keepHabits_23 : decode cX5_keepHabits 23 = .ok (.iadd, 1) := by decide +kernel
theorem dX5_keepHabits_24 : decode cX5_keepHabits 24 = .ok (.iaload, 1) := by decide +kernel
theorem dX5_keepHabits_25 : decode cX5_keepHabits 25 = .ok (.iastore, 1) := by decide +kernel
theorem dX5_keepHabits_26 : decode cX5_keepHabits 26 = .ok (.iinc 1 1, 3) := by decide +kernel
theorem dX5_keepHabits_29 : decode cX5_keepHabits 29 = .ok (.goto (-27), 3) := by decide +kernel
theorem dX5_keepHabits_32 : decode cX5_keepHabits 32 = .ok (.return_, 1) := by decide +kernel
theorem dX5_backHabits_0 : decode cX5_backHabits 0 = .ok (.iconst 0, 1) := by decide +kernel
theorem dX5_backHabits_1 : decode cX5_backHabits 1 = .ok (.istore_n 1, 1) := by decide +kernel
theorem dX5_backHabits_2 : decode cX5_backHabits 2 = .ok (.iload_n 1, 1) := by decide +kernel
theorem dX5_backHabits_3 : decode cX5_backHabits 3 = .ok (.aload_n 0, 1) := by decide +kernel
theorem dX5_backHabits_4 : decode cX5_backHabits 4 = .ok (.getfield 140, 3) := by decide +kernel
theorem dX5_backHabits_7 : decode cX5_backHabits 7 = .ok (.if_icmp .ge 25, 3) := by decide +kernel
theorem dX5_backHabits_10 : decode cX5_backHabits 10 = .ok (.aload_n 0, 1) := by decide +kernel
theorem dX5_backHabits_11 : decode cX5_backHabits 11 = .ok (.getfield 29, 3) := by decide +kernel
theorem dX5_backHabits_14 : decode cX5_backHabits 14 = .ok (.iconst 4, 1) := by decide +kernel
theorem dX5_backHabits_15 : decode cX5_backHabits 15 = .ok (.iload_n 1, 1) := by decide +kernel
theorem dX5_backHabits_16 : decode cX5_backHabits 16 = .ok (.imul, 1) := by decide +kernel
theorem dX5_backHabits_17 : decode cX5_backHabits 17 = .ok (.iconst 2, 1) := by decide +kernel
theorem dX5_backHabits_18 : decode cX5_backHabits 18 = .ok (.iadd, 1) := by decide +kernel
theorem dX5_backHabits_19 : decode cX5_backHabits 19 = .ok (.aload_n 0, 1) := by decide +kernel
theorem dX5_backHabits_20 : decode cX5_backHabits 20 = .ok (.getfield 55, 3) := by decide +kernel
theorem dX5_backHabits_23 : decode cX5_backHabits 23 = .ok (.iload_n 1, 1) := by decide +kernel
theorem dX5_backHabits_24 : decode cX5_backHabits 24 = .ok (.iaload, 1) := by decide +kernel
theorem dX5_backHabits_25 : decode cX5_backHabits 25 = .ok (.iastore, 1) := by decide +kernel
theorem dX5_backHabits_26 : decode cX5_backHabits 26 = .ok (.iinc 1 1, 3) := by decide +kernel
theorem dX5_backHabits_29 : decode cX5_backHabits 29 = .ok (.goto (-27), 3) := by decide +kernel
theorem dX5_backHabits_32 : decode cX5_backHabits 32 = .ok (.return_, 1) := by decide +kernel
set_option maxRecDepth 20000 in
theorem ggX5_few_X5_isHour : GoodIn wsX5_few wsX5_isHour := goodIn_r _ [6, 7, 8, 5, 9] (by decide +kernel) (by decide +kernel)
set_option maxRecDepth 20000 in
theorem gX5_few_X5_isHour : GoodIn wsX5_few (va_wsS RX5 183 yX5_isHour wsX5_isHour) := goodIn_app (goodIn_of _ (by decide +kernel)) ggX5_few_X5_isHour
set_option maxRecDepth 20000 in
theorem ggX5_few_X5_in : GoodIn wsX5_few wsX5_in := goodIn_r _ [9] (by decide +kernel) (by decide +kernel)
set_option maxRecDepth 20000 in
theorem gX5_few_X5_in : GoodIn wsX5_few (va_wsS RX5 72 yX5_in wsX5_in) := goodIn_app (goodIn_of _ (by decide +kernel)) ggX5_few_X5_in
set_option maxRecDepth 20000 in
theorem ggX5_few_X5_keepHabits : GoodIn wsX5_few wsX5_keepHabits := goodIn_r _ [13, 1, 14, 2, 77, 78, 79, 80, 81, 82, 83, 84, 85, 86, 87, 88, 89, 90, 91, 92, 93, 94, 95, 96, 97, 98, 99, 100, 101, 102, 103, 104, 105, 106] (by decide +kernel) (by decide +kernel)
set_option maxRecDepth 20000 in
theorem gX5_few_X5_keepHabits : GoodIn wsX5_few (wsV RX5 252 RX5 yX5_keepHabits wsX5_keepHabits) := goodIn_app (goodIn_of _ (by decide +kernel)) ggX5_few_X5_keepHabits
set_option maxRecDepth 20000 in
theorem ggX5_few_X5_isOut : GoodIn wsX5_few wsX5_isOut := goodIn_r _ [18, 2, 19, 20, 5, 21, 77, 78, 79, 80, 81, 82, 83, 84, 85, 86, 87, 88, 89, 90, 91, 92, 93, 94, 95, 96, 97, 98, 99, 100, 101, 102, 103, 104, 105, 106] (by decide +kernel) (by decide +kernel)
set_option maxRecDepth 20000 in
theorem gX5_few_X5_isOut : GoodIn wsX5_few (wsV RX5 158 RX5 yX5_isOut wsX5_isOut) := goodIn_app (goodIn_of _ (by decide +kernel)) ggX5_few_X5_isOut
set_option maxRecDepth 20000 in
theorem ggX5_few_X5_bits : GoodIn wsX5_few wsX5_bits := goodIn_r _ [24] (by decide +kernel) (by decide +kernel)
set_option maxRecDepth 20000 in
theorem gX5_few_X5_bits : GoodIn wsX5_few (va_wsS RX5 177 yX5_bits wsX5_bits) := goodIn_app (goodIn_of _ (by decide +kernel)) ggX5_few_X5_bits
set_option maxRecDepth 20000 in
theorem ggX5_few_X5_has : GoodIn wsX5_few wsX5_has := goodIn_r _ [21] (by decide +kernel) (by decide +kernel)
set_option maxRecDepth 20000 in
theorem gX5_few_X5_has : GoodIn wsX5_few (va_wsS RX5 149 yX5_has wsX5_has) := goodIn_app (goodIn_of _ (by decide +kernel)) ggX5_few_X5_has
set_option maxRecDepth 20000 in
theorem ggX5_few_X5_atOnce : GoodIn wsX5_few wsX5_atOnce := goodIn_r _ [28, 29, 30, 31, 5, 32, 33, 34, 35, 36, 37, 38, 39, 40, 41, 42, 15, 16, 17, 18, 2, 19, 20, 21, 43, 44, 45, 46, 47, 48, 49, 50, 51, 52, 53, 54, 55, 56, 57, 58, 59, 60, 61, 62, 63, 22, 23, 24, 64, 65, 66, 67, 77, 78, 79, 80, 81, 82, 83, 84, 85, 86, 87, 88, 89, 90, 91, 92, 93, 94, 95, 96, 97, 98, 99, 100, 101, 102, 103, 104, 105, 106] (by decide +kernel) (by decide +kernel)
set_option maxRecDepth 20000 in
theorem gX5_few_X5_atOnce : GoodIn wsX5_few (wsV RX5 201 RX5 yX5_atOnce wsX5_atOnce) := goodIn_app (goodIn_of _ (by decide +kernel)) ggX5_few_X5_atOnce
set_option maxRecDepth 20000 in
theorem ggX5_few_X5_backHabits : GoodIn wsX5_few wsX5_backHabits := goodIn_r _ [71, 1, 2, 14, 77, 78, 79, 80, 81, 82, 83, 84, 85, 86, 87, 88, 89, 90, 91, 92, 93, 94, 95, 96, 97, 98, 99, 100, 101, 102, 103, 104, 105, 106] (by decide +kernel) (by decide +kernel)
set_option maxRecDepth 20000 in
theorem gX5_few_X5_backHabits : GoodIn wsX5_few (wsV RX5 255 RX5 yX5_backHabits wsX5_backHabits) := goodIn_app (goodIn_of _ (by decide +kernel)) ggX5_few_X5_backHabits
set_option maxRecDepth 20000 in
theorem ggX5_few_X5_tells : GoodIn wsX5_few wsX5_tells := goodIn_r _ [75, 76, 77, 78, 79, 80, 81, 82, 83, 84, 85, 86, 87, 88, 89, 90, 91, 92, 93, 94, 95, 96, 97, 98, 99, 100, 101, 102, 103, 104, 105, 106] (by decide +kernel) (by decide +kernel)
set_option maxRecDepth 20000 in
theorem gX5_few_X5_tells : GoodIn wsX5_few (wsV RX5 94 RX5 yX5_tells wsX5_tells) := goodIn_app (goodIn_of _ (by decide +kernel)) ggX5_few_X5_tells
theorem dX5_few_0 : decode cX5_few 0 = .ok (.iload_n 1, 1) := by decide +kernel
theorem dX5_few_1 : decode cX5_few 1 = .ok (.invokestatic 183, 3) := by decide +kernel
theorem dX5_few_4 : decode cX5_few 4 = .ok (.ifCond .eq 13, 3) := by decide +kernel
theorem dX5_few_7 : decode cX5_few 7 = .ok (.iload_n 2, 1) := by decide +kernel
theorem dX5_few_8 : decode cX5_few 8 = .ok (.iconst 1, 1) := by decide +kernel
theorem dX5_few_9 : decode cX5_few 9 = .ok (.bipush 8, 2) := by decide +kernel
theorem dX5_few_11 : decode cX5_few 11 = .ok (.invokestatic 72, 3) := by decide +kernel
theorem dX5_few_14 : decode cX5_few 14 = .ok (.ifCond .ne 5, 3) := by decide +kernel
theorem dX5_few_17 : decode cX5_few 17 = .ok (.iconst (-1), 1) := by decide +kernel
theorem dX5_few_18 : decode cX5_few 18 = .ok (.ireturn, 1) := by decide +kernel
theorem dX5_few_19 : decode cX5_few 19 = .ok (.aload_n 0, 1) := by decide +kernel
theorem dX5_few_20 : decode cX5_few 20 = .ok (.invokevirtual 252, 3) := by decide +kernel
theorem dX5_few_23 : decode cX5_few 23 = .ok (.iconst 0, 1) := by decide +kernel
theorem dX5_few_24 : decode cX5_few 24 = .ok (.istore_n 3, 1) := by decide +kernel
theorem dX5_few_25 : decode cX5_few 25 = .ok (.iconst 0, 1) := by decide +kernel
theorem dX5_few_26 : decode cX5_few 26 = .ok (.istore 4, 2) := by decide +kernel
theorem dX5_few_28 : decode cX5_few 28 = .ok (.iload 4, 2) := by decide +kernel
theorem dX5_few_30 : decode cX5_few 30 = .ok (.aload_n 0, 1) := by decide +kernel
theorem dX5_few_31 : decode cX5_few 31 = .ok (.getfield 140, 3) := by decide +kernel
theorem dX5_few_34 : decode cX5_few 34 = .ok (.if_icmp .ge 30, 3) := by decide +kernel
theorem dX5_few_37 : decode cX5_few 37 = .ok (.iload_n 3, 1) := by decide +kernel
theorem dX5_few_38 : decode cX5_few 38 = .ok (.aload_n 0, 1) := by decide +kernel
theorem dX5_few_39 : decode cX5_few 39 = .ok (.iload 4, 2) := by decide +kernel
theorem dX5_few_41 : decode cX5_few 41 = .ok (.iload_n 1, 1) := by decide +kernel
theorem dX5_few_42 : decode cX5_few 42 = .ok (.invokevirtual 158, 3) := by decide +kernel
theorem dX5_few_45 : decode cX5_few 45 = .ok (.ifCond .eq 7, 3) := by decide +kernel
theorem dX5_few_48 : decode cX5_few 48 = .ok (.iconst 0, 1) := by decide +kernel
theorem dX5_few_49 : decode cX5_few 49 = .ok (.goto 7, 3) := by decide +kernel
theorem dX5_few_52 : decode cX5_few 52 = .ok (.iconst 1, 1) := by decide +kernel
theorem dX5_few_53 : decode cX5_few 53 = .ok (.iload 4, 2) := by decide +kernel
theorem dX5_few_55 : decode cX5_few 55 = .ok (.ishl, 1) := by decide +kernel
theorem dX5_few_56 : decode cX5_few 56 = .ok (.ior, 1) := by decide +kernel
theorem dX5_few_57 : decode cX5_few 57 = .ok (.istore_n 3, 1) := by decide +kernel
theorem dX5_few_58 : decode cX5_few 58 = .ok (.iinc 4 1, 3) := by decide +kernel
theorem dX5_few_61 : decode cX5_few 61 = .ok (.goto (-33), 3) := by decide +kernel
theorem dX5_few_64 : decode cX5_few 64 = .ok (.bipush (-9), 2) := by decide +kernel
theorem dX5_few_66 : decode cX5_few 66 = .ok (.istore 4, 2) := by decide +kernel
theorem dX5_few_68 : decode cX5_few 68 = .ok (.iconst 0, 1) := by decide +kernel
theorem dX5_few_69 : decode cX5_few 69 = .ok (.istore 5, 2) := by decide +kernel
theorem dX5_few_71 : decode cX5_few 71 = .ok (.iload 5, 2) := by decide +kernel
theorem dX5_few_73 : decode cX5_few 73 = .ok (.iconst 1, 1) := by decide +kernel
theorem dX5_few_74 : decode cX5_few 74 = .ok (.aload_n 0, 1) := by decide +kernel
theorem dX5_few_75 : decode cX5_few 75 = .ok (.getfield 140, 3) := by decide +kernel
theorem dX5_few_78 : decode cX5_few 78 = .ok (.ishl, 1) := by decide +kernel
theorem dX5_few_79 : decode cX5_few 79 = .ok (.if_icmp .ge 109, 3) := by decide +kernel
theorem dX5_few_82 : decode cX5_few 82 = .ok (.iload 5, 2) := by decide +kernel
theorem dX5_few_84 : decode cX5_few 84 = .ok (.iload_n 3, 1) := by decide +kernel
theorem dX5_few_85 : decode cX5_few 85 = .ok (.iconst (-1), 1) := by decide +kernel
theorem dX5_few_86 : decode cX5_few 86 = .ok (.ixor, 1) := by decide +kernel
theorem dX5_few_87 : decode cX5_few 87 = .ok (.iand, 1) := by decide +kernel
theorem dX5_few_88 : decode cX5_few 88 = .ok (.ifCond .ne 94, 3) := by decide +kernel
theorem dX5_few_91 : decode cX5_few 91 = .ok (.iload 4, 2) := by decide +kernel
theorem dX5_few_93 : decode cX5_few 93 = .ok (.bipush (-9), 2) := by decide +kernel
theorem dX5_few_95 : decode cX5_few 95 = .ok (.if_icmp .eq 16, 3) := by decide +kernel
theorem dX5_few_98 : decode cX5_few 98 = .ok (.iload 5, 2) := by decide +kernel
theorem dX5_few_100 : decode cX5_few 100 = .ok (.invokestatic 177, 3) := by decide +kernel
theorem dX5_few_103 : decode cX5_few 103 = .ok (.iload 4, 2) := by decide +kernel
theorem dX5_few_105 : decode cX5_few 105 = .ok (.invokestatic 177, 3) := by decide +kernel
theorem dX5_few_108 : decode cX5_few 108 = .ok (.if_icmp .ge 74, 3) := by decide +kernel
theorem dX5_few_111 : decode cX5_few 111 = .ok (.iconst 0, 1) := by decide +kernel
theorem dX5_few_112 : decode cX5_few 112 = .ok (.istore 6, 2) := by decide +kernel
theorem dX5_few_114 : decode cX5_few 114 = .ok (.iload 6, 2) := by decide +kernel
theorem dX5_few_116 : decode cX5_few 116 = .ok (.aload_n 0, 1) := by decide +kernel
theorem dX5_few_117 : decode cX5_few 117 = .ok (.getfield 140, 3) := by decide +kernel
theorem dX5_few_120 : decode cX5_few 120 = .ok (.if_icmp .ge 40, 3) := by decide +kernel
theorem dX5_few_123 : decode cX5_few 123 = .ok (.aload_n 0, 1) := by decide +kernel
theorem dX5_few_124 : decode cX5_few 124 = .ok (.getfield 29, 3) := by decide +kernel
theorem dX5_few_127 : decode cX5_few 127 = .ok (.iconst 4, 1) := by decide +kernel
theorem dX5_few_128 : decode cX5_few 128 = .ok (.iload 6, 2) := by decide +kernel
theorem dX5_few_130 : decode cX5_few 130 = .ok (.imul, 1) := by decide +kernel
theorem dX5_few_131 : decode cX5_few 131 = .ok (.iconst 2, 1) := by decide +kernel
theorem dX5_few_132 : decode cX5_few 132 = .ok (.iadd, 1) := by decide +kernel
theorem dX5_few_133 : decode cX5_few 133 = .ok (.dup2, 1) := by decide +kernel
theorem dX5_few_134 : decode cX5_few 134 = .ok (.iaload, 1) := by decide +kernel
theorem dX5_few_135 : decode cX5_few 135 = .ok (.iload 5, 2) := by decide +kernel
theorem dX5_few_137 : decode cX5_few 137 = .ok (.iload 6, 2) := by decide +kernel
theorem dX5_few_139 : decode cX5_few 139 = .ok (.invokestatic 149, 3) := by decide +kernel
theorem dX5_few_142 : decode cX5_few 142 = .ok (.ifCond .eq 9, 3) := by decide +kernel
theorem dX5_few_145 : decode cX5_few 145 = .ok (.iconst 1, 1) := by decide +kernel
theorem dX5_few_146 : decode cX5_few 146 = .ok (.iload_n 1, 1) := by decide +kernel
theorem dX5_few_147 : decode cX5_few 147 = .ok (.ishl, 1) := by decide +kernel
theorem dX5_few_148 : decode cX5_few 148 = .ok (.goto 4, 3) := by decide +kernel
theorem dX5_few_151 : decode cX5_few 151 = .ok (.iconst 0, 1) := by decide +kernel
theorem dX5_few_152 : decode cX5_few 152 = .ok (.ior, 1) := by decide +kernel
theorem dX5_few_153 : decode cX5_few 153 = .ok (.iastore, 1) := by decide +kernel
theorem dX5_few_154 : decode cX5_few 154 = .ok (.iinc 6 1, 3) := by decide +kernel
theorem dX5_few_157 : decode cX5_few 157 = .ok (.goto (-43), 3) := by decide +kernel
theorem dX5_few_160 : decode cX5_few 160 = .ok (.aload_n 0, 1) := by decide +kernel
theorem dX5_few_161 : decode cX5_few 161 = .ok (.iload_n 1, 1) := by decide +kernel
theorem dX5_few_162 : decode cX5_few 162 = .ok (.invokevirtual 201, 3) := by decide +kernel
theorem dX5_few_165 : decode cX5_few 165 = .ok (.iload_n 2, 1) := by decide +kernel
theorem dX5_few_166 : decode cX5_few 166 = .ok (.if_icmp .lt 8, 3) := by decide +kernel
theorem dX5_few_169 : decode cX5_few 169 = .ok (.iload 5, 2) := by decide +kernel
theorem dX5_few_171 : decode cX5_few 171 = .ok (.goto 5, 3) := by decide +kernel
theorem dX5_few_174 : decode cX5_few 174 = .ok (.iload 4, 2) := by decide +kernel
theorem dX5_few_176 : decode cX5_few 176 = .ok (.istore 4, 2) := by decide +kernel
theorem dX5_few_178 : decode cX5_few 178 = .ok (.aload_n 0, 1) := by decide +kernel
theorem dX5_few_179 : decode cX5_few 179 = .ok (.invokevirtual 255, 3) := by decide +kernel
theorem dX5_few_182 : decode cX5_few 182 = .ok (.iinc 5 1, 3) := by decide +kernel
theorem dX5_few_185 : decode cX5_few 185 = .ok (.goto (-114), 3) := by decide +kernel
theorem dX5_few_188 : decode cX5_few 188 = .ok (.iload 4, 2) := by decide +kernel
theorem dX5_few_190 : decode cX5_few 190 = .ok (.bipush (-9), 2) := by decide +kernel
theorem dX5_few_192 : decode cX5_few 192 = .ok (.if_icmp .ne 8, 3) := by decide +kernel
theorem dX5_few_195 : decode cX5_few 195 = .ok (.bipush (-9), 2) := by decide +kernel
theorem dX5_few_197 : decode cX5_few 197 = .ok (.goto 14, 3) := by decide +kernel
theorem dX5_few_200 : decode cX5_few 200 = .ok (.aload_n 0, 1) := by decide +kernel
theorem dX5_few_201 : decode cX5_few 201 = .ok (.iload 4, 2) := by decide +kernel
theorem dX5_few_203 : decode cX5_few 203 = .ok (.iload 4, 2) := by decide +kernel
theorem dX5_few_205 : decode cX5_few 205 = .ok (.invokestatic 177, 3) := by decide +kernel
theorem dX5_few_208 : decode cX5_few 208 = .ok (.invokevirtual 94, 3) := by decide +kernel
theorem dX5_few_211 : decode cX5_few 211 = .ok (.ireturn, 1) := by decide +kernel
set_option maxRecDepth 20000 in
theorem ggX5_call_X5_layRounds : GoodIn wsX5_call wsX5_layRounds := goodIn_r _ [7, 8, 9, 10, 11, 12, 13, 6, 14, 15, 16, 17, 18, 19, 20, 21, 22, 23, 24, 25, 26, 27, 28, 29, 30, 31, 32, 33, 34, 35, 36, 37, 38, 39, 40, 41, 42, 43, 44, 45, 46, 2, 47, 48, 49, 50, 51, 52, 53, 54, 55, 56, 57, 58, 59, 60, 61, 62, 63, 64, 65, 66, 67, 68, 69, 70, 71, 72, 73, 74, 75, 76, 77, 78, 79, 93, 94, 95, 96, 97, 98, 99, 100, 101, 102, 103, 104, 105, 106, 107, 108, 109, 110, 111, 112, 113, 114, 115, 116, 117, 118, 119, 120, 121, 122] (by decide +kernel) (by decide +kernel)
set_option maxRecDepth 20000 in
theorem gX5_call_X5_layRounds : GoodIn wsX5_call (wsV RX5 240 RX5 yX5_layRounds wsX5_layRounds) := goodIn_app (goodIn_of _ (by decide +kernel)) ggX5_call_X5_layRounds
set_option maxRecDepth 20000 in
theorem ggX5_call_X5_bestCost : GoodIn wsX5_call wsX5_bestCost := goodIn_r _ [83, 9, 84, 85, 86, 6, 87, 93, 94, 95, 96, 97, 98, 99, 100, 101, 102, 103, 104, 105, 106, 107, 108, 109, 110, 111, 112, 113, 114, 115, 116, 117, 118, 119, 120, 121, 122] (by decide +kernel) (by decide +kernel)
set_option maxRecDepth 20000 in
theorem gX5_call_X5_bestCost : GoodIn wsX5_call (wsV RX5 246 RX5 yX5_bestCost wsX5_bestCost) := goodIn_app (goodIn_of _ (by decide +kernel)) ggX5_call_X5_bestCost
set_option maxRecDepth 20000 in
theorem ggX5_call_X5_isOut : GoodIn wsX5_call wsX5_isOut := goodIn_r _ [46, 2, 15, 16, 6, 17, 93, 94, 95, 96, 97, 98, 99, 100, 101, 102, 103, 104, 105, 106, 107, 108, 109, 110, 111, 112, 113, 114, 115, 116, 117, 118, 119, 120, 121, 122] (by decide +kernel) (by decide +kernel)
set_option maxRecDepth 20000 in
theorem gX5_call_X5_isOut : GoodIn wsX5_call (wsV RX5 158 RX5 yX5_isOut wsX5_isOut) := goodIn_app (goodIn_of _ (by decide +kernel)) ggX5_call_X5_isOut
set_option maxRecDepth 20000 in
theorem ggX5_call_X5_paidMany : GoodIn wsX5_call wsX5_paidMany := goodIn_r _ [87, 9, 93, 94, 95, 96, 97, 98, 99, 100, 101, 102, 103, 104, 105, 106, 107, 108, 109, 110, 111, 112, 113, 114, 115, 116, 117, 118, 119, 120, 121, 122] (by decide +kernel) (by decide +kernel)
set_option maxRecDepth 20000 in
theorem gX5_call_X5_paidMany : GoodIn wsX5_call (wsV RX5 237 RX5 yX5_paidMany wsX5_paidMany) := goodIn_app (goodIn_of _ (by decide +kernel)) ggX5_call_X5_paidMany
set_option maxRecDepth 20000 in
theorem ggX5_call_X5_tells : GoodIn wsX5_call wsX5_tells := goodIn_r _ [91, 92, 93, 94, 95, 96, 97, 98, 99, 100, 101, 102, 103, 104, 105, 106, 107, 108, 109, 110, 111, 112, 113, 114, 115, 116, 117, 118, 119, 120, 121, 122] (by decide +kernel) (by decide +kernel)
set_option maxRecDepth 20000 in
theorem gX5_call_X5_tells : GoodIn wsX5_call (wsV RX5 94 RX5 yX5_tells wsX5_tells) := goodIn_app (goodIn_of _ (by decide +kernel)) ggX5_call_X5_tells
theorem dX5_call_0 : decode cX5_call 0 = .ok (.aload_n 0, 1) := by decide +kernel
theorem dX5_call_1 : decode cX5_call 1 = .ok (.bipush 12, 2) := by decide +kernel
theorem dX5_call_3 : decode cX5_call 3 = .ok (.invokevirtual 240, 3) := by decide +kernel
theorem dX5_call_6 : decode cX5_call 6 = .ok (.aload_n 0, 1) := by decide +kernel
theorem dX5_call_7 : decode cX5_call 7 = .ok (.invokevirtual 246, 3) := by decide +kernel
theorem dX5_call_10 : decode cX5_call 10 = .ok (.istore_n 1, 1) := by decide +kernel
theorem dX5_call_11 : decode cX5_call 11 = .ok (.bipush (-9), 2) := by decide +kernel
theorem dX5_call_13 : decode cX5_call 13 = .ok (.istore_n 2, 1) := by decide +kernel
theorem dX5_call_14 : decode cX5_call 14 = .ok (.iconst 0, 1) := by decide +kernel
theorem dX5_call_15 : decode cX5_call 15 = .ok (.istore_n 3, 1) := by decide +kernel
theorem dX5_call_16 : decode cX5_call 16 = .ok (.iconst 0, 1) := by decide +kernel
theorem dX5_call_17 : decode cX5_call 17 = .ok (.istore 4, 2) := by decide +kernel
theorem dX5_call_19 : decode cX5_call 19 = .ok (.iconst 0, 1) := by decide +kernel
theorem dX5_call_20 : decode cX5_call 20 = .ok (.istore 5, 2) := by decide +kernel
theorem dX5_call_22 : decode cX5_call 22 = .ok (.iload 5, 2) := by decide +kernel
theorem dX5_call_24 : decode cX5_call 24 = .ok (.aload_n 0, 1) := by decide +kernel
theorem dX5_call_25 : decode cX5_call 25 = .ok (.getfield 140, 3) := by decide +kernel
theorem dX5_call_28 : decode cX5_call 28 = .ok (.if_icmp .ge 143, 3) := by decide +kernel
theorem dX5_call_31 : decode cX5_call 31 = .ok (.iconst 0, 1) := by decide +kernel
theorem dX5_call_32 : decode cX5_call 32 = .ok (.istore 6, 2) := by decide +kernel
theorem dX5_call_34 : decode cX5_call 34 = .ok (.iload 6, 2) := by decide +kernel
theorem dX5_call_36 : decode cX5_call 36 = .ok (.bipush 12, 2) := by decide +kernel
theorem dX5_call_38 : decode cX5_call 38 = .ok (.if_icmp .ge 127, 3) := by decide +kernel
theorem dX5_call_41 : decode cX5_call 41 = .ok (.aload_n 0, 1) := by decide +kernel
theorem dX5_call_42 : decode cX5_call 42 = .ok (.iload 5, 2) := by decide +kernel
theorem dX5_call_44 : decode cX5_call 44 = .ok (.iload 6, 2) := by decide +kernel
theorem dX5_call_46 : decode cX5_call 46 = .ok (.invokevirtual 158, 3) := by decide +kernel
theorem dX5_call_49 : decode cX5_call 49 = .ok (.ifCond .ne 110, 3) := by decide +kernel
theorem dX5_call_52 : decode cX5_call 52 = .ok (.aload_n 0, 1) := by decide +kernel
theorem dX5_call_53 : decode cX5_call 53 = .ok (.getfield 29, 3) := by decide +kernel
theorem dX5_call_56 : decode cX5_call 56 = .ok (.iconst 4, 1) := by decide +kernel
theorem dX5_call_57 : decode cX5_call 57 = .ok (.iload 5, 2) := by decide +kernel
theorem dX5_call_59 : decode cX5_call 59 = .ok (.imul, 1) := by decide +kernel
theorem dX5_call_60 : decode cX5_call 60 = .ok (.iconst 2, 1) := by decide +kernel
theorem dX5_call_61 : decode cX5_call 61 = .ok (.iadd, 1) := by decide +kernel
theorem dX5_call_62 : decode cX5_call 62 = .ok (.dup2, 1) := by decide +kernel
theorem dX5_call_63 : decode cX5_call 63 = .ok (.iaload, 1) := by decide +kernel
theorem dX5_call_64 : decode cX5_call 64 = .ok (.iconst 1, 1) := by decide +kernel
theorem dX5_call_65 : decode cX5_call 65 = .ok (.iload 6, 2) := by decide +kernel
theorem dX5_call_67 : decode cX5_call 67 = .ok (.ishl, 1) := by decide +kernel
theorem dX5_call_68 : decode cX5_call 68 = .ok (.ixor, 1) := by decide +kernel
theorem dX5_call_69 : decode cX5_call 69 = .ok (.iastore, 1) := by decide +kernel
theorem dX5_call_70 : decode cX5_call 70 = .ok (.aload_n 0, 1) := by decide +kernel
theorem dX5_call_71 : decode cX5_call 71 = .ok (.bipush 12, 2) := by decide +kernel
theorem dX5_call_73 : decode cX5_call 73 = .ok (.invokevirtual 240, 3) := by decide +kernel
theorem dX5_call_76 : decode cX5_call 76 = .ok (.aload_n 0, 1) := by decide +kernel
theorem dX5_call_77 : decode cX5_call 77 = .ok (.getfield 29, 3) := by decide +kernel
theorem dX5_call_80 : decode cX5_call 80 = .ok (.iconst 4, 1) := by decide +kernel
theorem dX5_call_81 : decode cX5_call 81 = .ok (.iload 5, 2) := by decide +kernel
theorem dX5_call_83 : decode cX5_call 83 = .ok (.imul, 1) := by decide +kernel
theorem dX5_call_84 : decode cX5_call 84 = .ok (.iconst 2, 1) := by decide +kernel
theorem dX5_call_85 : decode cX5_call 85 = .ok (.iadd, 1) := by decide +kernel
theorem dX5_call_86 : decode cX5_call 86 = .ok (.dup2, 1) := by decide +kernel
theorem dX5_call_87 : decode cX5_call 87 = .ok (.iaload, 1) := by decide +kernel
theorem dX5_call_88 : decode cX5_call 88 = .ok (.iconst 1, 1) := by decide +kernel
theorem dX5_call_89 : decode cX5_call 89 = .ok (.iload 6, 2) := by decide +kernel
theorem dX5_call_91 : decode cX5_call 91 = .ok (.ishl, 1) := by decide +kernel
theorem dX5_call_92 : decode cX5_call 92 = .ok (.ixor, 1) := by decide +kernel
theorem dX5_call_93 : decode cX5_call 93 = .ok (.iastore, 1) := by decide +kernel
theorem dX5_call_94 : decode cX5_call 94 = .ok (.aload_n 0, 1) := by decide +kernel
theorem dX5_call_95 : decode cX5_call 95 = .ok (.invokevirtual 237, 3) := by decide +kernel
theorem dX5_call_98 : decode cX5_call 98 = .ok (.istore 7, 2) := by decide +kernel
theorem dX5_call_100 : decode cX5_call 100 = .ok (.aload_n 0, 1) := by decide +kernel
theorem dX5_call_101 : decode cX5_call 101 = .ok (.invokevirtual 246, 3) := by decide +kernel
theorem dX5_call_104 : decode cX5_call 104 = .ok (.aload_n 0, 1) := by decide +kernel
theorem dX5_call_105 : decode cX5_call 105 = .ok (.getfield 29, 3) := by decide +kernel
theorem dX5_call_108 : decode cX5_call 108 = .ok (.iconst 4, 1) := by decide +kernel
theorem dX5_call_109 : decode cX5_call 109 = .ok (.iload 5, 2) := by decide +kernel
theorem dX5_call_111 : decode cX5_call 111 = .ok (.imul, 1) := by decide +kernel
theorem dX5_call_112 : decode cX5_call 112 = .ok (.iconst 3, 1) := by decide +kernel
theorem dX5_call_113 : decode cX5_call 113 = .ok (.iadd, 1) := by decide +kernel
theorem dX5_call_114 : decode cX5_call 114 = .ok (.iaload, 1) := by decide +kernel
theorem dX5_call_115 : decode cX5_call 115 = .ok (.iadd, 1) := by decide +kernel
theorem dX5_call_116 : decode cX5_call 116 = .ok (.istore 8, 2) := by decide +kernel
theorem dX5_call_118 : decode cX5_call 118 = .ok (.iload_n 2, 1) := by decide +kernel
theorem dX5_call_119 : decode cX5_call 119 = .ok (.bipush (-9), 2) := by decide +kernel
theorem dX5_call_121 : decode cX5_call 121 = .ok (.if_icmp .eq 22, 3) := by decide +kernel
theorem dX5_call_124 : decode cX5_call 124 = .ok (.iload 7, 2) := by decide +kernel
theorem dX5_call_126 : decode cX5_call 126 = .ok (.iload_n 3, 1) := by decide +kernel
theorem dX5_call_127 : decode cX5_call 127 = .ok (.if_icmp .gt 16, 3) := by decide +kernel
theorem dX5_call_130 : decode cX5_call 130 = .ok (.iload 7, 2) := by decide +kernel
theorem dX5_call_132 : decode cX5_call 132 = .ok (.iload_n 3, 1) := by decide +kernel
theorem dX5_call_133 : decode cX5_call 133 = .ok (.if_icmp .ne 26, 3) := by decide +kernel
theorem dX5_call_136 : decode cX5_call 136 = .ok (.iload 8, 2) := by decide +kernel
theorem dX5_call_138 : decode cX5_call 138 = .ok (.iload 4, 2) := by decide +kernel
theorem dX5_call_140 : decode cX5_call 140 = .ok (.if_icmp .ge 19, 3) := by decide +kernel
theorem dX5_call_143 : decode cX5_call 143 = .ok (.bipush 100, 2) := by decide +kernel
theorem dX5_call_145 : decode cX5_call 145 = .ok (.iload 5, 2) := by decide +kernel
theorem dX5_call_147 : decode cX5_call 147 = .ok (.imul, 1) := by decide +kernel
theorem dX5_call_148 : decode cX5_call 148 = .ok (.iload 6, 2) := by decide +kernel
theorem dX5_call_150 : decode cX5_call 150 = .ok (.iadd, 1) := by decide +kernel
theorem dX5_call_151 : decode cX5_call 151 = .ok (.istore_n 2, 1) := by decide +kernel
theorem dX5_call_152 : decode cX5_call 152 = .ok (.iload 7, 2) := by decide +kernel
theorem dX5_call_154 : decode cX5_call 154 = .ok (.istore_n 3, 1) := by decide +kernel
theorem dX5_call_155 : decode cX5_call 155 = .ok (.iload 8, 2) := by decide +kernel
theorem dX5_call_157 : decode cX5_call 157 = .ok (.istore 4, 2) := by decide +kernel
theorem dX5_call_159 : decode cX5_call 159 = .ok (.iinc 6 1, 3) := by decide +kernel
theorem dX5_call_162 : decode cX5_call 162 = .ok (.goto (-128), 3) := by decide +kernel
theorem dX5_call_165 : decode cX5_call 165 = .ok (.iinc 5 1, 3) := by decide +kernel
theorem dX5_call_168 : decode cX5_call 168 = .ok (.goto (-146), 3) := by decide +kernel
theorem dX5_call_171 : decode cX5_call 171 = .ok (.iload_n 2, 1) := by decide +kernel
theorem dX5_call_172 : decode cX5_call 172 = .ok (.bipush (-9), 2) := by decide +kernel
theorem dX5_call_174 : decode cX5_call 174 = .ok (.if_icmp .ne 8, 3) := by decide +kernel
theorem dX5_call_177 : decode cX5_call 177 = .ok (.bipush (-9), 2) := by decide +kernel
theorem dX5_call_179 : decode cX5_call 179 = .ok (.goto 12, 3) := by decide +kernel
theorem dX5_call_182 : decode cX5_call 182 = .ok (.aload_n 0, 1) := by decide +kernel
theorem dX5_call_183 : decode cX5_call 183 = .ok (.iload_n 1, 1) := by decide +kernel
theorem dX5_call_184 : decode cX5_call 184 = .ok (.iload 4, 2) := by decide +kernel
theorem dX5_call_186 : decode cX5_call 186 = .ok (.isub, 1) := by decide +kernel
theorem dX5_call_187 : decode cX5_call 187 = .ok (.iload_n 2, 1) := by decide +kernel
theorem dX5_call_188 : decode cX5_call 188 = .ok (.invokevirtual 94, 3) := by decide +kernel
theorem dX5_call_191 : decode cX5_call 191 = .ok (.ireturn, 1) := by decide +kernel
set_option maxRecDepth 20000 in
theorem ggX5_paidTo_X5_layRound : GoodIn wsX5_paidTo wsX5_layRound := goodIn_r _ [7, 1, 2, 8, 9, 10, 11, 12, 6, 13, 14, 15, 16, 17, 18, 19, 20, 21, 22, 23, 24, 25, 26, 27, 28, 29, 30, 31, 32, 33, 34, 35, 36, 37, 38, 39, 40, 41, 42, 43, 44, 45, 46, 47, 48, 49, 50, 51, 52, 53, 54, 55, 56, 57, 58, 59, 60, 61, 62, 63, 64, 65, 66, 67, 68, 69, 70, 71, 72, 73, 74, 75, 76, 77, 78, 79, 80, 81, 82, 83, 84, 85, 86, 87, 88, 89, 90, 91, 92, 93, 94, 95, 96, 97, 98, 99, 100, 101, 102, 103, 104, 105, 106, 107, 108, 109, 110, 111, 112, 113] (by decide +kernel) (by decide +kernel)
set_option maxRecDepth 20000 in
theorem gX5_paidTo_X5_layRound : GoodIn wsX5_paidTo (wsV RX5 243 RX5 yX5_layRound wsX5_layRound) := goodIn_app (goodIn_of _ (by decide +kernel)) ggX5_paidTo_X5_layRound
set_option maxRecDepth 20000 in
theorem ggX5_paidTo_X5_debtAt : GoodIn wsX5_paidTo wsX5_debtAt := goodIn_r _ [29, 30, 84, 85, 86, 87, 88, 89, 90, 91, 92, 93, 94, 95, 96, 97, 98, 99, 100, 101, 102, 103, 104, 105, 106, 107, 108, 109, 110, 111, 112, 113] (by decide +kernel) (by decide +kernel)
set_option maxRecDepth 20000 in
theorem gX5_paidTo_X5_debtAt : GoodIn wsX5_paidTo (wsV RX5 164 RX5 yX5_debtAt wsX5_debtAt) := goodIn_app (goodIn_of _ (by decide +kernel)) ggX5_paidTo_X5_debtAt
set_option maxRecDepth 20000 in
theorem ggX5_paidTo_X5_costOf : GoodIn wsX5_paidTo wsX5_costOf := goodIn_r _ [25, 26, 27, 28, 6, 29, 30, 84, 85, 86, 87, 88, 89, 90, 91, 92, 93, 94, 95, 96, 97, 98, 99, 100, 101, 102, 103, 104, 105, 106, 107, 108, 109, 110, 111, 112, 113] (by decide +kernel) (by decide +kernel)
set_option maxRecDepth 20000 in
theorem gX5_paidTo_X5_costOf : GoodIn wsX5_paidTo (wsV RX5 214 RX5 yX5_costOf wsX5_costOf) := goodIn_app (goodIn_of _ (by decide +kernel)) ggX5_paidTo_X5_costOf
theorem dX5_paidTo_0 : decode cX5_paidTo 0 = .ok (.aload_n 0, 1) := by decide +kernel
theorem dX5_paidTo_1 : decode cX5_paidTo 1 = .ok (.invokevirtual 243, 3) := by decide +kernel
theorem dX5_paidTo_4 : decode cX5_paidTo 4 = .ok (.iconst 0, 1) := by decide +kernel
theorem dX5_paidTo_5 : decode cX5_paidTo 5 = .ok (.istore_n 2, 1) := by decide +kernel
theorem dX5_paidTo_6 : decode cX5_paidTo 6 = .ok (.iconst 0, 1) := by decide +kernel
theorem dX5_paidTo_7 : decode cX5_paidTo 7 = .ok (.istore_n 3, 1) := by decide +kernel
theorem dX5_paidTo_8 : decode cX5_paidTo 8 = .ok (.iload_n 3, 1) := by decide +kernel
theorem dX5_paidTo_9 : decode cX5_paidTo 9 = .ok (.aload_n 0, 1) := by decide +kernel
theorem dX5_paidTo_10 : decode cX5_paidTo 10 = .ok (.getfield 143, 3) := by decide +kernel
theorem dX5_paidTo_13 : decode cX5_paidTo 13 = .ok (.if_icmp .ge 48, 3) := by decide +kernel
theorem dX5_paidTo_16 : decode cX5_paidTo 16 = .ok (.iload_n 2, 1) := by decide +kernel
theorem dX5_paidTo_17 : decode cX5_paidTo 17 = .ok (.aload_n 0, 1) := by decide +kernel
theorem dX5_paidTo_18 : decode cX5_paidTo 18 = .ok (.iload_n 3, 1) := by decide +kernel
theorem dX5_paidTo_19 : decode cX5_paidTo 19 = .ok (.iconst 1, 1) := by decide +kernel
theorem dX5_paidTo_20 : decode cX5_paidTo 20 = .ok (.invokevirtual 164, 3) := by decide +kernel
theorem dX5_paidTo_23 : decode cX5_paidTo 23 = .ok (.iload_n 1, 1) := by decide +kernel
theorem dX5_paidTo_24 : decode cX5_paidTo 24 = .ok (.if_icmp .ne 28, 3) := by decide +kernel
theorem dX5_paidTo_27 : decode cX5_paidTo 27 = .ok (.aload_n 0, 1) := by decide +kernel
theorem dX5_paidTo_28 : decode cX5_paidTo 28 = .ok (.getfield 41, 3) := by decide +kernel
theorem dX5_paidTo_31 : decode cX5_paidTo 31 = .ok (.iload_n 3, 1) := by decide +kernel
theorem dX5_paidTo_32 : decode cX5_paidTo 32 = .ok (.iaload, 1) := by decide +kernel
theorem dX5_paidTo_33 : decode cX5_paidTo 33 = .ok (.bipush (-9), 2) := by decide +kernel
theorem dX5_paidTo_35 : decode cX5_paidTo 35 = .ok (.if_icmp .eq 17, 3) := by decide +kernel
theorem dX5_paidTo_38 : decode cX5_paidTo 38 = .ok (.aload_n 0, 1) := by decide +kernel
theorem dX5_paidTo_39 : decode cX5_paidTo 39 = .ok (.iload_n 3, 1) := by decide +kernel
theorem dX5_paidTo_40 : decode cX5_paidTo 40 = .ok (.aload_n 0, 1) := by decide +kernel
theorem dX5_paidTo_41 : decode cX5_paidTo 41 = .ok (.getfield 41, 3) := by decide +kernel
theorem dX5_paidTo_44 : decode cX5_paidTo 44 = .ok (.iload_n 3, 1) := by decide +kernel
theorem dX5_paidTo_45 : decode cX5_paidTo 45 = .ok (.iaload, 1) := by decide +kernel
theorem dX5_paidTo_46 : decode cX5_paidTo 46 = .ok (.invokevirtual 214, 3) := by decide +kernel
theorem dX5_paidTo_49 : decode cX5_paidTo 49 = .ok (.goto 4, 3) := by decide +kernel
theorem dX5_paidTo_52 : decode cX5_paidTo 52 = .ok (.iconst 0, 1) := by decide +kernel
theorem dX5_paidTo_53 : decode cX5_paidTo 53 = .ok (.iadd, 1) := by decide +kernel
theorem dX5_paidTo_54 : decode cX5_paidTo 54 = .ok (.istore_n 2, 1) := by decide +kernel
theorem dX5_paidTo_55 : decode cX5_paidTo 55 = .ok (.iinc 3 1, 3) := by decide +kernel
theorem dX5_paidTo_58 : decode cX5_paidTo 58 = .ok (.goto (-50), 3) := by decide +kernel
theorem dX5_paidTo_61 : decode cX5_paidTo 61 = .ok (.iload_n 2, 1) := by decide +kernel
theorem dX5_paidTo_62 : decode cX5_paidTo 62 = .ok (.ireturn, 1) := by decide +kernel
set_option maxRecDepth 20000 in
theorem ggX5_stay_X5_isOne : GoodIn wsX5_stay wsX5_isOne := goodIn_r _ [6, 7, 8, 9, 5, 10, 101, 102, 103, 104, 105, 106, 107, 108, 109, 110, 111, 112, 113, 114, 115, 116, 117, 118, 119, 120, 121, 122, 123, 124, 125, 126, 127, 128, 129, 130] (by decide +kernel) (by decide +kernel)
set_option maxRecDepth 20000 in
theorem gX5_stay_X5_isOne : GoodIn wsX5_stay (wsV RX5 155 RX5 yX5_isOne wsX5_isOne) := goodIn_app (goodIn_of _ (by decide +kernel)) ggX5_stay_X5_isOne
set_option maxRecDepth 20000 in
theorem ggX5_stay_X5_paidTo : GoodIn wsX5_stay wsX5_paidTo := goodIn_r _ [14, 15, 16, 17, 18, 19, 5, 20, 21, 22, 23, 24, 25, 26, 27, 28, 29, 30, 31, 32, 33, 34, 35, 36, 37, 38, 39, 40, 41, 42, 43, 44, 45, 46, 47, 48, 49, 50, 51, 52, 53, 54, 55, 56, 57, 58, 59, 60, 61, 62, 1, 63, 64, 65, 66, 67, 68, 69, 70, 71, 72, 73, 74, 75, 76, 77, 78, 79, 80, 81, 82, 83, 84, 85, 86, 87, 88, 89, 90, 91, 92, 93, 94, 95, 101, 102, 103, 104, 105, 106, 107, 108, 109, 110, 111, 112, 113, 114, 115, 116, 117, 118, 119, 120, 121, 122, 123, 124, 125, 126, 127, 128, 129, 130] (by decide +kernel) (by decide +kernel)
set_option maxRecDepth 20000 in
theorem gX5_stay_X5_paidTo : GoodIn wsX5_stay (wsV RX5 258 RX5 yX5_paidTo wsX5_paidTo) := goodIn_app (goodIn_of _ (by decide +kernel)) ggX5_stay_X5_paidTo
set_option maxRecDepth 20000 in
theorem ggX5_stay_X5_isOut : GoodIn wsX5_stay wsX5_isOut := goodIn_r _ [62, 1, 32, 33, 5, 34, 101, 102, 103, 104, 105, 106, 107, 108, 109, 110, 111, 112, 113, 114, 115, 116, 117, 118, 119, 120, 121, 122, 123, 124, 125, 126, 127, 128, 129, 130] (by decide +kernel) (by decide +kernel)
set_option maxRecDepth 20000 in
theorem gX5_stay_X5_isOut : GoodIn wsX5_stay (wsV RX5 158 RX5 yX5_isOut wsX5_isOut) := goodIn_app (goodIn_of _ (by decide +kernel)) ggX5_stay_X5_isOut
set_option maxRecDepth 20000 in
theorem ggX5_stay_X5_tells : GoodIn wsX5_stay wsX5_tells := goodIn_r _ [99, 100, 101, 102, 103, 104, 105, 106, 107, 108, 109, 110, 111, 112, 113, 114, 115, 116, 117, 118, 119, 120, 121, 122, 123, 124, 125, 126, 127, 128, 129, 130] (by decide +kernel) (by decide +kernel)
set_option maxRecDepth 20000 in
theorem gX5_stay_X5_tells : GoodIn wsX5_stay (wsV RX5 94 RX5 yX5_tells wsX5_tells) := goodIn_app (goodIn_of _ (by decide +kernel)) ggX5_stay_X5_tells
theorem dX5_stay_0 : decode cX5_stay 0 = .ok (.aload_n 0, 1) := by decide +kernel
theorem dX5_stay_1 : decode cX5_stay 1 = .ok (.iload_n 1, 1) := by decide +kernel
theorem dX5_stay_2 : decode cX5_stay 2 = .ok (.invokevirtual 155, 3) := by decide +kernel
theorem dX5_stay_5 : decode cX5_stay 5 = .ok (.ifCond .ne 5, 3) := by decide +kernel
theorem dX5_stay_8 : decode cX5_stay 8 = .ok (.iconst (-1), 1) := by decide +kernel
theorem dX5_stay_9 : decode cX5_stay 9 = .ok (.ireturn, 1) := by decide +kernel
theorem dX5_stay_10 : decode cX5_stay 10 = .ok (.aload_n 0, 1) := by decide +kernel
theorem dX5_stay_11 : decode cX5_stay 11 = .ok (.iload_n 1, 1) := by decide +kernel
theorem dX5_stay_12 : decode cX5_stay 12 = .ok (.invokevirtual 258, 3) := by decide +kernel
theorem dX5_stay_15 : decode cX5_stay 15 = .ok (.istore_n 2, 1) := by decide +kernel
theorem dX5_stay_16 : decode cX5_stay 16 = .ok (.bipush (-9), 2) := by decide +kernel
theorem dX5_stay_18 : decode cX5_stay 18 = .ok (.istore_n 3, 1) := by decide +kernel
theorem dX5_stay_19 : decode cX5_stay 19 = .ok (.iconst 0, 1) := by decide +kernel
theorem dX5_stay_20 : decode cX5_stay 20 = .ok (.istore 4, 2) := by decide +kernel
theorem dX5_stay_22 : decode cX5_stay 22 = .ok (.iconst 0, 1) := by decide +kernel
theorem dX5_stay_23 : decode cX5_stay 23 = .ok (.istore 5, 2) := by decide +kernel
theorem dX5_stay_25 : decode cX5_stay 25 = .ok (.iload 5, 2) := by decide +kernel
theorem dX5_stay_27 : decode cX5_stay 27 = .ok (.bipush 12, 2) := by decide +kernel
theorem dX5_stay_29 : decode cX5_stay 29 = .ok (.if_icmp .ge 80, 3) := by decide +kernel
theorem dX5_stay_32 : decode cX5_stay 32 = .ok (.aload_n 0, 1) := by decide +kernel
theorem dX5_stay_33 : decode cX5_stay 33 = .ok (.iload_n 1, 1) := by decide +kernel
theorem dX5_stay_34 : decode cX5_stay 34 = .ok (.iload 5, 2) := by decide +kernel
theorem dX5_stay_36 : decode cX5_stay 36 = .ok (.invokevirtual 158, 3) := by decide +kernel
theorem dX5_stay_39 : decode cX5_stay 39 = .ok (.ifCond .eq 64, 3) := by decide +kernel
theorem dX5_stay_42 : decode cX5_stay 42 = .ok (.aload_n 0, 1) := by decide +kernel
theorem dX5_stay_43 : decode cX5_stay 43 = .ok (.getfield 29, 3) := by decide +kernel
theorem dX5_stay_46 : decode cX5_stay 46 = .ok (.iconst 4, 1) := by decide +kernel
theorem dX5_stay_47 : decode cX5_stay 47 = .ok (.iload_n 1, 1) := by decide +kernel
theorem dX5_stay_48 : decode cX5_stay 48 = .ok (.imul, 1) := by decide +kernel
theorem dX5_stay_49 : decode cX5_stay 49 = .ok (.iconst 2, 1) := by decide +kernel
theorem dX5_stay_50 : decode cX5_stay 50 = .ok (.iadd, 1) := by decide +kernel
theorem dX5_stay_51 : decode cX5_stay 51 = .ok (.dup2, 1) := by decide +kernel
theorem dX5_stay_52 : decode cX5_stay 52 = .ok (.iaload, 1) := by decide +kernel
theorem dX5_stay_53 : decode cX5_stay 53 = .ok (.iconst 1, 1) := by decide +kernel
theorem dX5_stay_54 : decode cX5_stay 54 = .ok (.iload 5, 2) := by decide +kernel
theorem dX5_stay_56 : decode cX5_stay 56 = .ok (.ishl, 1) := by decide +kernel
theorem dX5_stay_57 : decode cX5_stay 57 = .ok (.ixor, 1) := by decide +kernel
theorem dX5_stay_58 : decode cX5_stay 58 = .ok (.iastore, 1) := by decide +kernel
theorem dX5_stay_59 : decode cX5_stay 59 = .ok (.aload_n 0, 1) := by decide +kernel
theorem dX5_stay_60 : decode cX5_stay 60 = .ok (.iload_n 1, 1) := by decide +kernel
theorem dX5_stay_61 : decode cX5_stay 61 = .ok (.invokevirtual 258, 3) := by decide +kernel
theorem dX5_stay_64 : decode cX5_stay 64 = .ok (.istore 6, 2) := by decide +kernel
theorem dX5_stay_66 : decode cX5_stay 66 = .ok (.aload_n 0, 1) := by decide +kernel
theorem dX5_stay_67 : decode cX5_stay 67 = .ok (.getfield 29, 3) := by decide +kernel
theorem dX5_stay_70 : decode cX5_stay 70 = .ok (.iconst 4, 1) := by decide +kernel
theorem dX5_stay_71 : decode cX5_stay 71 = .ok (.iload_n 1, 1) := by decide +kernel
theorem dX5_stay_72 : decode cX5_stay 72 = .ok (.imul, 1) := by decide +kernel
theorem dX5_stay_73 : decode cX5_stay 73 = .ok (.iconst 2, 1) := by decide +kernel
theorem dX5_stay_74 : decode cX5_stay 74 = .ok (.iadd, 1) := by decide +kernel
theorem dX5_stay_75 : decode cX5_stay 75 = .ok (.dup2, 1) := by decide +kernel
theorem dX5_stay_76 : decode cX5_stay 76 = .ok (.iaload, 1) := by decide +kernel
theorem dX5_stay_77 : decode cX5_stay 77 = .ok (.iconst 1, 1) := by decide +kernel
theorem dX5_stay_78 : decode cX5_stay 78 = .ok (.iload 5, 2) := by decide +kernel
theorem dX5_stay_80 : decode cX5_stay 80 = .ok (.ishl, 1) := by decide +kernel
theorem dX5_stay_81 : decode cX5_stay 81 = .ok (.ixor, 1) := by decide +kernel
theorem dX5_stay_82 : decode cX5_stay 82 = .ok (.iastore, 1) := by decide +kernel
theorem dX5_stay_83 : decode cX5_stay 83 = .ok (.iload_n 3, 1) := by decide +kernel
theorem dX5_stay_84 : decode cX5_stay 84 = .ok (.bipush (-9), 2) := by decide +kernel
theorem dX5_stay_86 : decode cX5_stay 86 = .ok (.if_icmp .eq 10, 3) := by decide +kernel
theorem dX5_stay_89 : decode cX5_stay 89 = .ok (.iload 6, 2) := by decide +kernel
theorem dX5_stay_91 : decode cX5_stay 91 = .ok (.iload 4, 2) := by decide +kernel
theorem dX5_stay_93 : decode cX5_stay 93 = .ok (.if_icmp .le 10, 3) := by decide +kernel
theorem dX5_stay_96 : decode cX5_stay 96 = .ok (.iload 5, 2) := by decide +kernel
theorem dX5_stay_98 : decode cX5_stay 98 = .ok (.istore_n 3, 1) := by decide +kernel
theorem dX5_stay_99 : decode cX5_stay 99 = .ok (.iload 6, 2) := by decide +kernel
theorem dX5_stay_101 : decode cX5_stay 101 = .ok (.istore 4, 2) := by decide +kernel
theorem dX5_stay_103 : decode cX5_stay 103 = .ok (.iinc 5 1, 3) := by decide +kernel
theorem dX5_stay_106 : decode cX5_stay 106 = .ok (.goto (-81), 3) := by decide +kernel
theorem dX5_stay_109 : decode cX5_stay 109 = .ok (.iload_n 3, 1) := by decide +kernel
theorem dX5_stay_110 : decode cX5_stay 110 = .ok (.bipush (-9), 2) := by decide +kernel
theorem dX5_stay_112 : decode cX5_stay 112 = .ok (.if_icmp .ne 8, 3) := by decide +kernel
theorem dX5_stay_115 : decode cX5_stay 115 = .ok (.bipush (-9), 2) := by decide +kernel
theorem dX5_stay_117 : decode cX5_stay 117 = .ok (.goto 12, 3) := by decide +kernel
theorem dX5_stay_120 : decode cX5_stay 120 = .ok (.aload_n 0, 1) := by decide +kernel
theorem dX5_stay_121 : decode cX5_stay 121 = .ok (.iload 4, 2) := by decide +kernel
theorem dX5_stay_123 : decode cX5_stay 123 = .ok (.iload_n 2, 1) := by decide +kernel
theorem dX5_stay_124 : decode cX5_stay 124 = .ok (.isub, 1) := by decide +kernel
theorem dX5_stay_125 : decode cX5_stay 125 = .ok (.iload_n 3, 1) := by decide +kernel
theorem dX5_stay_126 : decode cX5_stay 126 = .ok (.invokevirtual 94, 3) := by decide +kernel
theorem dX5_stay_129 : decode cX5_stay 129 = .ok (.ireturn, 1) := by decide +kernel
set_option maxRecDepth 20000 in
theorem ggX5_against_X5_isDebt : GoodIn wsX5_against wsX5_isDebt := goodIn_r _ [5, 6, 7, 8, 4, 9, 20, 21, 22, 23, 24, 25, 26, 27, 28, 29, 30, 31, 32, 33, 34, 35, 36, 37, 38, 39, 40, 41, 42, 43, 44, 45, 46, 47, 48, 49] (by decide +kernel) (by decide +kernel)
set_option maxRecDepth 20000 in
theorem gX5_against_X5_isDebt : GoodIn wsX5_against (wsV RX5 180 RX5 yX5_isDebt wsX5_isDebt) := goodIn_app (goodIn_of _ (by decide +kernel)) ggX5_against_X5_isDebt
set_option maxRecDepth 20000 in
theorem ggX5_against_X5_debtAt : GoodIn wsX5_against wsX5_debtAt := goodIn_r _ [13, 14, 20, 21, 22, 23, 24, 25, 26, 27, 28, 29, 30, 31, 32, 33, 34, 35, 36, 37, 38, 39, 40, 41, 42, 43, 44, 45, 46, 47, 48, 49] (by decide +kernel) (by decide +kernel)
set_option maxRecDepth 20000 in
theorem gX5_against_X5_debtAt : GoodIn wsX5_against (wsV RX5 164 RX5 yX5_debtAt wsX5_debtAt) := goodIn_app (goodIn_of _ (by decide +kernel)) ggX5_against_X5_debtAt
set_option maxRecDepth 20000 in
theorem ggX5_against_X5_tells : GoodIn wsX5_against wsX5_tells := goodIn_r _ [18, 19, 20, 21, 22, 23, 24, 25, 26, 27, 28, 29, 30, 31, 32, 33, 34, 35, 36, 37, 38, 39, 40, 41, 42, 43, 44, 45, 46, 47, 48, 49] (by decide +kernel) (by decide +kernel)
set_option maxRecDepth 20000 in
theorem gX5_against_X5_tells : GoodIn wsX5_against (wsV RX5 94 RX5 yX5_tells wsX5_tells) := goodIn_app (goodIn_of _ (by decide +kernel)) ggX5_against_X5_tells
theorem dX5_against_0 : decode cX5_against 0 = .ok (.aload_n 0, 1) := by decide +kernel
theorem dX5_against_1 : decode cX5_against 1 = .ok (.iload_n 1, 1) := by decide +kernel
theorem dX5_against_2 : decode cX5_against 2 = .ok (.invokevirtual 180, 3) := by decide +kernel
theorem dX5_against_5 : decode cX5_against 5 = .ok (.ifCond .eq 16, 3) := by decide +kernel
theorem dX5_against_8 : decode cX5_against 8 = .ok (.aload_n 0, 1) := by decide +kernel
theorem dX5_against_9 : decode cX5_against 9 = .ok (.iload_n 2, 1) := by decide +kernel
theorem dX5_against_10 : decode cX5_against 10 = .ok (.invokevirtual 180, 3) := by decide +kernel
theorem dX5_against_13 : decode cX5_against 13 = .ok (.ifCond .eq 8, 3) := by decide +kernel
theorem dX5_against_16 : decode cX5_against 16 = .ok (.iload_n 1, 1) := by decide +kernel
theorem dX5_against_17 : decode cX5_against 17 = .ok (.iload_n 2, 1) := by decide +kernel
theorem dX5_against_18 : decode cX5_against 18 = .ok (.if_icmp .ne 5, 3) := by decide +kernel
theorem dX5_against_21 : decode cX5_against 21 = .ok (.iconst (-1), 1) := by decide +kernel
theorem dX5_against_22 : decode cX5_against 22 = .ok (.ireturn, 1) := by decide +kernel
theorem dX5_against_23 : decode cX5_against 23 = .ok (.aload_n 0, 1) := by decide +kernel
theorem dX5_against_24 : decode cX5_against 24 = .ok (.iload_n 1, 1) := by decide +kernel
theorem dX5_against_25 : decode cX5_against 25 = .ok (.iconst 0, 1) := by decide +kernel
theorem dX5_against_26 : decode cX5_against 26 = .ok (.invokevirtual 164, 3) := by decide +kernel
theorem dX5_against_29 : decode cX5_against 29 = .ok (.aload_n 0, 1) := by decide +kernel
theorem dX5_against_30 : decode cX5_against 30 = .ok (.iload_n 2, 1) := by decide +kernel
theorem dX5_against_31 : decode cX5_against 31 = .ok (.iconst 1, 1) := by decide +kernel
theorem dX5_against_32 : decode cX5_against 32 = .ok (.invokevirtual 164, 3) := by decide +kernel
theorem dX5_against_35 : decode cX5_against 35 = .ok (.if_icmp .ne 22, 3) := by decide +kernel
theorem dX5_against_38 : decode cX5_against 38 = .ok (.aload_n 0, 1) := by decide +kernel
theorem dX5_against_39 : decode cX5_against 39 = .ok (.iload_n 1, 1) := by decide +kernel
theorem dX5_against_40 : decode cX5_against 40 = .ok (.iconst 1, 1) := by decide +kernel
theorem dX5_against_41 : decode cX5_against 41 = .ok (.invokevirtual 164, 3) := by decide +kernel
theorem dX5_against_44 : decode cX5_against 44 = .ok (.aload_n 0, 1) := by decide +kernel
theorem dX5_against_45 : decode cX5_against 45 = .ok (.iload_n 2, 1) := by decide +kernel
theorem dX5_against_46 : decode cX5_against 46 = .ok (.iconst 0, 1) := by decide +kernel
theorem dX5_against_47 : decode cX5_against 47 = .ok (.invokevirtual 164, 3) := by decide +kernel
theorem dX5_against_50 : decode cX5_against 50 = .ok (.if_icmp .ne 7, 3) := by decide +kernel
theorem dX5_against_53 : decode cX5_against 53 = .ok (.iconst 1, 1) := by decide +kernel
theorem dX5_against_54 : decode cX5_against 54 = .ok (.goto 4, 3) := by decide +kernel
theorem dX5_against_57 : decode cX5_against 57 = .ok (.iconst 0, 1) := by decide +kernel
theorem dX5_against_58 : decode cX5_against 58 = .ok (.istore_n 3, 1) := by decide +kernel
theorem dX5_against_59 : decode cX5_against 59 = .ok (.iload_n 3, 1) := by decide +kernel
theorem dX5_against_60 : decode cX5_against 60 = .ok (.ifCond .eq 25, 3) := by decide +kernel
theorem dX5_against_63 : decode cX5_against 63 = .ok (.aload_n 0, 1) := by decide +kernel
theorem dX5_against_64 : decode cX5_against 64 = .ok (.iload_n 1, 1) := by decide +kernel
theorem dX5_against_65 : decode cX5_against 65 = .ok (.iconst 4, 1) := by decide +kernel
theorem dX5_against_66 : decode cX5_against 66 = .ok (.invokevirtual 164, 3) := by decide +kernel
theorem dX5_against_69 : decode cX5_against 69 = .ok (.bipush (-9), 2) := by decide +kernel
theorem dX5_against_71 : decode cX5_against 71 = .ok (.if_icmp .ne 14, 3) := by decide +kernel
theorem dX5_against_74 : decode cX5_against 74 = .ok (.aload_n 0, 1) := by decide +kernel
theorem dX5_against_75 : decode cX5_against 75 = .ok (.iload_n 2, 1) := by decide +kernel
theorem dX5_against_76 : decode cX5_against 76 = .ok (.iconst 4, 1) := by decide +kernel
theorem dX5_against_77 : decode cX5_against 77 = .ok (.invokevirtual 164, 3) := by decide +kernel
theorem dX5_against_80 : decode cX5_against 80 = .ok (.bipush (-9), 2) := by decide +kernel
theorem dX5_against_82 : decode cX5_against 82 = .ok (.if_icmp .eq 6, 3) := by decide +kernel
theorem dX5_against_85 : decode cX5_against 85 = .ok (.bipush (-4), 2) := by decide +kernel
theorem dX5_against_87 : decode cX5_against 87 = .ok (.ireturn, 1) := by decide +kernel
theorem dX5_against_88 : decode cX5_against 88 = .ok (.aload_n 0, 1) := by decide +kernel
theorem dX5_against_89 : decode cX5_against 89 = .ok (.iload_n 1, 1) := by decide +kernel
theorem dX5_against_90 : decode cX5_against 90 = .ok (.iconst 2, 1) := by decide +kernel
theorem dX5_against_91 : decode cX5_against 91 = .ok (.invokevirtual 164, 3) := by decide +kernel
theorem dX5_against_94 : decode cX5_against 94 = .ok (.aload_n 0, 1) := by decide +kernel
theorem dX5_against_95 : decode cX5_against 95 = .ok (.iload_n 2, 1) := by decide +kernel
theorem dX5_against_96 : decode cX5_against 96 = .ok (.iconst 2, 1) := by decide +kernel
theorem dX5_against_97 : decode cX5_against 97 = .ok (.invokevirtual 164, 3) := by decide +kernel
theorem dX5_against_100 : decode cX5_against 100 = .ok (.isub, 1) := by decide +kernel
theorem dX5_against_101 : decode cX5_against 101 = .ok (.istore 4, 2) := by decide +kernel
theorem dX5_against_103 : decode cX5_against 103 = .ok (.iload 4, 2) := by decide +kernel
theorem dX5_against_105 : decode cX5_against 105 = .ok (.ifCond .ne 13, 3) := by decide +kernel
theorem dX5_against_108 : decode cX5_against 108 = .ok (.aload_n 0, 1) := by decide +kernel
theorem dX5_against_109 : decode cX5_against 109 = .ok (.bipush (-9), 2) := by decide +kernel
theorem dX5_against_111 : decode cX5_against 111 = .ok (.iconst 0, 1) := by decide +kernel
theorem dX5_against_112 : decode cX5_against 112 = .ok (.invokevirtual 94, 3) := by decide +kernel
theorem dX5_against_115 : decode cX5_against 115 = .ok (.goto 36, 3) := by decide +kernel
theorem dX5_against_118 : decode cX5_against 118 = .ok (.iload 4, 2) := by decide +kernel
theorem dX5_against_120 : decode cX5_against 120 = .ok (.ifCond .le 18, 3) := by decide +kernel
theorem dX5_against_123 : decode cX5_against 123 = .ok (.aload_n 0, 1) := by decide +kernel
theorem dX5_against_124 : decode cX5_against 124 = .ok (.aload_n 0, 1) := by decide +kernel
theorem dX5_against_125 : decode cX5_against 125 = .ok (.iload_n 1, 1) := by decide +kernel
theorem dX5_against_126 : decode cX5_against 126 = .ok (.iconst 0, 1) := by decide +kernel
theorem dX5_against_127 : decode cX5_against 127 = .ok (.invokevirtual 164, 3) := by decide +kernel
theorem dX5_against_130 : decode cX5_against 130 = .ok (.iload 4, 2) := by decide +kernel
theorem dX5_against_132 : decode cX5_against 132 = .ok (.invokevirtual 94, 3) := by decide +kernel
theorem dX5_against_135 : decode cX5_against 135 = .ok (.goto 16, 3) := by decide +kernel
theorem dX5_against_138 : decode cX5_against 138 = .ok (.aload_n 0, 1) := by decide +kernel
theorem dX5_against_139 : decode cX5_against 139 = .ok (.aload_n 0, 1) := by decide +kernel
theorem dX5_against_140 : decode cX5_against 140 = .ok (.iload_n 2, 1) := by decide +kernel
theorem dX5_against_141 : decode cX5_against 141 = .ok (.iconst 0, 1) := by decide +kernel
theorem dX5_against_142 : decode cX5_against 142 = .ok (.invokevirtual 164, 3) := by decide +kernel
theorem dX5_against_145 : decode cX5_against 145 = .ok (.iload 4, 2) := by decide +kernel
theorem dX5_against_147 : decode cX5_against 147 = .ok (.ineg, 1) := by decide +kernel
theorem dX5_against_148 : decode cX5_against 148 = .ok (.invokevirtual 94, 3) := by decide +kernel
theorem dX5_against_151 : decode cX5_against 151 = .ok (.ireturn, 1) := by decide +kernel
set_option maxRecDepth 20000 in
theorem ggX5_family_X5_in : GoodIn wsX5_family wsX5_in := goodIn_r _ [6] (by decide +kernel) (by decide +kernel)
set_option maxRecDepth 20000 in
theorem gX5_family_X5_in : GoodIn wsX5_family (va_wsS RX5 72 yX5_in wsX5_in) := goodIn_app (goodIn_of _ (by decide +kernel)) ggX5_family_X5_in
set_option maxRecDepth 20000 in
theorem ggX5_family_X5_has : GoodIn wsX5_family wsX5_has := goodIn_r _ [9] (by decide +kernel) (by decide +kernel)
set_option maxRecDepth 20000 in
theorem gX5_family_X5_has : GoodIn wsX5_family (va_wsS RX5 149 yX5_has wsX5_has) := goodIn_app (goodIn_of _ (by decide +kernel)) ggX5_family_X5_has
set_option maxRecDepth 20000 in
theorem ggX5_family_X5_bits : GoodIn wsX5_family wsX5_bits := goodIn_r _ [12] (by decide +kernel) (by decide +kernel)
set_option maxRecDepth 20000 in
theorem gX5_family_X5_bits : GoodIn wsX5_family (va_wsS RX5 177 yX5_bits wsX5_bits) := goodIn_app (goodIn_of _ (by decide +kernel)) ggX5_family_X5_bits
set_option maxRecDepth 20000 in
theorem ggX5_family_X5_tells : GoodIn wsX5_family wsX5_tells := goodIn_r _ [16, 17, 18, 19, 20, 21, 22, 23, 24, 25, 26, 27, 28, 29, 30, 31, 32, 33, 34, 35, 36, 37, 38, 39, 40, 41, 42, 43, 44, 45, 46, 47] (by decide +kernel) (by decide +kernel)
set_option maxRecDepth 20000 in
theorem gX5_family_X5_tells : GoodIn wsX5_family (wsV RX5 94 RX5 yX5_tells wsX5_tells) := goodIn_app (goodIn_of _ (by decide +kernel)) ggX5_family_X5_tells
theorem dX5_family_0 : decode cX5_family 0 = .ok (.iload_n 1, 1) := by decide +kernel
theorem dX5_family_1 : decode cX5_family 1 = .ok (.iconst 1, 1) := by decide +kernel
theorem dX5_family_2 : decode cX5_family 2 = .ok (.iconst 1, 1) := by decide +kernel
theorem dX5_family_3 : decode cX5_family 3 = .ok (.aload_n 0, 1) := by decide +kernel
theorem dX5_family_4 : decode cX5_family 4 = .ok (.getfield 140, 3) := by decide +kernel
theorem dX5_family_7 : decode cX5_family 7 = .ok (.ishl, 1) := by decide +kernel
theorem dX5_family_8 : decode cX5_family 8 = .ok (.iconst 1, 1) := by decide +kernel
theorem dX5_family_9 : decode cX5_family 9 = .ok (.isub, 1) := by decide +kernel
theorem dX5_family_10 : decode cX5_family 10 = .ok (.invokestatic 72, 3) := by decide +kernel
theorem dX5_family_13 : decode cX5_family 13 = .ok (.ifCond .ne 5, 3) := by decide +kernel
theorem dX5_family_16 : decode cX5_family 16 = .ok (.iconst (-1), 1) := by decide +kernel
theorem dX5_family_17 : decode cX5_family 17 = .ok (.ireturn, 1) := by decide +kernel
theorem dX5_family_18 : decode cX5_family 18 = .ok (.sipush 4095, 3) := by decide +kernel
theorem dX5_family_21 : decode cX5_family 21 = .ok (.istore_n 2, 1) := by decide +kernel
theorem dX5_family_22 : decode cX5_family 22 = .ok (.iconst 0, 1) := by decide +kernel
theorem dX5_family_23 : decode cX5_family 23 = .ok (.istore_n 3, 1) := by decide +kernel
theorem dX5_family_24 : decode cX5_family 24 = .ok (.iload_n 3, 1) := by decide +kernel
theorem dX5_family_25 : decode cX5_family 25 = .ok (.aload_n 0, 1) := by decide +kernel
theorem dX5_family_26 : decode cX5_family 26 = .ok (.getfield 140, 3) := by decide +kernel
theorem dX5_family_29 : decode cX5_family 29 = .ok (.if_icmp .ge 34, 3) := by decide +kernel
theorem dX5_family_32 : decode cX5_family 32 = .ok (.iload_n 2, 1) := by decide +kernel
theorem dX5_family_33 : decode cX5_family 33 = .ok (.iload_n 1, 1) := by decide +kernel
theorem dX5_family_34 : decode cX5_family 34 = .ok (.iload_n 3, 1) := by decide +kernel
theorem dX5_family_35 : decode cX5_family 35 = .ok (.invokestatic 149, 3) := by decide +kernel
theorem dX5_family_38 : decode cX5_family 38 = .ok (.ifCond .eq 16, 3) := by decide +kernel
theorem dX5_family_41 : decode cX5_family 41 = .ok (.aload_n 0, 1) := by decide +kernel
theorem dX5_family_42 : decode cX5_family 42 = .ok (.getfield 29, 3) := by decide +kernel
theorem dX5_family_45 : decode cX5_family 45 = .ok (.iconst 4, 1) := by decide +kernel
theorem dX5_family_46 : decode cX5_family 46 = .ok (.iload_n 3, 1) := by decide +kernel
theorem dX5_family_47 : decode cX5_family 47 = .ok (.imul, 1) := by decide +kernel
theorem dX5_family_48 : decode cX5_family 48 = .ok (.iconst 2, 1) := by decide +kernel
theorem dX5_family_49 : decode cX5_family 49 = .ok (.iadd, 1) := by decide +kernel
theorem dX5_family_50 : decode cX5_family 50 = .ok (.iaload, 1) := by decide +kernel
theorem dX5_family_51 : decode cX5_family 51 = .ok (.goto 4, 3) := by decide +kernel
theorem dX5_family_54 : decode cX5_family 54 = .ok (.iload_n 2, 1) := by decide +kernel
theorem dX5_family_55 : decode cX5_family 55 = .ok (.iand, 1) := by decide +kernel
theorem dX5_family_56 : decode cX5_family 56 = .ok (.istore_n 2, 1) := by decide +kernel
theorem dX5_family_57 : decode cX5_family 57 = .ok (.iinc 3 1, 3) := by decide +kernel
theorem dX5_family_60 : decode cX5_family 60 = .ok (.goto (-36), 3) := by decide +kernel
theorem dX5_family_63 : decode cX5_family 63 = .ok (.aload_n 0, 1) := by decide +kernel
theorem dX5_family_64 : decode cX5_family 64 = .ok (.iload_n 2, 1) := by decide +kernel
theorem dX5_family_65 : decode cX5_family 65 = .ok (.invokestatic 177, 3) := by decide +kernel
theorem dX5_family_68 : decode cX5_family 68 = .ok (.iload_n 2, 1) := by decide +kernel
theorem dX5_family_69 : decode cX5_family 69 = .ok (.invokevirtual 94, 3) := by decide +kernel
theorem dX5_family_72 : decode cX5_family 72 = .ok (.ireturn, 1) := by decide +kernel
set_option maxRecDepth 20000 in
theorem ggX5_pay_X5_isDebt : GoodIn wsX5_pay wsX5_isDebt := goodIn_r _ [7, 1, 8, 9, 6, 10, 55, 56, 57, 58, 59, 60, 61, 62, 63, 64, 65, 66, 67, 68, 69, 70, 71, 72, 73, 74, 75, 76, 77, 78, 79, 80, 81, 82, 83, 84] (by decide +kernel) (by decide +kernel)
set_option maxRecDepth 20000 in
theorem gX5_pay_X5_isDebt : GoodIn wsX5_pay (wsV RX5 180 RX5 yX5_isDebt wsX5_isDebt) := goodIn_app (goodIn_of _ (by decide +kernel)) ggX5_pay_X5_isDebt
set_option maxRecDepth 20000 in
theorem ggX5_pay_X5_isHour : GoodIn wsX5_pay wsX5_isHour := goodIn_r _ [13, 8, 9, 6, 10] (by decide +kernel) (by decide +kernel)
set_option maxRecDepth 20000 in
theorem gX5_pay_X5_isHour : GoodIn wsX5_pay (va_wsS RX5 183 yX5_isHour wsX5_isHour) := goodIn_app (goodIn_of _ (by decide +kernel)) ggX5_pay_X5_isHour
set_option maxRecDepth 20000 in
theorem ggX5_pay_X5_debtAt : GoodIn wsX5_pay wsX5_debtAt := goodIn_r _ [17, 2, 55, 56, 57, 58, 59, 60, 61, 62, 63, 64, 65, 66, 67, 68, 69, 70, 71, 72, 73, 74, 75, 76, 77, 78, 79, 80, 81, 82, 83, 84] (by decide +kernel) (by decide +kernel)
set_option maxRecDepth 20000 in
theorem gX5_pay_X5_debtAt : GoodIn wsX5_pay (wsV RX5 164 RX5 yX5_debtAt wsX5_debtAt) := goodIn_app (goodIn_of _ (by decide +kernel)) ggX5_pay_X5_debtAt
set_option maxRecDepth 20000 in
theorem ggX5_pay_X5_canPay : GoodIn wsX5_pay wsX5_canPay := goodIn_r _ [21, 14, 15, 16, 6, 17, 2, 22, 23, 24, 25, 26, 27, 28, 29, 30, 31, 32, 33, 34, 35, 36, 37, 38, 39, 40, 41, 42, 43, 44, 45, 46, 47, 48, 49, 50, 55, 56, 57, 58, 59, 60, 61, 62, 63, 64, 65, 66, 67, 68, 69, 70, 71, 72, 73, 74, 75, 76, 77, 78, 79, 80, 81, 82, 83, 84] (by decide +kernel) (by decide +kernel)
set_option maxRecDepth 20000 in
theorem gX5_pay_X5_canPay : GoodIn wsX5_pay (wsV RX5 192 RX5 yX5_canPay wsX5_canPay) := goodIn_app (goodIn_of _ (by decide +kernel)) ggX5_pay_X5_canPay
set_option maxRecDepth 20000 in
theorem ggX5_pay_X5_costOf : GoodIn wsX5_pay wsX5_costOf := goodIn_r _ [54, 14, 15, 16, 6, 17, 2, 55, 56, 57, 58, 59, 60, 61, 62, 63, 64, 65, 66, 67, 68, 69, 70, 71, 72, 73, 74, 75, 76, 77, 78, 79, 80, 81, 82, 83, 84] (by decide +kernel) (by decide +kernel)
set_option maxRecDepth 20000 in
theorem gX5_pay_X5_costOf : GoodIn wsX5_pay (wsV RX5 214 RX5 yX5_costOf wsX5_costOf) := goodIn_app (goodIn_of _ (by decide +kernel)) ggX5_pay_X5_costOf
theorem dX5_pay_0 : decode cX5_pay 0 = .ok (.aload_n 0, 1) := by decide +kernel
theorem dX5_pay_1 : decode cX5_pay 1 = .ok (.iload_n 1, 1) := by decide +kernel
theorem dX5_pay_2 : decode cX5_pay 2 = .ok (.invokevirtual 180, 3) := by decide +kernel
theorem dX5_pay_5 : decode cX5_pay 5 = .ok (.ifCond .eq 10, 3) := by decide +kernel
theorem dX5_pay_8 : decode cX5_pay 8 = .ok (.iload_n 2, 1) := by decide +kernel
theorem dX5_pay_9 : decode cX5_pay 9 = .ok (.invokestatic 183, 3) := by decide +kernel
theorem dX5_pay_12 : decode cX5_pay 12 = .ok (.ifCond .ne 5, 3) := by decide +kernel
theorem dX5_pay_15 : decode cX5_pay 15 = .ok (.iconst (-1), 1) := by decide +kernel
theorem dX5_pay_16 : decode cX5_pay 16 = .ok (.ireturn, 1) := by decide +kernel
theorem dX5_pay_17 : decode cX5_pay 17 = .ok (.aload_n 0, 1) := by decide +kernel
theorem dX5_pay_18 : decode cX5_pay 18 = .ok (.iload_n 1, 1) := by decide +kernel
theorem dX5_pay_19 : decode cX5_pay 19 = .ok (.iconst 4, 1) := by decide +kernel
theorem dX5_pay_20 : decode cX5_pay 20 = .ok (.invokevirtual 164, 3) := by decide +kernel
theorem dX5_pay_23 : decode cX5_pay 23 = .ok (.bipush (-9), 2) := by decide +kernel
theorem dX5_pay_25 : decode cX5_pay 25 = .ok (.if_icmp .ne 16, 3) := by decide +kernel
theorem dX5_pay_28 : decode cX5_pay 28 = .ok (.aload_n 0, 1) := by decide +kernel
theorem dX5_pay_29 : decode cX5_pay 29 = .ok (.iload_n 1, 1) := by decide +kernel
theorem dX5_pay_30 : decode cX5_pay 30 = .ok (.iload_n 2, 1) := by decide +kernel
theorem dX5_pay_31 : decode cX5_pay 31 = .ok (.invokevirtual 192, 3) := by decide +kernel
theorem dX5_pay_34 : decode cX5_pay 34 = .ok (.ifCond .eq 7, 3) := by decide +kernel
theorem dX5_pay_37 : decode cX5_pay 37 = .ok (.iconst 1, 1) := by decide +kernel
theorem dX5_pay_38 : decode cX5_pay 38 = .ok (.goto 4, 3) := by decide +kernel
theorem dX5_pay_41 : decode cX5_pay 41 = .ok (.iconst 0, 1) := by decide +kernel
theorem dX5_pay_42 : decode cX5_pay 42 = .ok (.istore_n 3, 1) := by decide +kernel
theorem dX5_pay_43 : decode cX5_pay 43 = .ok (.iconst 0, 1) := by decide +kernel
theorem dX5_pay_44 : decode cX5_pay 44 = .ok (.istore 4, 2) := by decide +kernel
theorem dX5_pay_46 : decode cX5_pay 46 = .ok (.iload 4, 2) := by decide +kernel
theorem dX5_pay_48 : decode cX5_pay 48 = .ok (.aload_n 0, 1) := by decide +kernel
theorem dX5_pay_49 : decode cX5_pay 49 = .ok (.getfield 143, 3) := by decide +kernel
theorem dX5_pay_52 : decode cX5_pay 52 = .ok (.if_icmp .ge 62, 3) := by decide +kernel
theorem dX5_pay_55 : decode cX5_pay 55 = .ok (.iload_n 3, 1) := by decide +kernel
theorem dX5_pay_56 : decode cX5_pay 56 = .ok (.ifCond .eq 50, 3) := by decide +kernel
theorem dX5_pay_59 : decode cX5_pay 59 = .ok (.aload_n 0, 1) := by decide +kernel
theorem dX5_pay_60 : decode cX5_pay 60 = .ok (.iload 4, 2) := by decide +kernel
theorem dX5_pay_62 : decode cX5_pay 62 = .ok (.iconst 4, 1) := by decide +kernel
theorem dX5_pay_63 : decode cX5_pay 63 = .ok (.invokevirtual 164, 3) := by decide +kernel
theorem dX5_pay_66 : decode cX5_pay 66 = .ok (.iload_n 2, 1) := by decide +kernel
theorem dX5_pay_67 : decode cX5_pay 67 = .ok (.if_icmp .ne 35, 3) := by decide +kernel
theorem dX5_pay_70 : decode cX5_pay 70 = .ok (.aload_n 0, 1) := by decide +kernel
theorem dX5_pay_71 : decode cX5_pay 71 = .ok (.iload 4, 2) := by decide +kernel
theorem dX5_pay_73 : decode cX5_pay 73 = .ok (.iconst 0, 1) := by decide +kernel
theorem dX5_pay_74 : decode cX5_pay 74 = .ok (.invokevirtual 164, 3) := by decide +kernel
theorem dX5_pay_77 : decode cX5_pay 77 = .ok (.aload_n 0, 1) := by decide +kernel
theorem dX5_pay_78 : decode cX5_pay 78 = .ok (.iload_n 1, 1) := by decide +kernel
theorem dX5_pay_79 : decode cX5_pay 79 = .ok (.iconst 0, 1) := by decide +kernel
theorem dX5_pay_80 : decode cX5_pay 80 = .ok (.invokevirtual 164, 3) := by decide +kernel
theorem dX5_pay_83 : decode cX5_pay 83 = .ok (.if_icmp .eq 23, 3) := by decide +kernel
theorem dX5_pay_86 : decode cX5_pay 86 = .ok (.aload_n 0, 1) := by decide +kernel
theorem dX5_pay_87 : decode cX5_pay 87 = .ok (.iload 4, 2) := by decide +kernel
theorem dX5_pay_89 : decode cX5_pay 89 = .ok (.iconst 1, 1) := by decide +kernel
theorem dX5_pay_90 : decode cX5_pay 90 = .ok (.invokevirtual 164, 3) := by decide +kernel
theorem dX5_pay_93 : decode cX5_pay 93 = .ok (.aload_n 0, 1) := by decide +kernel
theorem dX5_pay_94 : decode cX5_pay 94 = .ok (.iload_n 1, 1) := by decide +kernel
theorem dX5_pay_95 : decode cX5_pay 95 = .ok (.iconst 1, 1) := by decide +kernel
theorem dX5_pay_96 : decode cX5_pay 96 = .ok (.invokevirtual 164, 3) := by decide +kernel
theorem dX5_pay_99 : decode cX5_pay 99 = .ok (.if_icmp .eq 7, 3) := by decide +kernel
theorem dX5_pay_102 : decode cX5_pay 102 = .ok (.iconst 1, 1) := by decide +kernel
theorem dX5_pay_103 : decode cX5_pay 103 = .ok (.goto 4, 3) := by decide +kernel
theorem dX5_pay_106 : decode cX5_pay 106 = .ok (.iconst 0, 1) := by decide +kernel
theorem dX5_pay_107 : decode cX5_pay 107 = .ok (.istore_n 3, 1) := by decide +kernel
theorem dX5_pay_108 : decode cX5_pay 108 = .ok (.iinc 4 1, 3) := by decide +kernel
theorem dX5_pay_111 : decode cX5_pay 111 = .ok (.goto (-65), 3) := by decide +kernel
theorem dX5_pay_114 : decode cX5_pay 114 = .ok (.iload_n 3, 1) := by decide +kernel
theorem dX5_pay_115 : decode cX5_pay 115 = .ok (.ifCond .ne 6, 3) := by decide +kernel
theorem dX5_pay_118 : decode cX5_pay 118 = .ok (.bipush (-4), 2) := by decide +kernel
theorem dX5_pay_120 : decode cX5_pay 120 = .ok (.ireturn, 1) := by decide +kernel
theorem dX5_pay_121 : decode cX5_pay 121 = .ok (.aload_n 0, 1) := by decide +kernel
theorem dX5_pay_122 : decode cX5_pay 122 = .ok (.getfield 32, 3) := by decide +kernel
theorem dX5_pay_125 : decode cX5_pay 125 = .ok (.iconst 5, 1) := by decide +kernel
theorem dX5_pay_126 : decode cX5_pay 126 = .ok (.iload_n 1, 1) := by decide +kernel
theorem dX5_pay_127 : decode cX5_pay 127 = .ok (.imul, 1) := by decide +kernel
theorem dX5_pay_128 : decode cX5_pay 128 = .ok (.iconst 4, 1) := by decide +kernel
theorem dX5_pay_129 : decode cX5_pay 129 = .ok (.iadd, 1) := by decide +kernel
theorem dX5_pay_130 : decode cX5_pay 130 = .ok (.iload_n 2, 1) := by decide +kernel
theorem dX5_pay_131 : decode cX5_pay 131 = .ok (.iastore, 1) := by decide +kernel
theorem dX5_pay_132 : decode cX5_pay 132 = .ok (.aload_n 0, 1) := by decide +kernel
theorem dX5_pay_133 : decode cX5_pay 133 = .ok (.iload_n 1, 1) := by decide +kernel
theorem dX5_pay_134 : decode cX5_pay 134 = .ok (.iload_n 2, 1) := by decide +kernel
theorem dX5_pay_135 : decode cX5_pay 135 = .ok (.invokevirtual 214, 3) := by decide +kernel
theorem dX5_pay_138 : decode cX5_pay 138 = .ok (.ireturn, 1) := by decide +kernel
set_option maxRecDepth 20000 in
theorem ggX5_unpay_X5_isDebt : GoodIn wsX5_unpay wsX5_isDebt := goodIn_r _ [6, 7, 8, 9, 5, 10, 15, 16, 17, 18, 19, 20, 21, 22, 23, 24, 25, 26, 27, 28, 29, 30, 31, 32, 33, 34, 35, 36, 37, 38, 39, 40, 41, 42, 43, 44] (by decide +kernel) (by decide +kernel)
set_option maxRecDepth 20000 in
theorem gX5_unpay_X5_isDebt : GoodIn wsX5_unpay (wsV RX5 180 RX5 yX5_isDebt wsX5_isDebt) := goodIn_app (goodIn_of _ (by decide +kernel)) ggX5_unpay_X5_isDebt
set_option maxRecDepth 20000 in
theorem ggX5_unpay_X5_debtAt : GoodIn wsX5_unpay wsX5_debtAt := goodIn_r _ [14, 1, 15, 16, 17, 18, 19, 20, 21, 22, 23, 24, 25, 26, 27, 28, 29, 30, 31, 32, 33, 34, 35, 36, 37, 38, 39, 40, 41, 42, 43, 44] (by decide +kernel) (by decide +kernel)
set_option maxRecDepth 20000 in
theorem gX5_unpay_X5_debtAt : GoodIn wsX5_unpay (wsV RX5 164 RX5 yX5_debtAt wsX5_debtAt) := goodIn_app (goodIn_of _ (by decide +kernel)) ggX5_unpay_X5_debtAt
theorem dX5_unpay_0 : decode cX5_unpay 0 = .ok (.aload_n 0, 1) := by decide +kernel
theorem dX5_unpay_1 : decode cX5_unpay 1 = .ok (.iload_n 1, 1) := by decide +kernel
theorem dX5_unpay_2 : decode cX5_unpay 2 = .ok (.invokevirtual 180, 3) := by decide +kernel
theorem dX5_unpay_5 : decode cX5_unpay 5 = .ok (.ifCond .ne 5, 3) := by decide +kernel
theorem dX5_unpay_8 : decode cX5_unpay 8 = .ok (.iconst (-1), 1) := by decide +kernel
theorem dX5_unpay_9 : decode cX5_unpay 9 = .ok (.ireturn, 1) := by decide +kernel
theorem dX5_unpay_10 : decode cX5_unpay 10 = .ok (.aload_n 0, 1) := by decide +kernel
theorem dX5_unpay_11 : decode cX5_unpay 11 = .ok (.iload_n 1, 1) := by decide +kernel
theorem dX5_unpay_12 : decode cX5_unpay 12 = .ok (.iconst 4, 1) := by decide +kernel
theorem dX5_unpay_13 : decode cX5_unpay 13 = .ok (.invokevirtual 164, 3) := by decide +kernel
theorem dX5_unpay_16 : decode cX5_unpay 16 = .ok (.istore_n 2, 1) := by decide +kernel
theorem dX5_unpay_17 : decode cX5_unpay 17 = .ok (.iload_n 2, 1) := by decide +kernel
theorem dX5_unpay_18 : decode cX5_unpay 18 = .ok (.bipush (-9), 2) := by decide +kernel
theorem dX5_unpay_20 : decode cX5_unpay 20 = .ok (.if_icmp .ne 6, 3) := by decide +kernel
theorem dX5_unpay_23 : decode cX5_unpay 23 = .ok (.bipush (-4), 2) := by decide +kernel
theorem dX5_unpay_25 : decode cX5_unpay 25 = .ok (.ireturn, 1) := by decide +kernel
theorem dX5_unpay_26 : decode cX5_unpay 26 = .ok (.aload_n 0, 1) := by decide +kernel
theorem dX5_unpay_27 : decode cX5_unpay 27 = .ok (.getfield 32, 3) := by decide +kernel
theorem dX5_unpay_30 : decode cX5_unpay 30 = .ok (.iconst 5, 1) := by decide +kernel
theorem dX5_unpay_31 : decode cX5_unpay 31 = .ok (.iload_n 1, 1) := by decide +kernel
theorem dX5_unpay_32 : decode cX5_unpay 32 = .ok (.imul, 1) := by decide +kernel
theorem dX5_unpay_33 : decode cX5_unpay 33 = .ok (.iconst 4, 1) := by decide +kernel
theorem dX5_unpay_34 : decode cX5_unpay 34 = .ok (.iadd, 1) := by decide +kernel
theorem dX5_unpay_35 : decode cX5_unpay 35 = .ok (.bipush (-9), 2) := by decide +kernel
theorem dX5_unpay_37 : decode cX5_unpay 37 = .ok (.iastore, 1) := by decide +kernel
theorem dX5_unpay_38 : decode cX5_unpay 38 = .ok (.iload_n 2, 1) := by decide +kernel
theorem dX5_unpay_39 : decode cX5_unpay 39 = .ok (.ireturn, 1) := by decide +kernel
set_option maxRecDepth 20000 in
theorem ggX5_paidNow_X5_debtAt : GoodIn wsX5_paidNow wsX5_debtAt := goodIn_r _ [6, 7, 8, 9, 10, 11, 12, 13, 14, 15, 16, 17, 18, 19, 20, 21, 22, 23, 24, 25, 26, 27, 28, 29, 30, 31, 32, 33, 34, 35, 36, 37] (by decide +kernel) (by decide +kernel)
set_option maxRecDepth 20000 in
theorem gX5_paidNow_X5_debtAt : GoodIn wsX5_paidNow (wsV RX5 164 RX5 yX5_debtAt wsX5_debtAt) := goodIn_app (goodIn_of _ (by decide +kernel)) ggX5_paidNow_X5_debtAt
theorem dX5_paidNow_0 : decode cX5_paidNow 0 = .ok (.iconst 0, 1) := by decide +kernel
theorem dX5_paidNow_1 : decode cX5_paidNow 1 = .ok (.istore_n 1, 1) := by decide +kernel
theorem dX5_paidNow_2 : decode cX5_paidNow 2 = .ok (.iconst 0, 1) := by decide +kernel
theorem dX5_paidNow_3 : decode cX5_paidNow 3 = .ok (.istore_n 2, 1) := by decide +kernel
theorem dX5_paidNow_4 : decode cX5_paidNow 4 = .ok (.iload_n 2, 1) := by decide +kernel
theorem dX5_paidNow_5 : decode cX5_paidNow 5 = .ok (.aload_n 0, 1) := by decide +kernel
theorem dX5_paidNow_6 : decode cX5_paidNow 6 = .ok (.getfield 143, 3) := by decide +kernel
theorem dX5_paidNow_9 : decode cX5_paidNow 9 = .ok (.if_icmp .ge 28, 3) := by decide +kernel
theorem dX5_paidNow_12 : decode cX5_paidNow 12 = .ok (.iload_n 1, 1) := by decide +kernel
theorem dX5_paidNow_13 : decode cX5_paidNow 13 = .ok (.aload_n 0, 1) := by decide +kernel
theorem dX5_paidNow_14 : decode cX5_paidNow 14 = .ok (.iload_n 2, 1) := by decide +kernel
theorem dX5_paidNow_15 : decode cX5_paidNow 15 = .ok (.iconst 4, 1) := by decide +kernel
theorem dX5_paidNow_16 : decode cX5_paidNow 16 = .ok (.invokevirtual 164, 3) := by decide +kernel
theorem dX5_paidNow_19 : decode cX5_paidNow 19 = .ok (.bipush (-9), 2) := by decide +kernel
theorem dX5_paidNow_21 : decode cX5_paidNow 21 = .ok (.if_icmp .ne 7, 3) := by decide +kernel
theorem dX5_paidNow_24 : decode cX5_paidNow 24 = .ok (.iconst 0, 1) := by decide +kernel
theorem dX5_paidNow_25 : decode cX5_paidNow 25 = .ok (.goto 4, 3) := by decide +kernel
theorem dX5_paidNow_28 : decode cX5_paidNow 28 = .ok (.iconst 1, 1) := by decide +kernel
theorem dX5_paidNow_29 : decode cX5_paidNow 29 = .ok (.iadd, 1) := by decide +kernel
theorem dX5_paidNow_30 : decode cX5_paidNow 30 = .ok (.istore_n 1, 1) := by decide +kernel
theorem dX5_paidNow_31 : decode cX5_paidNow 31 = .ok (.iinc 2 1, 3) := by decide +kernel
theorem dX5_paidNow_34 : decode cX5_paidNow 34 = .ok (.goto (-30), 3) := by decide +kernel
theorem dX5_paidNow_37 : decode cX5_paidNow 37 = .ok (.iload_n 1, 1) := by decide +kernel
theorem dX5_paidNow_38 : decode cX5_paidNow 38 = .ok (.ireturn, 1) := by decide +kernel
set_option maxRecDepth 20000 in
theorem ggX5_paid_X5_debtAt : GoodIn wsX5_paid wsX5_debtAt := goodIn_r _ [6, 7, 17, 18, 19, 20, 21, 22, 23, 24, 25, 26, 27, 28, 29, 30, 31, 32, 33, 34, 35, 36, 37, 38, 39, 40, 41, 42, 43, 44, 45, 46] (by decide +kernel) (by decide +kernel)
set_option maxRecDepth 20000 in
theorem gX5_paid_X5_debtAt : GoodIn wsX5_paid (wsV RX5 164 RX5 yX5_debtAt wsX5_debtAt) := goodIn_app (goodIn_of _ (by decide +kernel)) ggX5_paid_X5_debtAt
set_option maxRecDepth 20000 in
theorem ggX5_paid_X5_costOf : GoodIn wsX5_paid wsX5_costOf := goodIn_r _ [11, 2, 3, 4, 5, 6, 7, 17, 18, 19, 20, 21, 22, 23, 24, 25, 26, 27, 28, 29, 30, 31, 32, 33, 34, 35, 36, 37, 38, 39, 40, 41, 42, 43, 44, 45, 46] (by decide +kernel) (by decide +kernel)
set_option maxRecDepth 20000 in
theorem gX5_paid_X5_costOf : GoodIn wsX5_paid (wsV RX5 214 RX5 yX5_costOf wsX5_costOf) := goodIn_app (goodIn_of _ (by decide +kernel)) ggX5_paid_X5_costOf
set_option maxRecDepth 20000 in
theorem ggX5_paid_X5_tells : GoodIn wsX5_paid wsX5_tells := goodIn_r _ [15, 16, 17, 18, 19, 20, 21, 22, 23, 24, 25, 26, 27, 28, 29, 30, 31, 32, 33, 34, 35, 36, 37, 38, 39, 40, 41, 42, 43, 44, 45, 46] (by decide +kernel) (by decide +kernel)
set_option maxRecDepth 20000 in
theorem gX5_paid_X5_tells : GoodIn wsX5_paid (wsV RX5 94 RX5 yX5_tells wsX5_tells) := goodIn_app (goodIn_of _ (by decide +kernel)) ggX5_paid_X5_tells
theorem dX5_paid_0 : decode cX5_paid 0 = .ok (.iconst 0, 1) := by decide +kernel
theorem dX5_paid_1 : decode cX5_paid 1 = .ok (.istore_n 1, 1) := by decide +kernel
theorem dX5_paid_2 : decode cX5_paid 2 = .ok (.iconst 0, 1) := by decide +kernel
theorem dX5_paid_3 : decode cX5_paid 3 = .ok (.istore_n 2, 1) := by decide +kernel
theorem dX5_paid_4 : decode cX5_paid 4 = .ok (.iconst 0, 1) := by decide +kernel
theorem dX5_paid_5 : decode cX5_paid 5 = .ok (.istore_n 3, 1) := by decide +kernel
theorem dX5_paid_6 : decode cX5_paid 6 = .ok (.iload_n 3, 1) := by decide +kernel
theorem dX5_paid_7 : decode cX5_paid 7 = .ok (.aload_n 0, 1) := by decide +kernel
theorem dX5_paid_8 : decode cX5_paid 8 = .ok (.getfield 143, 3) := by decide +kernel
theorem dX5_paid_11 : decode cX5_paid 11 = .ok (.if_icmp .ge 69, 3) := by decide +kernel
theorem dX5_paid_14 : decode cX5_paid 14 = .ok (.aload_n 0, 1) := by decide +kernel
theorem dX5_paid_15 : decode cX5_paid 15 = .ok (.iload_n 3, 1) := by decide +kernel
theorem dX5_paid_16 : decode cX5_paid 16 = .ok (.iconst 4, 1) := by decide +kernel
theorem dX5_paid_17 : decode cX5_paid 17 = .ok (.invokevirtual 164, 3) := by decide +kernel
theorem dX5_paid_20 : decode cX5_paid 20 = .ok (.bipush (-9), 2) := by decide +kernel
theorem dX5_paid_22 : decode cX5_paid 22 = .ok (.if_icmp .eq 7, 3) := by decide +kernel
theorem dX5_paid_25 : decode cX5_paid 25 = .ok (.iconst 1, 1) := by decide +kernel
theorem dX5_paid_26 : decode cX5_paid 26 = .ok (.goto 4, 3) := by decide +kernel
theorem dX5_paid_29 : decode cX5_paid 29 = .ok (.iconst 0, 1) := by decide +kernel
theorem dX5_paid_30 : decode cX5_paid 30 = .ok (.istore 4, 2) := by decide +kernel
theorem dX5_paid_32 : decode cX5_paid 32 = .ok (.iload_n 1, 1) := by decide +kernel
theorem dX5_paid_33 : decode cX5_paid 33 = .ok (.iload 4, 2) := by decide +kernel
theorem dX5_paid_35 : decode cX5_paid 35 = .ok (.ifCond .eq 17, 3) := by decide +kernel
theorem dX5_paid_38 : decode cX5_paid 38 = .ok (.aload_n 0, 1) := by decide +kernel
theorem dX5_paid_39 : decode cX5_paid 39 = .ok (.iload_n 3, 1) := by decide +kernel
theorem dX5_paid_40 : decode cX5_paid 40 = .ok (.aload_n 0, 1) := by decide +kernel
theorem dX5_paid_41 : decode cX5_paid 41 = .ok (.iload_n 3, 1) := by decide +kernel
theorem dX5_paid_42 : decode cX5_paid 42 = .ok (.iconst 4, 1) := by decide +kernel
theorem dX5_paid_43 : decode cX5_paid 43 = .ok (.invokevirtual 164, 3) := by decide +kernel
theorem dX5_paid_46 : decode cX5_paid 46 = .ok (.invokevirtual 214, 3) := by decide +kernel
theorem dX5_paid_49 : decode cX5_paid 49 = .ok (.goto 4, 3) := by decide +kernel
theorem dX5_paid_52 : decode cX5_paid 52 = .ok (.iconst 0, 1) := by decide +kernel
theorem dX5_paid_53 : decode cX5_paid 53 = .ok (.iadd, 1) := by decide +kernel
theorem dX5_paid_54 : decode cX5_paid 54 = .ok (.istore_n 1, 1) := by decide +kernel
theorem dX5_paid_55 : decode cX5_paid 55 = .ok (.iload_n 2, 1) := by decide +kernel
theorem dX5_paid_56 : decode cX5_paid 56 = .ok (.iload 4, 2) := by decide +kernel
theorem dX5_paid_58 : decode cX5_paid 58 = .ok (.ifCond .eq 7, 3) := by decide +kernel
theorem dX5_paid_61 : decode cX5_paid 61 = .ok (.iconst 0, 1) := by decide +kernel
theorem dX5_paid_62 : decode cX5_paid 62 = .ok (.goto 10, 3) := by decide +kernel
theorem dX5_paid_65 : decode cX5_paid 65 = .ok (.aload_n 0, 1) := by decide +kernel
theorem dX5_paid_66 : decode cX5_paid 66 = .ok (.iload_n 3, 1) := by decide +kernel
theorem dX5_paid_67 : decode cX5_paid 67 = .ok (.bipush 12, 2) := by decide +kernel
theorem dX5_paid_69 : decode cX5_paid 69 = .ok (.invokevirtual 214, 3) := by decide +kernel
theorem dX5_paid_72 : decode cX5_paid 72 = .ok (.iadd, 1) := by decide +kernel
theorem dX5_paid_73 : decode cX5_paid 73 = .ok (.istore_n 2, 1) := by decide +kernel
theorem dX5_paid_74 : decode cX5_paid 74 = .ok (.iinc 3 1, 3) := by decide +kernel
theorem dX5_paid_77 : decode cX5_paid 77 = .ok (.goto (-71), 3) := by decide +kernel
theorem dX5_paid_80 : decode cX5_paid 80 = .ok (.aload_n 0, 1) := by decide +kernel
theorem dX5_paid_81 : decode cX5_paid 81 = .ok (.iload_n 2, 1) := by decide +kernel
theorem dX5_paid_82 : decode cX5_paid 82 = .ok (.iload_n 1, 1) := by decide +kernel
theorem dX5_paid_83 : decode cX5_paid 83 = .ok (.invokevirtual 94, 3) := by decide +kernel
theorem dX5_paid_86 : decode cX5_paid 86 = .ok (.ireturn, 1) := by decide +kernel
set_option maxRecDepth 20000 in
theorem ggX5_keep_X5_in : GoodIn wsX5_keep wsX5_in := goodIn_r _ [7] (by decide +kernel) (by decide +kernel)
set_option maxRecDepth 20000 in
theorem gX5_keep_X5_in : GoodIn wsX5_keep (va_wsS RX5 72 yX5_in wsX5_in) := goodIn_app (goodIn_of _ (by decide +kernel)) ggX5_keep_X5_in
set_option maxRecDepth 20000 in
theorem ggX5_keep_X5_debtAt : GoodIn wsX5_keep wsX5_debtAt := goodIn_r _ [11, 12, 17, 18, 19, 20, 21, 22, 23, 24, 25, 26, 27, 28, 29, 30, 31, 32, 33, 34, 35, 36, 37, 38, 39, 40, 41, 42, 43, 44, 45, 46] (by decide +kernel) (by decide +kernel)
set_option maxRecDepth 20000 in
theorem gX5_keep_X5_debtAt : GoodIn wsX5_keep (wsV RX5 164 RX5 yX5_debtAt wsX5_debtAt) := goodIn_app (goodIn_of _ (by decide +kernel)) ggX5_keep_X5_debtAt
set_option maxRecDepth 20000 in
theorem ggX5_keep_X5_paidNow : GoodIn wsX5_keep wsX5_paidNow := goodIn_r _ [16, 1, 8, 9, 10, 6, 11, 12, 17, 18, 19, 20, 21, 22, 23, 24, 25, 26, 27, 28, 29, 30, 31, 32, 33, 34, 35, 36, 37, 38, 39, 40, 41, 42, 43, 44, 45, 46] (by decide +kernel) (by decide +kernel)
set_option maxRecDepth 20000 in
theorem gX5_keep_X5_paidNow : GoodIn wsX5_keep (wsV RX5 261 RX5 yX5_paidNow wsX5_paidNow) := goodIn_app (goodIn_of _ (by decide +kernel)) ggX5_keep_X5_paidNow
theorem dX5_keep_0 : decode cX5_keep 0 = .ok (.iload_n 1, 1) := by decide +kernel
theorem dX5_keep_1 : decode cX5_keep 1 = .ok (.iconst 0, 1) := by decide +kernel
theorem dX5_keep_2 : decode cX5_keep 2 = .ok (.iconst 2, 1) := by decide +kernel
theorem dX5_keep_3 : decode cX5_keep 3 = .ok (.invokestatic 72, 3) := by decide +kernel
theorem dX5_keep_6 : decode cX5_keep 6 = .ok (.ifCond .ne 5, 3) := by decide +kernel
theorem dX5_keep_9 : decode cX5_keep 9 = .ok (.iconst (-1), 1) := by decide +kernel
theorem dX5_keep_10 : decode cX5_keep 10 = .ok (.ireturn, 1) := by decide +kernel
theorem dX5_keep_11 : decode cX5_keep 11 = .ok (.iconst 0, 1) := by decide +kernel
theorem dX5_keep_12 : decode cX5_keep 12 = .ok (.istore_n 2, 1) := by decide +kernel
theorem dX5_keep_13 : decode cX5_keep 13 = .ok (.iload_n 2, 1) := by decide +kernel
theorem dX5_keep_14 : decode cX5_keep 14 = .ok (.aload_n 0, 1) := by decide +kernel
theorem dX5_keep_15 : decode cX5_keep 15 = .ok (.getfield 143, 3) := by decide +kernel
theorem dX5_keep_18 : decode cX5_keep 18 = .ok (.if_icmp .ge 26, 3) := by decide +kernel
theorem dX5_keep_21 : decode cX5_keep 21 = .ok (.aload_n 0, 1) := by decide +kernel
theorem dX5_keep_22 : decode cX5_keep 22 = .ok (.getfield 61, 3) := by decide +kernel
theorem dX5_keep_25 : decode cX5_keep 25 = .ok (.bipush 8, 2) := by decide +kernel
theorem dX5_keep_27 : decode cX5_keep 27 = .ok (.iload_n 1, 1) := by decide +kernel
theorem dX5_keep_28 : decode cX5_keep 28 = .ok (.imul, 1) := by decide +kernel
theorem dX5_keep_29 : decode cX5_keep 29 = .ok (.iload_n 2, 1) := by decide +kernel
theorem dX5_keep_30 : decode cX5_keep 30 = .ok (.iadd, 1) := by decide +kernel
theorem dX5_keep_31 : decode cX5_keep 31 = .ok (.aload_n 0, 1) := by decide +kernel
theorem dX5_keep_32 : decode cX5_keep 32 = .ok (.iload_n 2, 1) := by decide +kernel
theorem dX5_keep_33 : decode cX5_keep 33 = .ok (.iconst 4, 1) := by decide +kernel
theorem dX5_keep_34 : decode cX5_keep 34 = .ok (.invokevirtual 164, 3) := by decide +kernel
theorem dX5_keep_37 : decode cX5_keep 37 = .ok (.iastore, 1) := by decide +kernel
theorem dX5_keep_38 : decode cX5_keep 38 = .ok (.iinc 2 1, 3) := by decide +kernel
theorem dX5_keep_41 : decode cX5_keep 41 = .ok (.goto (-28), 3) := by decide +kernel
theorem dX5_keep_44 : decode cX5_keep 44 = .ok (.aload_n 0, 1) := by decide +kernel
theorem dX5_keep_45 : decode cX5_keep 45 = .ok (.getfield 58, 3) := by decide +kernel
theorem dX5_keep_48 : decode cX5_keep 48 = .ok (.iload_n 1, 1) := by decide +kernel
theorem dX5_keep_49 : decode cX5_keep 49 = .ok (.iconst 1, 1) := by decide +kernel
theorem dX5_keep_50 : decode cX5_keep 50 = .ok (.bastore, 1) := by decide +kernel
theorem dX5_keep_51 : decode cX5_keep 51 = .ok (.aload_n 0, 1) := by decide +kernel
theorem dX5_keep_52 : decode cX5_keep 52 = .ok (.invokevirtual 261, 3) := by decide +kernel
theorem dX5_keep_55 : decode cX5_keep 55 = .ok (.ireturn, 1) := by decide +kernel
set_option maxRecDepth 20000 in
theorem ggX5_on_X5_in : GoodIn wsX5_on wsX5_in := goodIn_r _ [8] (by decide +kernel) (by decide +kernel)
set_option maxRecDepth 20000 in
theorem gX5_on_X5_in : GoodIn wsX5_on (va_wsS RX5 72 yX5_in wsX5_in) := goodIn_app (goodIn_of _ (by decide +kernel)) ggX5_on_X5_in
set_option maxRecDepth 20000 in
theorem ggX5_on_X5_meets : GoodIn wsX5_on wsX5_meets := goodIn_r _ [12, 13, 14, 23, 24, 25, 26, 27, 28, 29, 30, 31, 32, 33, 34, 35, 36, 37, 38, 39, 40, 41, 42, 43, 44, 45, 46, 47, 48, 49, 50, 51, 52] (by decide +kernel) (by decide +kernel)
set_option maxRecDepth 20000 in
theorem gX5_on_X5_meets : GoodIn wsX5_on (wsV RX5 86 RX5 yX5_meets wsX5_meets) := goodIn_app (goodIn_of _ (by decide +kernel)) ggX5_on_X5_meets
set_option maxRecDepth 20000 in
theorem ggX5_on_X5_paidNow : GoodIn wsX5_on wsX5_paidNow := goodIn_r _ [18, 2, 19, 20, 21, 7, 22, 3, 23, 24, 25, 26, 27, 28, 29, 30, 31, 32, 33, 34, 35, 36, 37, 38, 39, 40, 41, 42, 43, 44, 45, 46, 47, 48, 49, 50, 51, 52] (by decide +kernel) (by decide +kernel)
set_option maxRecDepth 20000 in
theorem gX5_on_X5_paidNow : GoodIn wsX5_on (wsV RX5 261 RX5 yX5_paidNow wsX5_paidNow) := goodIn_app (goodIn_of _ (by decide +kernel)) ggX5_on_X5_paidNow
theorem dX5_on_0 : decode cX5_on 0 = .ok (.iload_n 1, 1) := by decide +kernel
theorem dX5_on_1 : decode cX5_on 1 = .ok (.iconst 0, 1) := by decide +kernel
theorem dX5_on_2 : decode cX5_on 2 = .ok (.iconst 2, 1) := by decide +kernel
theorem dX5_on_3 : decode cX5_on 3 = .ok (.invokestatic 72, 3) := by decide +kernel
theorem dX5_on_6 : decode cX5_on 6 = .ok (.ifCond .ne 5, 3) := by decide +kernel
theorem dX5_on_9 : decode cX5_on 9 = .ok (.iconst (-1), 1) := by decide +kernel
theorem dX5_on_10 : decode cX5_on 10 = .ok (.ireturn, 1) := by decide +kernel
theorem dX5_on_11 : decode cX5_on 11 = .ok (.aload_n 0, 1) := by decide +kernel
theorem dX5_on_12 : decode cX5_on 12 = .ok (.getfield 58, 3) := by decide +kernel
theorem dX5_on_15 : decode cX5_on 15 = .ok (.iload_n 1, 1) := by decide +kernel
theorem dX5_on_16 : decode cX5_on 16 = .ok (.baload, 1) := by decide +kernel
theorem dX5_on_17 : decode cX5_on 17 = .ok (.ifCond .ne 9, 3) := by decide +kernel
theorem dX5_on_20 : decode cX5_on 20 = .ok (.aload_n 0, 1) := by decide +kernel
theorem dX5_on_21 : decode cX5_on 21 = .ok (.iconst 1, 1) := by decide +kernel
theorem dX5_on_22 : decode cX5_on 22 = .ok (.invokevirtual 86, 3) := by decide +kernel
theorem dX5_on_25 : decode cX5_on 25 = .ok (.ireturn, 1) := by decide +kernel
theorem dX5_on_26 : decode cX5_on 26 = .ok (.iconst 0, 1) := by decide +kernel
theorem dX5_on_27 : decode cX5_on 27 = .ok (.istore_n 2, 1) := by decide +kernel
theorem dX5_on_28 : decode cX5_on 28 = .ok (.iload_n 2, 1) := by decide +kernel
theorem dX5_on_29 : decode cX5_on 29 = .ok (.aload_n 0, 1) := by decide +kernel
theorem dX5_on_30 : decode cX5_on 30 = .ok (.getfield 143, 3) := by decide +kernel
theorem dX5_on_33 : decode cX5_on 33 = .ok (.if_icmp .ge 30, 3) := by decide +kernel
theorem dX5_on_36 : decode cX5_on 36 = .ok (.aload_n 0, 1) := by decide +kernel
theorem dX5_on_37 : decode cX5_on 37 = .ok (.getfield 32, 3) := by decide +kernel
theorem dX5_on_40 : decode cX5_on 40 = .ok (.iconst 5, 1) := by decide +kernel
theorem dX5_on_41 : decode cX5_on 41 = .ok (.iload_n 2, 1) := by decide +kernel
theorem dX5_on_42 : decode cX5_on 42 = .ok (.imul, 1) := by decide +kernel
theorem dX5_on_43 : decode cX5_on 43 = .ok (.iconst 4, 1) := by decide +kernel
theorem dX5_on_44 : decode cX5_on 44 = .ok (.iadd, 1) := by decide +kernel
theorem dX5_on_45 : decode cX5_on 45 = .ok (.aload_n 0, 1) := by decide +kernel
theorem dX5_on_46 : decode cX5_on 46 = .ok (.getfield 61, 3) := by decide +kernel
theorem dX5_on_49 : decode cX5_on 49 = .ok (.bipush 8, 2) := by decide +kernel
theorem dX5_on_51 : decode cX5_on 51 = .ok (.iload_n 1, 1) := by decide +kernel
theorem dX5_on_52 : decode cX5_on 52 = .ok (.imul, 1) := by decide +kernel
theorem dX5_on_53 : decode cX5_on 53 = .ok (.iload_n 2, 1) := by decide +kernel
theorem dX5_on_54 : decode cX5_on 54 = .ok (.iadd, 1) := by decide +kernel
theorem dX5_on_55 : decode cX5_on 55 = .ok (.iaload, 1) := by decide +kernel
theorem dX5_on_56 : decode cX5_on 56 = .ok (.iastore, 1) := by decide +kernel
theorem dX5_on_57 : decode cX5_on 57 = .ok (.iinc 2 1, 3) := by decide +kernel
theorem dX5_on_60 : decode cX5_on 60 = .ok (.goto (-32), 3) := by decide +kernel
theorem dX5_on_63 : decode cX5_on 63 = .ok (.aload_n 0, 1) := by decide +kernel
theorem dX5_on_64 : decode cX5_on 64 = .ok (.invokevirtual 261, 3) := by decide +kernel
theorem dX5_on_67 : decode cX5_on 67 = .ok (.ireturn, 1) := by decide +kernel
set_option maxRecDepth 20000 in
theorem ggX5_mustOf_X5_debtAt : GoodIn wsX5_mustOf wsX5_debtAt := goodIn_r _ [8, 9, 19, 20, 21, 22, 23, 24, 25, 26, 27, 28, 29, 30, 31, 32, 33, 34, 35, 36, 37, 38, 39, 40, 41, 42, 43, 44, 45, 46, 47, 48] (by decide +kernel) (by decide +kernel)
set_option maxRecDepth 20000 in
theorem gX5_mustOf_X5_debtAt : GoodIn wsX5_mustOf (wsV RX5 164 RX5 yX5_debtAt wsX5_debtAt) := goodIn_app (goodIn_of _ (by decide +kernel)) ggX5_mustOf_X5_debtAt
set_option maxRecDepth 20000 in
theorem ggX5_mustOf_X5_kind : GoodIn wsX5_mustOf wsX5_kind := goodIn_r _ [13, 14, 19, 20, 21, 22, 23, 24, 25, 26, 27, 28, 29, 30, 31, 32, 33, 34, 35, 36, 37, 38, 39, 40, 41, 42, 43, 44, 45, 46, 47, 48] (by decide +kernel) (by decide +kernel)
set_option maxRecDepth 20000 in
theorem gX5_mustOf_X5_kind : GoodIn wsX5_mustOf (wsV RX5 152 RX5 yX5_kind wsX5_kind) := goodIn_app (goodIn_of _ (by decide +kernel)) ggX5_mustOf_X5_kind
set_option maxRecDepth 20000 in
theorem ggX5_mustOf_X5_with : GoodIn wsX5_mustOf wsX5_with := goodIn_r _ [18, 14, 19, 20, 21, 22, 23, 24, 25, 26, 27, 28, 29, 30, 31, 32, 33, 34, 35, 36, 37, 38, 39, 40, 41, 42, 43, 44, 45, 46, 47, 48] (by decide +kernel) (by decide +kernel)
set_option maxRecDepth 20000 in
theorem gX5_mustOf_X5_with : GoodIn wsX5_mustOf (wsV RX5 174 RX5 yX5_with wsX5_with) := goodIn_app (goodIn_of _ (by decide +kernel)) ggX5_mustOf_X5_with
theorem dX5_mustOf_0 : decode cX5_mustOf 0 = .ok (.iconst 0, 1) := by decide +kernel
theorem dX5_mustOf_1 : decode cX5_mustOf 1 = .ok (.istore_n 2, 1) := by decide +kernel
theorem dX5_mustOf_2 : decode cX5_mustOf 2 = .ok (.iconst 0, 1) := by decide +kernel
theorem dX5_mustOf_3 : decode cX5_mustOf 3 = .ok (.istore_n 3, 1) := by decide +kernel
theorem dX5_mustOf_4 : decode cX5_mustOf 4 = .ok (.iload_n 3, 1) := by decide +kernel
theorem dX5_mustOf_5 : decode cX5_mustOf 5 = .ok (.aload_n 0, 1) := by decide +kernel
theorem dX5_mustOf_6 : decode cX5_mustOf 6 = .ok (.getfield 143, 3) := by decide +kernel
theorem dX5_mustOf_9 : decode cX5_mustOf 9 = .ok (.if_icmp .ge 143, 3) := by decide +kernel
theorem dX5_mustOf_12 : decode cX5_mustOf 12 = .ok (.aload_n 0, 1) := by decide +kernel
theorem dX5_mustOf_13 : decode cX5_mustOf 13 = .ok (.getfield 41, 3) := by decide +kernel
theorem dX5_mustOf_16 : decode cX5_mustOf 16 = .ok (.iload_n 3, 1) := by decide +kernel
theorem dX5_mustOf_17 : decode cX5_mustOf 17 = .ok (.iaload, 1) := by decide +kernel
theorem dX5_mustOf_18 : decode cX5_mustOf 18 = .ok (.bipush (-9), 2) := by decide +kernel
theorem dX5_mustOf_20 : decode cX5_mustOf 20 = .ok (.if_icmp .eq 126, 3) := by decide +kernel
theorem dX5_mustOf_23 : decode cX5_mustOf 23 = .ok (.aload_n 0, 1) := by decide +kernel
theorem dX5_mustOf_24 : decode cX5_mustOf 24 = .ok (.iload_n 3, 1) := by decide +kernel
theorem dX5_mustOf_25 : decode cX5_mustOf 25 = .ok (.iconst 1, 1) := by decide +kernel
theorem dX5_mustOf_26 : decode cX5_mustOf 26 = .ok (.invokevirtual 164, 3) := by decide +kernel
theorem dX5_mustOf_29 : decode cX5_mustOf 29 = .ok (.istore 4, 2) := by decide +kernel
theorem dX5_mustOf_31 : decode cX5_mustOf 31 = .ok (.iload 4, 2) := by decide +kernel
theorem dX5_mustOf_33 : decode cX5_mustOf 33 = .ok (.iload_n 1, 1) := by decide +kernel
theorem dX5_mustOf_34 : decode cX5_mustOf 34 = .ok (.if_icmp .ne 27, 3) := by decide +kernel
theorem dX5_mustOf_37 : decode cX5_mustOf 37 = .ok (.aload_n 0, 1) := by decide +kernel
theorem dX5_mustOf_38 : decode cX5_mustOf 38 = .ok (.iload 4, 2) := by decide +kernel
theorem dX5_mustOf_40 : decode cX5_mustOf 40 = .ok (.invokevirtual 152, 3) := by decide +kernel
theorem dX5_mustOf_43 : decode cX5_mustOf 43 = .ok (.iconst 2, 1) := by decide +kernel
theorem dX5_mustOf_44 : decode cX5_mustOf 44 = .ok (.if_icmp .eq 17, 3) := by decide +kernel
theorem dX5_mustOf_47 : decode cX5_mustOf 47 = .ok (.aload_n 0, 1) := by decide +kernel
theorem dX5_mustOf_48 : decode cX5_mustOf 48 = .ok (.iload 4, 2) := by decide +kernel
theorem dX5_mustOf_50 : decode cX5_mustOf 50 = .ok (.invokevirtual 152, 3) := by decide +kernel
theorem dX5_mustOf_53 : decode cX5_mustOf 53 = .ok (.iconst 4, 1) := by decide +kernel
theorem dX5_mustOf_54 : decode cX5_mustOf 54 = .ok (.if_icmp .eq 7, 3) := by decide +kernel
theorem dX5_mustOf_57 : decode cX5_mustOf 57 = .ok (.iconst 1, 1) := by decide +kernel
theorem dX5_mustOf_58 : decode cX5_mustOf 58 = .ok (.goto 4, 3) := by decide +kernel
theorem dX5_mustOf_61 : decode cX5_mustOf 61 = .ok (.iconst 0, 1) := by decide +kernel
theorem dX5_mustOf_62 : decode cX5_mustOf 62 = .ok (.istore 5, 2) := by decide +kernel
theorem dX5_mustOf_64 : decode cX5_mustOf 64 = .ok (.aload_n 0, 1) := by decide +kernel
theorem dX5_mustOf_65 : decode cX5_mustOf 65 = .ok (.iload 4, 2) := by decide +kernel
theorem dX5_mustOf_67 : decode cX5_mustOf 67 = .ok (.invokevirtual 152, 3) := by decide +kernel
theorem dX5_mustOf_70 : decode cX5_mustOf 70 = .ok (.iconst 3, 1) := by decide +kernel
theorem dX5_mustOf_71 : decode cX5_mustOf 71 = .ok (.if_icmp .ne 17, 3) := by decide +kernel
theorem dX5_mustOf_74 : decode cX5_mustOf 74 = .ok (.aload_n 0, 1) := by decide +kernel
theorem dX5_mustOf_75 : decode cX5_mustOf 75 = .ok (.iload 4, 2) := by decide +kernel
theorem dX5_mustOf_77 : decode cX5_mustOf 77 = .ok (.invokevirtual 174, 3) := by decide +kernel
theorem dX5_mustOf_80 : decode cX5_mustOf 80 = .ok (.iload_n 1, 1) := by decide +kernel
theorem dX5_mustOf_81 : decode cX5_mustOf 81 = .ok (.if_icmp .ne 7, 3) := by decide +kernel
theorem dX5_mustOf_84 : decode cX5_mustOf 84 = .ok (.iconst 1, 1) := by decide +kernel
theorem dX5_mustOf_85 : decode cX5_mustOf 85 = .ok (.goto 4, 3) := by decide +kernel
theorem dX5_mustOf_88 : decode cX5_mustOf 88 = .ok (.iconst 0, 1) := by decide +kernel
theorem dX5_mustOf_89 : decode cX5_mustOf 89 = .ok (.istore 6, 2) := by decide +kernel
theorem dX5_mustOf_91 : decode cX5_mustOf 91 = .ok (.aload_n 0, 1) := by decide +kernel
theorem dX5_mustOf_92 : decode cX5_mustOf 92 = .ok (.iload_n 3, 1) := by decide +kernel
theorem dX5_mustOf_93 : decode cX5_mustOf 93 = .ok (.iconst 0, 1) := by decide +kernel
theorem dX5_mustOf_94 : decode cX5_mustOf 94 = .ok (.invokevirtual 164, 3) := by decide +kernel
theorem dX5_mustOf_97 : decode cX5_mustOf 97 = .ok (.iload_n 1, 1) := by decide +kernel
theorem dX5_mustOf_98 : decode cX5_mustOf 98 = .ok (.if_icmp .eq 21, 3) := by decide +kernel
theorem dX5_mustOf_101 : decode cX5_mustOf 101 = .ok (.aload_n 0, 1) := by decide +kernel
theorem dX5_mustOf_102 : decode cX5_mustOf 102 = .ok (.getfield 146, 3) := by decide +kernel
theorem dX5_mustOf_105 : decode cX5_mustOf 105 = .ok (.iconst 3, 1) := by decide +kernel
theorem dX5_mustOf_106 : decode cX5_mustOf 106 = .ok (.if_icmp .ge 17, 3) := by decide +kernel
theorem dX5_mustOf_109 : decode cX5_mustOf 109 = .ok (.iload 5, 2) := by decide +kernel
theorem dX5_mustOf_111 : decode cX5_mustOf 111 = .ok (.ifCond .ne 8, 3) := by decide +kernel
theorem dX5_mustOf_114 : decode cX5_mustOf 114 = .ok (.iload 6, 2) := by decide +kernel
theorem dX5_mustOf_116 : decode cX5_mustOf 116 = .ok (.ifCond .eq 7, 3) := by decide +kernel
theorem dX5_mustOf_119 : decode cX5_mustOf 119 = .ok (.iconst 1, 1) := by decide +kernel
theorem dX5_mustOf_120 : decode cX5_mustOf 120 = .ok (.goto 4, 3) := by decide +kernel
theorem dX5_mustOf_123 : decode cX5_mustOf 123 = .ok (.iconst 0, 1) := by decide +kernel
theorem dX5_mustOf_124 : decode cX5_mustOf 124 = .ok (.istore 7, 2) := by decide +kernel
theorem dX5_mustOf_126 : decode cX5_mustOf 126 = .ok (.iload_n 2, 1) := by decide +kernel
theorem dX5_mustOf_127 : decode cX5_mustOf 127 = .ok (.iload 7, 2) := by decide +kernel
theorem dX5_mustOf_129 : decode cX5_mustOf 129 = .ok (.ifCond .eq 14, 3) := by decide +kernel
theorem dX5_mustOf_132 : decode cX5_mustOf 132 = .ok (.iconst 1, 1) := by decide +kernel
theorem dX5_mustOf_133 : decode cX5_mustOf 133 = .ok (.aload_n 0, 1) := by decide +kernel
theorem dX5_mustOf_134 : decode cX5_mustOf 134 = .ok (.getfield 41, 3) := by decide +kernel
theorem dX5_mustOf_137 : decode cX5_mustOf 137 = .ok (.iload_n 3, 1) := by decide +kernel
theorem dX5_mustOf_138 : decode cX5_mustOf 138 = .ok (.iaload, 1) := by decide +kernel
theorem dX5_mustOf_139 : decode cX5_mustOf 139 = .ok (.ishl, 1) := by decide +kernel
theorem dX5_mustOf_140 : decode cX5_mustOf 140 = .ok (.goto 4, 3) := by decide +kernel
theorem dX5_mustOf_143 : decode cX5_mustOf 143 = .ok (.iconst 0, 1) := by decide +kernel
theorem dX5_mustOf_144 : decode cX5_mustOf 144 = .ok (.ior, 1) := by decide +kernel
theorem dX5_mustOf_145 : decode cX5_mustOf 145 = .ok (.istore_n 2, 1) := by decide +kernel
theorem dX5_mustOf_146 : decode cX5_mustOf 146 = .ok (.iinc 3 1, 3) := by decide +kernel
theorem dX5_mustOf_149 : decode cX5_mustOf 149 = .ok (.goto (-145), 3) := by decide +kernel
theorem dX5_mustOf_152 : decode cX5_mustOf 152 = .ok (.iload_n 2, 1) := by decide +kernel
theorem dX5_mustOf_153 : decode cX5_mustOf 153 = .ok (.ireturn, 1) := by decide +kernel
set_option maxRecDepth 20000 in
theorem ggX5_must_X5_isRow : GoodIn wsX5_must wsX5_isRow := goodIn_r _ [4, 5, 6, 3, 7] (by decide +kernel) (by decide +kernel)
set_option maxRecDepth 20000 in
theorem gX5_must_X5_isRow : GoodIn wsX5_must (va_wsS RX5 82 yX5_isRow wsX5_isRow) := goodIn_app (goodIn_of _ (by decide +kernel)) ggX5_must_X5_isRow
set_option maxRecDepth 20000 in
theorem ggX5_must_X5_isOne : GoodIn wsX5_must wsX5_isOne := goodIn_r _ [11, 12, 5, 6, 3, 7, 53, 54, 55, 56, 57, 58, 59, 60, 61, 62, 63, 64, 65, 66, 67, 68, 69, 70, 71, 72, 73, 74, 75, 76, 77, 78, 79, 80, 81, 82] (by decide +kernel) (by decide +kernel)
set_option maxRecDepth 20000 in
theorem gX5_must_X5_isOne : GoodIn wsX5_must (wsV RX5 155 RX5 yX5_isOne wsX5_isOne) := goodIn_app (goodIn_of _ (by decide +kernel)) ggX5_must_X5_isOne
set_option maxRecDepth 20000 in
theorem ggX5_must_X5_needRound : GoodIn wsX5_must wsX5_needRound := goodIn_r _ [16, 17, 18, 19, 20, 21, 22, 3, 23, 24, 25, 26, 27, 28, 29, 30, 31, 32, 33, 5, 6, 7, 53, 54, 55, 56, 57, 58, 59, 60, 61, 62, 63, 64, 65, 66, 67, 68, 69, 70, 71, 72, 73, 74, 75, 76, 77, 78, 79, 80, 81, 82] (by decide +kernel) (by decide +kernel)
set_option maxRecDepth 20000 in
theorem gX5_must_X5_needRound : GoodIn wsX5_must (wsV RX5 207 RX5 yX5_needRound wsX5_needRound) := goodIn_app (goodIn_of _ (by decide +kernel)) ggX5_must_X5_needRound
set_option maxRecDepth 20000 in
theorem ggX5_must_X5_mustOf : GoodIn wsX5_must wsX5_mustOf := goodIn_r _ [37, 18, 19, 38, 39, 40, 41, 3, 42, 43, 44, 45, 46, 47, 48, 49, 50, 51, 52, 53, 54, 55, 56, 57, 58, 59, 60, 61, 62, 63, 64, 65, 66, 67, 68, 69, 70, 71, 72, 73, 74, 75, 76, 77, 78, 79, 80, 81, 82] (by decide +kernel) (by decide +kernel)
set_option maxRecDepth 20000 in
theorem gX5_must_X5_mustOf : GoodIn wsX5_must (wsV RX5 264 RX5 yX5_mustOf wsX5_mustOf) := goodIn_app (goodIn_of _ (by decide +kernel)) ggX5_must_X5_mustOf
theorem dX5_must_0 : decode cX5_must 0 = .ok (.iload_n 1, 1) := by decide +kernel
theorem dX5_must_1 : decode cX5_must 1 = .ok (.invokestatic 82, 3) := by decide +kernel
theorem dX5_must_4 : decode cX5_must 4 = .ok (.ifCond .eq 11, 3) := by decide +kernel
theorem dX5_must_7 : decode cX5_must 7 = .ok (.aload_n 0, 1) := by decide +kernel
theorem dX5_must_8 : decode cX5_must 8 = .ok (.iload_n 2, 1) := by decide +kernel
theorem dX5_must_9 : decode cX5_must 9 = .ok (.invokevirtual 155, 3) := by decide +kernel
theorem dX5_must_12 : decode cX5_must 12 = .ok (.ifCond .ne 5, 3) := by decide +kernel
theorem dX5_must_15 : decode cX5_must 15 = .ok (.iconst (-1), 1) := by decide +kernel
theorem dX5_must_16 : decode cX5_must 16 = .ok (.ireturn, 1) := by decide +kernel
theorem dX5_must_17 : decode cX5_must 17 = .ok (.aload_n 0, 1) := by decide +kernel
theorem dX5_must_18 : decode cX5_must 18 = .ok (.iload_n 1, 1) := by decide +kernel
theorem dX5_must_19 : decode cX5_must 19 = .ok (.invokevirtual 207, 3) := by decide +kernel
theorem dX5_must_22 : decode cX5_must 22 = .ok (.istore_n 3, 1) := by decide +kernel
theorem dX5_must_23 : decode cX5_must 23 = .ok (.iload_n 3, 1) := by decide +kernel
theorem dX5_must_24 : decode cX5_must 24 = .ok (.ifCond .ge 7, 3) := by decide +kernel
theorem dX5_must_27 : decode cX5_must 27 = .ok (.iload_n 3, 1) := by decide +kernel
theorem dX5_must_28 : decode cX5_must 28 = .ok (.goto 8, 3) := by decide +kernel
theorem dX5_must_31 : decode cX5_must 31 = .ok (.aload_n 0, 1) := by decide +kernel
theorem dX5_must_32 : decode cX5_must 32 = .ok (.iload_n 2, 1) := by decide +kernel
theorem dX5_must_33 : decode cX5_must 33 = .ok (.invokevirtual 264, 3) := by decide +kernel
theorem dX5_must_36 : decode cX5_must 36 = .ok (.ireturn, 1) := by decide +kernel
set_option maxRecDepth 20000 in
theorem ggX5_liars_X5_isRow : GoodIn wsX5_liars wsX5_isRow := goodIn_r _ [6, 7, 8, 5, 9] (by decide +kernel) (by decide +kernel)
set_option maxRecDepth 20000 in
theorem gX5_liars_X5_isRow : GoodIn wsX5_liars (va_wsS RX5 82 yX5_isRow wsX5_isRow) := goodIn_app (goodIn_of _ (by decide +kernel)) ggX5_liars_X5_isRow
set_option maxRecDepth 20000 in
theorem ggX5_liars_X5_needRound : GoodIn wsX5_liars wsX5_needRound := goodIn_r _ [13, 14, 15, 16, 17, 18, 19, 5, 20, 21, 22, 23, 24, 25, 26, 27, 28, 29, 30, 7, 8, 9, 57, 58, 59, 60, 61, 62, 63, 64, 65, 66, 67, 68, 69, 70, 71, 72, 73, 74, 75, 76, 77, 78, 79, 80, 81, 82, 83, 84, 85, 86] (by decide +kernel) (by decide +kernel)
set_option maxRecDepth 20000 in
theorem gX5_liars_X5_needRound : GoodIn wsX5_liars (wsV RX5 207 RX5 yX5_needRound wsX5_needRound) := goodIn_app (goodIn_of _ (by decide +kernel)) ggX5_liars_X5_needRound
set_option maxRecDepth 20000 in
theorem ggX5_liars_X5_mustOf : GoodIn wsX5_liars wsX5_mustOf := goodIn_r _ [34, 15, 16, 35, 36, 37, 38, 5, 39, 40, 41, 42, 43, 44, 2, 45, 46, 47, 48, 57, 58, 59, 60, 61, 62, 63, 64, 65, 66, 67, 68, 69, 70, 71, 72, 73, 74, 75, 76, 77, 78, 79, 80, 81, 82, 83, 84, 85, 86] (by decide +kernel) (by decide +kernel)
set_option maxRecDepth 20000 in
theorem gX5_liars_X5_mustOf : GoodIn wsX5_liars (wsV RX5 264 RX5 yX5_mustOf wsX5_mustOf) := goodIn_app (goodIn_of _ (by decide +kernel)) ggX5_liars_X5_mustOf
set_option maxRecDepth 20000 in
theorem ggX5_liars_X5_bits : GoodIn wsX5_liars wsX5_bits := goodIn_r _ [51] (by decide +kernel) (by decide +kernel)
set_option maxRecDepth 20000 in
theorem gX5_liars_X5_bits : GoodIn wsX5_liars (va_wsS RX5 177 yX5_bits wsX5_bits) := goodIn_app (goodIn_of _ (by decide +kernel)) ggX5_liars_X5_bits
set_option maxRecDepth 20000 in
theorem ggX5_liars_X5_tells : GoodIn wsX5_liars wsX5_tells := goodIn_r _ [55, 56, 57, 58, 59, 60, 61, 62, 63, 64, 65, 66, 67, 68, 69, 70, 71, 72, 73, 74, 75, 76, 77, 78, 79, 80, 81, 82, 83, 84, 85, 86] (by decide +kernel) (by decide +kernel)
set_option maxRecDepth 20000 in
theorem gX5_liars_X5_tells : GoodIn wsX5_liars (wsV RX5 94 RX5 yX5_tells wsX5_tells) := goodIn_app (goodIn_of _ (by decide +kernel)) ggX5_liars_X5_tells
theorem dX5_liars_0 : decode cX5_liars 0 = .ok (.iload_n 1, 1) := by decide +kernel
theorem dX5_liars_1 : decode cX5_liars 1 = .ok (.invokestatic 82, 3) := by decide +kernel
theorem dX5_liars_4 : decode cX5_liars 4 = .ok (.ifCond .ne 5, 3) := by decide +kernel
theorem dX5_liars_7 : decode cX5_liars 7 = .ok (.iconst (-1), 1) := by decide +kernel
theorem dX5_liars_8 : decode cX5_liars 8 = .ok (.ireturn, 1) := by decide +kernel
theorem dX5_liars_9 : decode cX5_liars 9 = .ok (.aload_n 0, 1) := by decide +kernel
theorem dX5_liars_10 : decode cX5_liars 10 = .ok (.iload_n 1, 1) := by decide +kernel
theorem dX5_liars_11 : decode cX5_liars 11 = .ok (.invokevirtual 207, 3) := by decide +kernel
theorem dX5_liars_14 : decode cX5_liars 14 = .ok (.istore_n 2, 1) := by decide +kernel
theorem dX5_liars_15 : decode cX5_liars 15 = .ok (.iload_n 2, 1) := by decide +kernel
theorem dX5_liars_16 : decode cX5_liars 16 = .ok (.ifCond .ge 5, 3) := by decide +kernel
theorem dX5_liars_19 : decode cX5_liars 19 = .ok (.iload_n 2, 1) := by decide +kernel
theorem dX5_liars_20 : decode cX5_liars 20 = .ok (.ireturn, 1) := by decide +kernel
theorem dX5_liars_21 : decode cX5_liars 21 = .ok (.iconst 0, 1) := by decide +kernel
theorem dX5_liars_22 : decode cX5_liars 22 = .ok (.istore_n 3, 1) := by decide +kernel
theorem dX5_liars_23 : decode cX5_liars 23 = .ok (.iconst 0, 1) := by decide +kernel
theorem dX5_liars_24 : decode cX5_liars 24 = .ok (.istore 4, 2) := by decide +kernel
theorem dX5_liars_26 : decode cX5_liars 26 = .ok (.iconst 0, 1) := by decide +kernel
theorem dX5_liars_27 : decode cX5_liars 27 = .ok (.istore 5, 2) := by decide +kernel
theorem dX5_liars_29 : decode cX5_liars 29 = .ok (.iload 5, 2) := by decide +kernel
theorem dX5_liars_31 : decode cX5_liars 31 = .ok (.aload_n 0, 1) := by decide +kernel
theorem dX5_liars_32 : decode cX5_liars 32 = .ok (.getfield 140, 3) := by decide +kernel
theorem dX5_liars_35 : decode cX5_liars 35 = .ok (.if_icmp .ge 57, 3) := by decide +kernel
theorem dX5_liars_38 : decode cX5_liars 38 = .ok (.aload_n 0, 1) := by decide +kernel
theorem dX5_liars_39 : decode cX5_liars 39 = .ok (.iload 5, 2) := by decide +kernel
theorem dX5_liars_41 : decode cX5_liars 41 = .ok (.invokevirtual 264, 3) := by decide +kernel
theorem dX5_liars_44 : decode cX5_liars 44 = .ok (.aload_n 0, 1) := by decide +kernel
theorem dX5_liars_45 : decode cX5_liars 45 = .ok (.getfield 29, 3) := by decide +kernel
theorem dX5_liars_48 : decode cX5_liars 48 = .ok (.iconst 4, 1) := by decide +kernel
theorem dX5_liars_49 : decode cX5_liars 49 = .ok (.iload 5, 2) := by decide +kernel
theorem dX5_liars_51 : decode cX5_liars 51 = .ok (.imul, 1) := by decide +kernel
theorem dX5_liars_52 : decode cX5_liars 52 = .ok (.iconst 2, 1) := by decide +kernel
theorem dX5_liars_53 : decode cX5_liars 53 = .ok (.iadd, 1) := by decide +kernel
theorem dX5_liars_54 : decode cX5_liars 54 = .ok (.iaload, 1) := by decide +kernel
theorem dX5_liars_55 : decode cX5_liars 55 = .ok (.iconst (-1), 1) := by decide +kernel
theorem dX5_liars_56 : decode cX5_liars 56 = .ok (.ixor, 1) := by decide +kernel
theorem dX5_liars_57 : decode cX5_liars 57 = .ok (.iand, 1) := by decide +kernel
theorem dX5_liars_58 : decode cX5_liars 58 = .ok (.istore 6, 2) := by decide +kernel
theorem dX5_liars_60 : decode cX5_liars 60 = .ok (.iload_n 3, 1) := by decide +kernel
theorem dX5_liars_61 : decode cX5_liars 61 = .ok (.iload 6, 2) := by decide +kernel
theorem dX5_liars_63 : decode cX5_liars 63 = .ok (.ifCond .eq 10, 3) := by decide +kernel
theorem dX5_liars_66 : decode cX5_liars 66 = .ok (.iconst 1, 1) := by decide +kernel
theorem dX5_liars_67 : decode cX5_liars 67 = .ok (.iload 5, 2) := by decide +kernel
theorem dX5_liars_69 : decode cX5_liars 69 = .ok (.ishl, 1) := by decide +kernel
theorem dX5_liars_70 : decode cX5_liars 70 = .ok (.goto 4, 3) := by decide +kernel
theorem dX5_liars_73 : decode cX5_liars 73 = .ok (.iconst 0, 1) := by decide +kernel
theorem dX5_liars_74 : decode cX5_liars 74 = .ok (.ior, 1) := by decide +kernel
theorem dX5_liars_75 : decode cX5_liars 75 = .ok (.istore_n 3, 1) := by decide +kernel
theorem dX5_liars_76 : decode cX5_liars 76 = .ok (.iload 4, 2) := by decide +kernel
theorem dX5_liars_78 : decode cX5_liars 78 = .ok (.iload 6, 2) := by decide +kernel
theorem dX5_liars_80 : decode cX5_liars 80 = .ok (.invokestatic 177, 3) := by decide +kernel
theorem dX5_liars_83 : decode cX5_liars 83 = .ok (.iadd, 1) := by decide +kernel
theorem dX5_liars_84 : decode cX5_liars 84 = .ok (.istore 4, 2) := by decide +kernel
theorem dX5_liars_86 : decode cX5_liars 86 = .ok (.iinc 5 1, 3) := by decide +kernel
theorem dX5_liars_89 : decode cX5_liars 89 = .ok (.goto (-60), 3) := by decide +kernel
theorem dX5_liars_92 : decode cX5_liars 92 = .ok (.aload_n 0, 1) := by decide +kernel
theorem dX5_liars_93 : decode cX5_liars 93 = .ok (.iload 4, 2) := by decide +kernel
theorem dX5_liars_95 : decode cX5_liars 95 = .ok (.iload_n 3, 1) := by decide +kernel
theorem dX5_liars_96 : decode cX5_liars 96 = .ok (.invokevirtual 94, 3) := by decide +kernel
theorem dX5_liars_99 : decode cX5_liars 99 = .ok (.ireturn, 1) := by decide +kernel
set_option maxRecDepth 20000 in
theorem ggX5_counted_X5_kind : GoodIn wsX5_counted wsX5_kind := goodIn_r _ [10, 11, 25, 26, 27, 28, 29, 30, 31, 32, 33, 34, 35, 36, 37, 38, 39, 40, 41, 42, 43, 44, 45, 46, 47, 48, 49, 50, 51, 52, 53, 54] (by decide +kernel) (by decide +kernel)
set_option maxRecDepth 20000 in
theorem gX5_counted_X5_kind : GoodIn wsX5_counted (wsV RX5 152 RX5 yX5_kind wsX5_kind) := goodIn_app (goodIn_of _ (by decide +kernel)) ggX5_counted_X5_kind
set_option maxRecDepth 20000 in
theorem ggX5_counted_X5_isShared : GoodIn wsX5_counted wsX5_isShared := goodIn_r _ [15, 6, 7, 8, 9, 10, 11, 25, 26, 27, 28, 29, 30, 31, 32, 33, 34, 35, 36, 37, 38, 39, 40, 41, 42, 43, 44, 45, 46, 47, 48, 49, 50, 51, 52, 53, 54] (by decide +kernel) (by decide +kernel)
set_option maxRecDepth 20000 in
theorem gX5_counted_X5_isShared : GoodIn wsX5_counted (wsV RX5 267 RX5 yX5_isShared wsX5_isShared) := goodIn_app (goodIn_of _ (by decide +kernel)) ggX5_counted_X5_isShared
set_option maxRecDepth 20000 in
theorem ggX5_counted_X5_paidNow : GoodIn wsX5_counted wsX5_paidNow := goodIn_r _ [19, 5, 20, 21, 22, 9, 23, 24, 25, 26, 27, 28, 29, 30, 31, 32, 33, 34, 35, 36, 37, 38, 39, 40, 41, 42, 43, 44, 45, 46, 47, 48, 49, 50, 51, 52, 53, 54] (by decide +kernel) (by decide +kernel)
set_option maxRecDepth 20000 in
theorem gX5_counted_X5_paidNow : GoodIn wsX5_counted (wsV RX5 261 RX5 yX5_paidNow wsX5_paidNow) := goodIn_app (goodIn_of _ (by decide +kernel)) ggX5_counted_X5_paidNow
theorem dX5_counted_0 : decode cX5_counted 0 = .ok (.iconst 0, 1) := by decide +kernel
theorem dX5_counted_1 : decode cX5_counted 1 = .ok (.istore_n 2, 1) := by decide +kernel
theorem dX5_counted_2 : decode cX5_counted 2 = .ok (.iconst 0, 1) := by decide +kernel
theorem dX5_counted_3 : decode cX5_counted 3 = .ok (.istore_n 3, 1) := by decide +kernel
theorem dX5_counted_4 : decode cX5_counted 4 = .ok (.iload_n 3, 1) := by decide +kernel
theorem dX5_counted_5 : decode cX5_counted 5 = .ok (.aload_n 0, 1) := by decide +kernel
theorem dX5_counted_6 : decode cX5_counted 6 = .ok (.getfield 140, 3) := by decide +kernel
theorem dX5_counted_9 : decode cX5_counted 9 = .ok (.if_icmp .ge 53, 3) := by decide +kernel
theorem dX5_counted_12 : decode cX5_counted 12 = .ok (.iload_n 2, 1) := by decide +kernel
theorem dX5_counted_13 : decode cX5_counted 13 = .ok (.iload_n 1, 1) := by decide +kernel
theorem dX5_counted_14 : decode cX5_counted 14 = .ok (.iconst 3, 1) := by decide +kernel
theorem dX5_counted_15 : decode cX5_counted 15 = .ok (.if_icmp .ne 21, 3) := by decide +kernel
theorem dX5_counted_18 : decode cX5_counted 18 = .ok (.aload_n 0, 1) := by decide +kernel
theorem dX5_counted_19 : decode cX5_counted 19 = .ok (.iload_n 3, 1) := by decide +kernel
theorem dX5_counted_20 : decode cX5_counted 20 = .ok (.invokevirtual 152, 3) := by decide +kernel
theorem dX5_counted_23 : decode cX5_counted 23 = .ok (.iconst 1, 1) := by decide +kernel
theorem dX5_counted_24 : decode cX5_counted 24 = .ok (.if_icmp .eq 25, 3) := by decide +kernel
theorem dX5_counted_27 : decode cX5_counted 27 = .ok (.aload_n 0, 1) := by decide +kernel
theorem dX5_counted_28 : decode cX5_counted 28 = .ok (.iload_n 3, 1) := by decide +kernel
theorem dX5_counted_29 : decode cX5_counted 29 = .ok (.invokevirtual 152, 3) := by decide +kernel
theorem dX5_counted_32 : decode cX5_counted 32 = .ok (.iconst 5, 1) := by decide +kernel
theorem dX5_counted_33 : decode cX5_counted 33 = .ok (.if_icmp .eq 16, 3) := by decide +kernel
theorem dX5_counted_36 : decode cX5_counted 36 = .ok (.iload_n 1, 1) := by decide +kernel
theorem dX5_counted_37 : decode cX5_counted 37 = .ok (.iconst 4, 1) := by decide +kernel
theorem dX5_counted_38 : decode cX5_counted 38 = .ok (.if_icmp .ne 15, 3) := by decide +kernel
theorem dX5_counted_41 : decode cX5_counted 41 = .ok (.aload_n 0, 1) := by decide +kernel
theorem dX5_counted_42 : decode cX5_counted 42 = .ok (.iload_n 3, 1) := by decide +kernel
theorem dX5_counted_43 : decode cX5_counted 43 = .ok (.invokevirtual 267, 3) := by decide +kernel
theorem dX5_counted_46 : decode cX5_counted 46 = .ok (.ifCond .eq 7, 3) := by decide +kernel
theorem dX5_counted_49 : decode cX5_counted 49 = .ok (.iconst 1, 1) := by decide +kernel
theorem dX5_counted_50 : decode cX5_counted 50 = .ok (.goto 4, 3) := by decide +kernel
theorem dX5_counted_53 : decode cX5_counted 53 = .ok (.iconst 0, 1) := by decide +kernel
theorem dX5_counted_54 : decode cX5_counted 54 = .ok (.iadd, 1) := by decide +kernel
theorem dX5_counted_55 : decode cX5_counted 55 = .ok (.istore_n 2, 1) := by decide +kernel
theorem dX5_counted_56 : decode cX5_counted 56 = .ok (.iinc 3 1, 3) := by decide +kernel
theorem dX5_counted_59 : decode cX5_counted 59 = .ok (.goto (-55), 3) := by decide +kernel
theorem dX5_counted_62 : decode cX5_counted 62 = .ok (.iconst 0, 1) := by decide +kernel
theorem dX5_counted_63 : decode cX5_counted 63 = .ok (.istore_n 3, 1) := by decide +kernel
theorem dX5_counted_64 : decode cX5_counted 64 = .ok (.iload_n 3, 1) := by decide +kernel
theorem dX5_counted_65 : decode cX5_counted 65 = .ok (.iconst 3, 1) := by decide +kernel
theorem dX5_counted_66 : decode cX5_counted 66 = .ok (.if_icmp .ge 31, 3) := by decide +kernel
theorem dX5_counted_69 : decode cX5_counted 69 = .ok (.iload_n 2, 1) := by decide +kernel
theorem dX5_counted_70 : decode cX5_counted 70 = .ok (.iload_n 1, 1) := by decide +kernel
theorem dX5_counted_71 : decode cX5_counted 71 = .ok (.iconst 5, 1) := by decide +kernel
theorem dX5_counted_72 : decode cX5_counted 72 = .ok (.if_icmp .ne 16, 3) := by decide +kernel
theorem dX5_counted_75 : decode cX5_counted 75 = .ok (.aload_n 0, 1) := by decide +kernel
theorem dX5_counted_76 : decode cX5_counted 76 = .ok (.getfield 58, 3) := by decide +kernel
theorem dX5_counted_79 : decode cX5_counted 79 = .ok (.iload_n 3, 1) := by decide +kernel
theorem dX5_counted_80 : decode cX5_counted 80 = .ok (.baload, 1) := by decide +kernel
theorem dX5_counted_81 : decode cX5_counted 81 = .ok (.ifCond .eq 7, 3) := by decide +kernel
theorem dX5_counted_84 : decode cX5_counted 84 = .ok (.iconst 1, 1) := by decide +kernel
theorem dX5_counted_85 : decode cX5_counted 85 = .ok (.goto 4, 3) := by decide +kernel
theorem dX5_counted_88 : decode cX5_counted 88 = .ok (.iconst 0, 1) := by decide +kernel
theorem dX5_counted_89 : decode cX5_counted 89 = .ok (.iadd, 1) := by decide +kernel
theorem dX5_counted_90 : decode cX5_counted 90 = .ok (.istore_n 2, 1) := by decide +kernel
theorem dX5_counted_91 : decode cX5_counted 91 = .ok (.iinc 3 1, 3) := by decide +kernel
theorem dX5_counted_94 : decode cX5_counted 94 = .ok (.goto (-30), 3) := by decide +kernel
theorem dX5_counted_97 : decode cX5_counted 97 = .ok (.iconst 0, 1) := by decide +kernel
theorem dX5_counted_98 : decode cX5_counted 98 = .ok (.istore_n 3, 1) := by decide +kernel
theorem dX5_counted_99 : decode cX5_counted 99 = .ok (.iload_n 3, 1) := by decide +kernel
theorem dX5_counted_100 : decode cX5_counted 100 = .ok (.bipush 6, 2) := by decide +kernel
theorem dX5_counted_102 : decode cX5_counted 102 = .ok (.if_icmp .ge 32, 3) := by decide +kernel
theorem dX5_counted_105 : decode cX5_counted 105 = .ok (.iload_n 2, 1) := by decide +kernel
theorem dX5_counted_106 : decode cX5_counted 106 = .ok (.iload_n 1, 1) := by decide +kernel
theorem dX5_counted_107 : decode cX5_counted 107 = .ok (.bipush 6, 2) := by decide +kernel
theorem dX5_counted_109 : decode cX5_counted 109 = .ok (.if_icmp .ne 16, 3) := by decide +kernel
theorem dX5_counted_112 : decode cX5_counted 112 = .ok (.aload_n 0, 1) := by decide +kernel
theorem dX5_counted_113 : decode cX5_counted 113 = .ok (.getfield 13, 3) := by decide +kernel
theorem dX5_counted_116 : decode cX5_counted 116 = .ok (.iload_n 3, 1) := by decide +kernel
theorem dX5_counted_117 : decode cX5_counted 117 = .ok (.iaload, 1) := by decide +kernel
theorem dX5_counted_118 : decode cX5_counted 118 = .ok (.ifCond .lt 7, 3) := by decide +kernel
theorem dX5_counted_121 : decode cX5_counted 121 = .ok (.iconst 1, 1) := by decide +kernel
theorem dX5_counted_122 : decode cX5_counted 122 = .ok (.goto 4, 3) := by decide +kernel
theorem dX5_counted_125 : decode cX5_counted 125 = .ok (.iconst 0, 1) := by decide +kernel
theorem dX5_counted_126 : decode cX5_counted 126 = .ok (.iadd, 1) := by decide +kernel
theorem dX5_counted_127 : decode cX5_counted 127 = .ok (.istore_n 2, 1) := by decide +kernel
theorem dX5_counted_128 : decode cX5_counted 128 = .ok (.iinc 3 1, 3) := by decide +kernel
theorem dX5_counted_131 : decode cX5_counted 131 = .ok (.goto (-32), 3) := by decide +kernel
theorem dX5_counted_134 : decode cX5_counted 134 = .ok (.iconst 0, 1) := by decide +kernel
theorem dX5_counted_135 : decode cX5_counted 135 = .ok (.istore_n 3, 1) := by decide +kernel
theorem dX5_counted_136 : decode cX5_counted 136 = .ok (.iload_n 3, 1) := by decide +kernel
theorem dX5_counted_137 : decode cX5_counted 137 = .ok (.iconst 4, 1) := by decide +kernel
theorem dX5_counted_138 : decode cX5_counted 138 = .ok (.if_icmp .ge 32, 3) := by decide +kernel
theorem dX5_counted_141 : decode cX5_counted 141 = .ok (.iload_n 2, 1) := by decide +kernel
theorem dX5_counted_142 : decode cX5_counted 142 = .ok (.iload_n 1, 1) := by decide +kernel
theorem dX5_counted_143 : decode cX5_counted 143 = .ok (.bipush 7, 2) := by decide +kernel
theorem dX5_counted_145 : decode cX5_counted 145 = .ok (.if_icmp .ne 16, 3) := by decide +kernel
theorem dX5_counted_148 : decode cX5_counted 148 = .ok (.aload_n 0, 1) := by decide +kernel
theorem dX5_counted_149 : decode cX5_counted 149 = .ok (.getfield 22, 3) := by decide +kernel
theorem dX5_counted_152 : decode cX5_counted 152 = .ok (.iload_n 3, 1) := by decide +kernel
theorem dX5_counted_153 : decode cX5_counted 153 = .ok (.iaload, 1) := by decide +kernel
theorem dX5_counted_154 : decode cX5_counted 154 = .ok (.ifCond .lt 7, 3) := by decide +kernel
theorem dX5_counted_157 : decode cX5_counted 157 = .ok (.iconst 1, 1) := by decide +kernel
theorem dX5_counted_158 : decode cX5_counted 158 = .ok (.goto 4, 3) := by decide +kernel
theorem dX5_counted_161 : decode cX5_counted 161 = .ok (.iconst 0, 1) := by decide +kernel
theorem dX5_counted_162 : decode cX5_counted 162 = .ok (.iadd, 1) := by decide +kernel
theorem dX5_counted_163 : decode cX5_counted 163 = .ok (.istore_n 2, 1) := by decide +kernel
theorem dX5_counted_164 : decode cX5_counted 164 = .ok (.iinc 3 1, 3) := by decide +kernel
theorem dX5_counted_167 : decode cX5_counted 167 = .ok (.goto (-31), 3) := by decide +kernel
theorem dX5_counted_170 : decode cX5_counted 170 = .ok (.iload_n 1, 1) := by decide +kernel
theorem dX5_counted_171 : decode cX5_counted 171 = .ok (.ifCond .ne 10, 3) := by decide +kernel
theorem dX5_counted_174 : decode cX5_counted 174 = .ok (.aload_n 0, 1) := by decide +kernel
theorem dX5_counted_175 : decode cX5_counted 175 = .ok (.getfield 140, 3) := by decide +kernel
theorem dX5_counted_178 : decode cX5_counted 178 = .ok (.goto 28, 3) := by decide +kernel
theorem dX5_counted_181 : decode cX5_counted 181 = .ok (.iload_n 1, 1) := by decide +kernel
theorem dX5_counted_182 : decode cX5_counted 182 = .ok (.iconst 1, 1) := by decide +kernel
theorem dX5_counted_183 : decode cX5_counted 183 = .ok (.if_icmp .ne 10, 3) := by decide +kernel
theorem dX5_counted_186 : decode cX5_counted 186 = .ok (.aload_n 0, 1) := by decide +kernel
theorem dX5_counted_187 : decode cX5_counted 187 = .ok (.getfield 143, 3) := by decide +kernel
theorem dX5_counted_190 : decode cX5_counted 190 = .ok (.goto 16, 3) := by decide +kernel
theorem dX5_counted_193 : decode cX5_counted 193 = .ok (.iload_n 1, 1) := by decide +kernel
theorem dX5_counted_194 : decode cX5_counted 194 = .ok (.iconst 2, 1) := by decide +kernel
theorem dX5_counted_195 : decode cX5_counted 195 = .ok (.if_icmp .ne 10, 3) := by decide +kernel
theorem dX5_counted_198 : decode cX5_counted 198 = .ok (.aload_n 0, 1) := by decide +kernel
theorem dX5_counted_199 : decode cX5_counted 199 = .ok (.invokevirtual 261, 3) := by decide +kernel
theorem dX5_counted_202 : decode cX5_counted 202 = .ok (.goto 4, 3) := by decide +kernel
theorem dX5_counted_205 : decode cX5_counted 205 = .ok (.iload_n 2, 1) := by decide +kernel
theorem dX5_counted_206 : decode cX5_counted 206 = .ok (.ireturn, 1) := by decide +kernel
set_option maxRecDepth 20000 in
theorem ggX5_count_X5_in : GoodIn wsX5_count wsX5_in := goodIn_r _ [4] (by decide +kernel) (by decide +kernel)
set_option maxRecDepth 20000 in
theorem gX5_count_X5_in : GoodIn wsX5_count (va_wsS RX5 72 yX5_in wsX5_in) := goodIn_app (goodIn_of _ (by decide +kernel)) ggX5_count_X5_in
set_option maxRecDepth 20000 in
theorem ggX5_count_X5_counted : GoodIn wsX5_count wsX5_counted := goodIn_r _ [8, 9, 10, 11, 12, 13, 14, 15, 16, 3, 17, 18, 19, 20, 21, 22, 23, 24, 25, 26, 27, 28, 29, 30, 31, 32, 33, 34, 35, 36, 37, 38, 39, 40, 41, 42, 43, 44, 45, 46, 47, 48, 49, 50, 51, 52, 53, 54, 55, 56, 57, 58, 59, 60, 61] (by decide +kernel) (by decide +kernel)
set_option maxRecDepth 20000 in
theorem gX5_count_X5_counted : GoodIn wsX5_count (wsV RX5 270 RX5 yX5_counted wsX5_counted) := goodIn_app (goodIn_of _ (by decide +kernel)) ggX5_count_X5_counted
theorem dX5_count_0 : decode cX5_count 0 = .ok (.iload_n 1, 1) := by decide +kernel
theorem dX5_count_1 : decode cX5_count 1 = .ok (.iconst 0, 1) := by decide +kernel
theorem dX5_count_2 : decode cX5_count 2 = .ok (.bipush 7, 2) := by decide +kernel
theorem dX5_count_4 : decode cX5_count 4 = .ok (.invokestatic 72, 3) := by decide +kernel
theorem dX5_count_7 : decode cX5_count 7 = .ok (.ifCond .eq 11, 3) := by decide +kernel
theorem dX5_count_10 : decode cX5_count 10 = .ok (.aload_n 0, 1) := by decide +kernel
theorem dX5_count_11 : decode cX5_count 11 = .ok (.iload_n 1, 1) := by decide +kernel
theorem dX5_count_12 : decode cX5_count 12 = .ok (.invokevirtual 270, 3) := by decide +kernel
theorem dX5_count_15 : decode cX5_count 15 = .ok (.goto 4, 3) := by decide +kernel
theorem dX5_count_18 : decode cX5_count 18 = .ok (.iconst (-1), 1) := by decide +kernel
theorem dX5_count_19 : decode cX5_count 19 = .ok (.ireturn, 1) := by decide +kernel
theorem dX5_mix_0 : decode cX5_mix 0 = .ok (.aload_n 0, 1) := by decide +kernel
theorem dX5_mix_1 : decode cX5_mix 1 = .ok (.ldc2_w 273, 3) := by decide +kernel
theorem dX5_mix_4 : decode cX5_mix 4 = .ok (.aload_n 0, 1) := by decide +kernel
theorem dX5_mix_5 : decode cX5_mix 5 = .ok (.getfield 275, 3) := by decide +kernel
theorem dX5_mix_8 : decode cX5_mix 8 = .ok (.lmul, 1) := by decide +kernel
theorem dX5_mix_9 : decode cX5_mix 9 = .ok (.lload_n 1, 1) := by decide +kernel
theorem dX5_mix_10 : decode cX5_mix 10 = .ok (.ladd, 1) := by decide +kernel
theorem dX5_mix_11 : decode cX5_mix 11 = .ok (.putfield 275, 3) := by decide +kernel
theorem dX5_mix_14 : decode cX5_mix 14 = .ok (.return_, 1) := by decide +kernel
set_option maxRecDepth 20000 in
theorem ggX5_mixVillage_X5_mix : GoodIn wsX5_mixVillage wsX5_mix := goodIn_r _ [13, 14, 15, 16, 17, 18, 19, 20, 21, 22, 23, 24, 25, 26, 27, 28, 29, 30, 31, 32, 33, 34, 35, 36, 37, 38, 39, 40, 41, 42, 43, 44, 45] (by decide +kernel) (by decide +kernel)
set_option maxRecDepth 20000 in
theorem gX5_mixVillage_X5_mix : GoodIn wsX5_mixVillage (wsV RX5 278 RX5 yX5_mix wsX5_mix) := goodIn_app (goodIn_of _ (by decide +kernel)) ggX5_mixVillage_X5_mix
theorem dX5_mixVillage_0 : decode cX5_mixVillage 0 = .ok (.aload_n 0, 1) := by decide +kernel
theorem dX5_mixVillage_1 : decode cX5_mixVillage 1 = .ok (.aload_n 0, 1) := by decide +kernel
theorem dX5_mixVillage_2 : decode cX5_mixVillage 2 = .ok (.getfield 146, 3) := by decide +kernel
theorem dX5_mixVillage_5 : decode cX5_mixVillage 5 = .ok (.i2l, 1) := by decide +kernel
theorem dX5_mixVillage_6 : decode cX5_mixVillage 6 = .ok (.invokevirtual 278, 3) := by decide +kernel
theorem dX5_mixVillage_9 : decode cX5_mixVillage 9 = .ok (.iconst 0, 1) := by decide +kernel
theorem dX5_mixVillage_10 : decode cX5_mixVillage 10 = .ok (.istore_n 1, 1) := by decide +kernel
theorem dX5_mixVillage_11 : decode cX5_mixVillage 11 = .ok (.iload_n 1, 1) := by decide +kernel
theorem dX5_mixVillage_12 : decode cX5_mixVillage 12 = .ok (.iconst 4, 1) := by decide +kernel
theorem dX5_mixVillage_13 : decode cX5_mixVillage 13 = .ok (.aload_n 0, 1) := by decide +kernel
theorem dX5_mixVillage_14 : decode cX5_mixVillage 14 = .ok (.getfield 140, 3) := by decide +kernel
theorem dX5_mixVillage_17 : decode cX5_mixVillage 17 = .ok (.imul, 1) := by decide +kernel
theorem dX5_mixVillage_18 : decode cX5_mixVillage 18 = .ok (.if_icmp .ge 20, 3) := by decide +kernel
theorem dX5_mixVillage_21 : decode cX5_mixVillage 21 = .ok (.aload_n 0, 1) := by decide +kernel
theorem dX5_mixVillage_22 : decode cX5_mixVillage 22 = .ok (.aload_n 0, 1) := by decide +kernel
theorem dX5_mixVillage_23 : decode cX5_mixVillage 23 = .ok (.getfield 29, 3) := by decide +kernel
theorem dX5_mixVillage_26 : decode cX5_mixVillage 26 = .ok (.iload_n 1, 1) := by decide +kernel
theorem dX5_mixVillage_27 : decode cX5_mixVillage 27 = .ok (.iaload, 1) := by decide +kernel
theorem dX5_mixVillage_28 : decode cX5_mixVillage 28 = .ok (.i2l, 1) := by decide +kernel
theorem dX5_mixVillage_29 : decode cX5_mixVillage 29 = .ok (.invokevirtual 278, 3) := by decide +kernel
theorem dX5_mixVillage_32 : decode cX5_mixVillage 32 = .ok (.iinc 1 1, 3) := by decide +kernel
theorem dX5_mixVillage_35 : decode cX5_mixVillage 35 = .ok (.goto (-24), 3) := by decide +kernel
theorem dX5_mixVillage_38 : decode cX5_mixVillage 38 = .ok (.iconst 0, 1) := by decide +kernel
theorem dX5_mixVillage_39 : decode cX5_mixVillage 39 = .ok (.istore_n 1, 1) := by decide +kernel
theorem dX5_mixVillage_40 : decode cX5_mixVillage 40 = .ok (.iload_n 1, 1) := by decide +kernel
theorem dX5_mixVillage_41 : decode cX5_mixVillage 41 = .ok (.iconst 5, 1) := by decide +kernel
theorem dX5_mixVillage_42 : decode cX5_mixVillage 42 = .ok (.aload_n 0, 1) := by decide +kernel
theorem dX5_mixVillage_43 : decode cX5_mixVillage 43 = .ok (.getfield 143, 3) := by decide +kernel
theorem dX5_mixVillage_46 : decode cX5_mixVillage 46 = .ok (.imul, 1) := by decide +kernel
theorem dX5_mixVillage_47 : decode cX5_mixVillage 47 = .ok (.if_icmp .ge 20, 3) := by decide +kernel
theorem dX5_mixVillage_50 : decode cX5_mixVillage 50 = .ok (.aload_n 0, 1) := by decide +kernel
theorem dX5_mixVillage_51 : decode cX5_mixVillage 51 = .ok (.aload_n 0, 1) := by decide +kernel
theorem dX5_mixVillage_52 : decode cX5_mixVillage 52 = .ok (.getfield 32, 3) := by decide +kernel
theorem dX5_mixVillage_55 : decode cX5_mixVillage 55 = .ok (.iload_n 1, 1) := by decide +kernel
theorem dX5_mixVillage_56 : decode cX5_mixVillage 56 = .ok (.iaload, 1) := by decide +kernel
theorem dX5_mixVillage_57 : decode cX5_mixVillage 57 = .ok (.i2l, 1) := by decide +kernel
theorem dX5_mixVillage_58 : decode cX5_mixVillage 58 = .ok (.invokevirtual 278, 3) := by decide +kernel
theorem dX5_mixVillage_61 : decode cX5_mixVillage 61 = .ok (.iinc 1 1, 3) := by decide +kernel
theorem dX5_mixVillage_64 : decode cX5_mixVillage 64 = .ok (.goto (-24), 3) := by decide +kernel
theorem dX5_mixVillage_67 : decode cX5_mixVillage 67 = .ok (.iconst 0, 1) := by decide +kernel
theorem dX5_mixVillage_68 : decode cX5_mixVillage 68 = .ok (.istore_n 1, 1) := by decide +kernel
theorem dX5_mixVillage_69 : decode cX5_mixVillage 69 = .ok (.iload_n 1, 1) := by decide +kernel
theorem dX5_mixVillage_70 : decode cX5_mixVillage 70 = .ok (.iconst 3, 1) := by decide +kernel
theorem dX5_mixVillage_71 : decode cX5_mixVillage 71 = .ok (.if_icmp .ge 66, 3) := by decide +kernel
theorem dX5_mixVillage_74 : decode cX5_mixVillage 74 = .ok (.aload_n 0, 1) := by decide +kernel
theorem dX5_mixVillage_75 : decode cX5_mixVillage 75 = .ok (.getfield 58, 3) := by decide +kernel
theorem dX5_mixVillage_78 : decode cX5_mixVillage 78 = .ok (.iload_n 1, 1) := by decide +kernel
theorem dX5_mixVillage_79 : decode cX5_mixVillage 79 = .ok (.baload, 1) := by decide +kernel
theorem dX5_mixVillage_80 : decode cX5_mixVillage 80 = .ok (.ifCond .ne 10, 3) := by decide +kernel
theorem dX5_mixVillage_83 : decode cX5_mixVillage 83 = .ok (.aload_n 0, 1) := by decide +kernel
theorem dX5_mixVillage_84 : decode cX5_mixVillage 84 = .ok (.ldc2_w 282, 3) := by decide +kernel
theorem dX5_mixVillage_87 : decode cX5_mixVillage 87 = .ok (.invokevirtual 278, 3) := by decide +kernel
theorem dX5_mixVillage_90 : decode cX5_mixVillage 90 = .ok (.iconst 0, 1) := by decide +kernel
theorem dX5_mixVillage_91 : decode cX5_mixVillage 91 = .ok (.istore_n 2, 1) := by decide +kernel
theorem dX5_mixVillage_92 : decode cX5_mixVillage 92 = .ok (.iload_n 2, 1) := by decide +kernel
theorem dX5_mixVillage_93 : decode cX5_mixVillage 93 = .ok (.aload_n 0, 1) := by decide +kernel
theorem dX5_mixVillage_94 : decode cX5_mixVillage 94 = .ok (.getfield 143, 3) := by decide +kernel
theorem dX5_mixVillage_97 : decode cX5_mixVillage 97 = .ok (.if_icmp .ge 34, 3) := by decide +kernel
theorem dX5_mixVillage_100 : decode cX5_mixVillage 100 = .ok (.aload_n 0, 1) := by decide +kernel
theorem dX5_mixVillage_101 : decode cX5_mixVillage 101 = .ok (.getfield 58, 3) := by decide +kernel
theorem dX5_mixVillage_104 : decode cX5_mixVillage 104 = .ok (.iload_n 1, 1) := by decide +kernel
theorem dX5_mixVillage_105 : decode cX5_mixVillage 105 = .ok (.baload, 1) := by decide +kernel
theorem dX5_mixVillage_106 : decode cX5_mixVillage 106 = .ok (.ifCond .eq 25, 3) := by decide +kernel
theorem dX5_mixVillage_109 : decode cX5_mixVillage 109 = .ok (.aload_n 0, 1) := by decide +kernel
theorem dX5_mixVillage_110 : decode cX5_mixVillage 110 = .ok (.aload_n 0, 1) := by decide +kernel
theorem dX5_mixVillage_111 : decode cX5_mixVillage 111 = .ok (.getfield 61, 3) := by decide +kernel
theorem dX5_mixVillage_114 : decode cX5_mixVillage 114 = .ok (.bipush 8, 2) := by decide +kernel
theorem dX5_mixVillage_116 : decode cX5_mixVillage 116 = .ok (.iload_n 1, 1) := by decide +kernel
theorem dX5_mixVillage_117 : decode cX5_mixVillage 117 = .ok (.imul, 1) := by decide +kernel
theorem dX5_mixVillage_118 : decode cX5_mixVillage 118 = .ok (.iload_n 2, 1) := by decide +kernel
theorem dX5_mixVillage_119 : decode cX5_mixVillage 119 = .ok (.iadd, 1) := by decide +kernel
theorem dX5_mixVillage_120 : decode cX5_mixVillage 120 = .ok (.iaload, 1) := by decide +kernel
theorem dX5_mixVillage_121 : decode cX5_mixVillage 121 = .ok (.i2l, 1) := by decide +kernel
theorem dX5_mixVillage_122 : decode cX5_mixVillage 122 = .ok (.invokevirtual 278, 3) := by decide +kernel
theorem dX5_mixVillage_125 : decode cX5_mixVillage 125 = .ok (.iinc 2 1, 3) := by decide +kernel
theorem dX5_mixVillage_128 : decode cX5_mixVillage 128 = .ok (.goto (-36), 3) := by decide +kernel
theorem dX5_mixVillage_131 : decode cX5_mixVillage 131 = .ok (.iinc 1 1, 3) := by decide +kernel
theorem dX5_mixVillage_134 : decode cX5_mixVillage 134 = .ok (.goto (-65), 3) := by decide +kernel
theorem dX5_mixVillage_137 : decode cX5_mixVillage 137 = .ok (.return_, 1) := by decide +kernel
set_option maxRecDepth 20000 in
theorem ggX5_digest_X5_counted : GoodIn wsX5_digest wsX5_counted := goodIn_r _ [9, 10, 11, 3, 4, 12, 13, 14, 15, 8, 16, 17, 18, 19, 20, 21, 22, 23, 24, 25, 26, 27, 28, 29, 30, 53, 54, 55, 56, 57, 58, 59, 60, 61, 62, 63, 64, 65, 66, 67, 68, 69, 70, 71, 72, 73, 74, 75, 76, 77, 78, 79, 80, 81, 82] (by decide +kernel) (by decide +kernel)
set_option maxRecDepth 20000 in
theorem gX5_digest_X5_counted : GoodIn wsX5_digest (wsV RX5 270 RX5 yX5_counted wsX5_counted) := goodIn_app (goodIn_of _ (by decide +kernel)) ggX5_digest_X5_counted
set_option maxRecDepth 20000 in
theorem ggX5_digest_X5_mix : GoodIn wsX5_digest wsX5_mix := goodIn_r _ [34, 35, 2, 53, 54, 55, 56, 57, 58, 59, 60, 61, 62, 63, 64, 65, 66, 67, 68, 69, 70, 71, 72, 73, 74, 75, 76, 77, 78, 79, 80, 81, 82] (by decide +kernel) (by decide +kernel)
set_option maxRecDepth 20000 in
theorem gX5_digest_X5_mix : GoodIn wsX5_digest (wsV RX5 278 RX5 yX5_mix wsX5_mix) := goodIn_app (goodIn_of _ (by decide +kernel)) ggX5_digest_X5_mix
set_option maxRecDepth 20000 in
theorem ggX5_digest_X5_mixVillage : GoodIn wsX5_digest wsX5_mixVillage := goodIn_r _ [39, 40, 10, 17, 12, 30, 11, 41, 42, 31, 32, 33, 8, 34, 35, 2, 53, 54, 55, 56, 57, 58, 59, 60, 61, 62, 63, 64, 65, 66, 67, 68, 69, 70, 71, 72, 73, 74, 75, 76, 77, 78, 79, 80, 81, 82] (by decide +kernel) (by decide +kernel)
set_option maxRecDepth 20000 in
theorem gX5_digest_X5_mixVillage : GoodIn wsX5_digest (wsV RX5 286 RX5 yX5_mixVillage wsX5_mixVillage) := goodIn_app (goodIn_of _ (by decide +kernel)) ggX5_digest_X5_mixVillage
set_option maxRecDepth 20000 in
theorem ggX5_digest_X5_rowAt : GoodIn wsX5_digest wsX5_rowAt := goodIn_r _ [46, 47, 53, 54, 55, 56, 57, 58, 59, 60, 61, 62, 63, 64, 65, 66, 67, 68, 69, 70, 71, 72, 73, 74, 75, 76, 77, 78, 79, 80, 81, 82] (by decide +kernel) (by decide +kernel)
set_option maxRecDepth 20000 in
theorem gX5_digest_X5_rowAt : GoodIn wsX5_digest (wsV RX5 90 RX5 yX5_rowAt wsX5_rowAt) := goodIn_app (goodIn_of _ (by decide +kernel)) ggX5_digest_X5_rowAt
set_option maxRecDepth 20000 in
theorem ggX5_digest_X5_byteAt : GoodIn wsX5_digest wsX5_byteAt := goodIn_r _ [51, 4, 52, 53, 54, 55, 56, 57, 58, 59, 60, 61, 62, 63, 64, 65, 66, 67, 68, 69, 70, 71, 72, 73, 74, 75, 76, 77, 78, 79, 80, 81, 82] (by decide +kernel) (by decide +kernel)
set_option maxRecDepth 20000 in
theorem gX5_digest_X5_byteAt : GoodIn wsX5_digest (wsV RX5 103 RX5 yX5_byteAt wsX5_byteAt) := goodIn_app (goodIn_of _ (by decide +kernel)) ggX5_digest_X5_byteAt
theorem dX5_digest_0 : decode cX5_digest 0 = .ok (.aload_n 0, 1) := by decide +kernel
theorem dX5_digest_1 : decode cX5_digest 1 = .ok (.ldc2_w 284, 3) := by decide +kernel
theorem dX5_digest_4 : decode cX5_digest 4 = .ok (.putfield 275, 3) := by decide +kernel
theorem dX5_digest_7 : decode cX5_digest 7 = .ok (.iconst 0, 1) := by decide +kernel
theorem dX5_digest_8 : decode cX5_digest 8 = .ok (.istore_n 1, 1) := by decide +kernel
theorem dX5_digest_9 : decode cX5_digest 9 = .ok (.iload_n 1, 1) := by decide +kernel
theorem dX5_digest_10 : decode cX5_digest 10 = .ok (.bipush 8, 2) := by decide +kernel
theorem dX5_digest_12 : decode cX5_digest 12 = .ok (.if_icmp .ge 19, 3) := by decide +kernel
theorem dX5_digest_15 : decode cX5_digest 15 = .ok (.aload_n 0, 1) := by decide +kernel
theorem dX5_digest_16 : decode cX5_digest 16 = .ok (.aload_n 0, 1) := by decide +kernel
theorem dX5_digest_17 : decode cX5_digest 17 = .ok (.iload_n 1, 1) := by decide +kernel
theorem dX5_digest_18 : decode cX5_digest 18 = .ok (.invokevirtual 270, 3) := by decide +kernel
theorem dX5_digest_21 : decode cX5_digest 21 = .ok (.i2l, 1) := by decide +kernel
theorem dX5_digest_22 : decode cX5_digest 22 = .ok (.invokevirtual 278, 3) := by decide +kernel
theorem dX5_digest_25 : decode cX5_digest 25 = .ok (.iinc 1 1, 3) := by decide +kernel
theorem dX5_digest_28 : decode cX5_digest 28 = .ok (.goto (-19), 3) := by decide +kernel
theorem dX5_digest_31 : decode cX5_digest 31 = .ok (.aload_n 0, 1) := by decide +kernel
theorem dX5_digest_32 : decode cX5_digest 32 = .ok (.invokevirtual 286, 3) := by decide +kernel
theorem dX5_digest_35 : decode cX5_digest 35 = .ok (.iconst 0, 1) := by decide +kernel
theorem dX5_digest_36 : decode cX5_digest 36 = .ok (.istore_n 1, 1) := by decide +kernel
theorem dX5_digest_37 : decode cX5_digest 37 = .ok (.iload_n 1, 1) := by decide +kernel
theorem dX5_digest_38 : decode cX5_digest 38 = .ok (.bipush 6, 2) := by decide +kernel
theorem dX5_digest_40 : decode cX5_digest 40 = .ok (.if_icmp .ge 49, 3) := by decide +kernel
theorem dX5_digest_43 : decode cX5_digest 43 = .ok (.aload_n 0, 1) := by decide +kernel
theorem dX5_digest_44 : decode cX5_digest 44 = .ok (.aload_n 0, 1) := by decide +kernel
theorem dX5_digest_45 : decode cX5_digest 45 = .ok (.getfield 13, 3) := by decide +kernel
theorem dX5_digest_48 : decode cX5_digest 48 = .ok (.iload_n 1, 1) := by decide +kernel
theorem dX5_digest_49 : decode cX5_digest 49 = .ok (.iaload, 1) := by decide +kernel
theorem dX5_digest_50 : decode cX5_digest 50 = .ok (.i2l, 1) := by decide +kernel
theorem dX5_digest_51 : decode cX5_digest 51 = .ok (.invokevirtual 278, 3) := by decide +kernel
theorem dX5_digest_54 : decode cX5_digest 54 = .ok (.iconst 0, 1) := by decide +kernel
theorem dX5_digest_55 : decode cX5_digest 55 = .ok (.istore_n 2, 1) := by decide +kernel
theorem dX5_digest_56 : decode cX5_digest 56 = .ok (.iload_n 2, 1) := by decide +kernel
theorem dX5_digest_57 : decode cX5_digest 57 = .ok (.aload_n 0, 1) := by decide +kernel
theorem dX5_digest_58 : decode cX5_digest 58 = .ok (.getfield 13, 3) := by decide +kernel
theorem dX5_digest_61 : decode cX5_digest 61 = .ok (.iload_n 1, 1) := by decide +kernel
theorem dX5_digest_62 : decode cX5_digest 62 = .ok (.iaload, 1) := by decide +kernel
theorem dX5_digest_63 : decode cX5_digest 63 = .ok (.if_icmp .ge 20, 3) := by decide +kernel
theorem dX5_digest_66 : decode cX5_digest 66 = .ok (.aload_n 0, 1) := by decide +kernel
theorem dX5_digest_67 : decode cX5_digest 67 = .ok (.aload_n 0, 1) := by decide +kernel
theorem dX5_digest_68 : decode cX5_digest 68 = .ok (.iload_n 1, 1) := by decide +kernel
theorem dX5_digest_69 : decode cX5_digest 69 = .ok (.iload_n 2, 1) := by decide +kernel
theorem dX5_digest_70 : decode cX5_digest 70 = .ok (.invokevirtual 90, 3) := by decide +kernel
theorem dX5_digest_73 : decode cX5_digest 73 = .ok (.i2l, 1) := by decide +kernel
theorem dX5_digest_74 : decode cX5_digest 74 = .ok (.invokevirtual 278, 3) := by decide +kernel
theorem dX5_digest_77 : decode cX5_digest 77 = .ok (.iinc 2 1, 3) := by decide +kernel
theorem dX5_digest_80 : decode cX5_digest 80 = .ok (.goto (-24), 3) := by decide +kernel
theorem dX5_digest_83 : decode cX5_digest 83 = .ok (.iinc 1 1, 3) := by decide +kernel
theorem dX5_digest_86 : decode cX5_digest 86 = .ok (.goto (-49), 3) := by decide +kernel
theorem dX5_digest_89 : decode cX5_digest 89 = .ok (.iconst 0, 1) := by decide +kernel
theorem dX5_digest_90 : decode cX5_digest 90 = .ok (.istore_n 1, 1) := by decide +kernel
theorem dX5_digest_91 : decode cX5_digest 91 = .ok (.iload_n 1, 1) := by decide +kernel
theorem dX5_digest_92 : decode cX5_digest 92 = .ok (.iconst 4, 1) := by decide +kernel
theorem dX5_digest_93 : decode cX5_digest 93 = .ok (.if_icmp .ge 49, 3) := by decide +kernel
theorem dX5_digest_96 : decode cX5_digest 96 = .ok (.aload_n 0, 1) := by decide +kernel
theorem dX5_digest_97 : decode cX5_digest 97 = .ok (.aload_n 0, 1) := by decide +kernel
theorem dX5_digest_98 : decode cX5_digest 98 = .ok (.getfield 22, 3) := by decide +kernel
theorem dX5_digest_101 : decode cX5_digest 101 = .ok (.iload_n 1, 1) := by decide +kernel
theorem dX5_digest_102 : decode cX5_digest 102 = .ok (.iaload, 1) := by decide +kernel
theorem dX5_digest_103 : decode cX5_digest 103 = .ok (.i2l, 1) := by decide +kernel
theorem dX5_digest_104 : decode cX5_digest 104 = .ok (.invokevirtual 278, 3) := by decide +kernel
theorem dX5_digest_107 : decode cX5_digest 107 = .ok (.iconst 0, 1) := by decide +kernel
theorem dX5_digest_108 : decode cX5_digest 108 = .ok (.istore_n 2, 1) := by decide +kernel
theorem dX5_digest_109 : decode cX5_digest 109 = .ok (.iload_n 2, 1) := by decide +kernel
theorem dX5_digest_110 : decode cX5_digest 110 = .ok (.aload_n 0, 1) := by decide +kernel
theorem dX5_digest_111 : decode cX5_digest 111 = .ok (.getfield 22, 3) := by decide +kernel
theorem dX5_digest_114 : decode cX5_digest 114 = .ok (.iload_n 1, 1) := by decide +kernel
theorem dX5_digest_115 : decode cX5_digest 115 = .ok (.iaload, 1) := by decide +kernel
theorem dX5_digest_116 : decode cX5_digest 116 = .ok (.if_icmp .ge 20, 3) := by decide +kernel
theorem dX5_digest_119 : decode cX5_digest 119 = .ok (.aload_n 0, 1) := by decide +kernel
theorem dX5_digest_120 : decode cX5_digest 120 = .ok (.aload_n 0, 1) := by decide +kernel
theorem dX5_digest_121 : decode cX5_digest 121 = .ok (.iload_n 1, 1) := by decide +kernel
theorem dX5_digest_122 : decode cX5_digest 122 = .ok (.iload_n 2, 1) := by decide +kernel
theorem dX5_digest_123 : decode cX5_digest 123 = .ok (.invokevirtual 103, 3) := by decide +kernel
theorem dX5_digest_126 : decode cX5_digest 126 = .ok (.i2l, 1) := by decide +kernel
theorem dX5_digest_127 : decode cX5_digest 127 = .ok (.invokevirtual 278, 3) := by decide +kernel
theorem dX5_digest_130 : decode cX5_digest 130 = .ok (.iinc 2 1, 3) := by decide +kernel
theorem dX5_digest_133 : decode cX5_digest 133 = .ok (.goto (-24), 3) := by decide +kernel
theorem dX5_digest_136 : decode cX5_digest 136 = .ok (.iinc 1 1, 3) := by decide +kernel
theorem dX5_digest_139 : decode cX5_digest 139 = .ok (.goto (-48), 3) := by decide +kernel
theorem dX5_digest_142 : decode cX5_digest 142 = .ok (.aload_n 0, 1) := by decide +kernel
theorem dX5_digest_143 : decode cX5_digest 143 = .ok (.getfield 275, 3) := by decide +kernel
theorem dX5_digest_146 : decode cX5_digest 146 = .ok (.lreturn, 1) := by decide +kernel
