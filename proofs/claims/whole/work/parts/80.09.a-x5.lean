theorem dX5_init_0 : decode cX5_init 0 = .ok (.aload_n 0, 1) := by decide +kernel
theorem dX5_init_1 : decode cX5_init 1 = .ok (.invokespecial 1, 3) := by decide +kernel
theorem dX5_init_4 : decode cX5_init 4 = .ok (.aload_n 0, 1) := by decide +kernel
theorem dX5_init_5 : decode cX5_init 5 = .ok (.bipush 6, 2) := by decide +kernel
theorem dX5_init_7 : decode cX5_init 7 = .ok (.newarray .int, 2) := by decide +kernel
theorem dX5_init_9 : decode cX5_init 9 = .ok (.putfield 7, 3) := by decide +kernel
theorem dX5_init_12 : decode cX5_init 12 = .ok (.aload_n 0, 1) := by decide +kernel
theorem dX5_init_13 : decode cX5_init 13 = .ok (.bipush 6, 2) := by decide +kernel
theorem dX5_init_15 : decode cX5_init 15 = .ok (.newarray .int, 2) := by decide +kernel
theorem dX5_init_17 : decode cX5_init 17 = .ok (.putfield 13, 3) := by decide +kernel
theorem dX5_init_20 : decode cX5_init 20 = .ok (.aload_n 0, 1) := by decide +kernel
theorem dX5_init_21 : decode cX5_init 21 = .ok (.sipush 360, 3) := by decide +kernel
theorem dX5_init_24 : decode cX5_init 24 = .ok (.newarray .int, 2) := by decide +kernel
theorem dX5_init_26 : decode cX5_init 26 = .ok (.putfield 16, 3) := by decide +kernel
theorem dX5_init_29 : decode cX5_init 29 = .ok (.aload_n 0, 1) := by decide +kernel
theorem dX5_init_30 : decode cX5_init 30 = .ok (.bipush 60, 2) := by decide +kernel
theorem dX5_init_32 : decode cX5_init 32 = .ok (.newarray .int, 2) := by decide +kernel
theorem dX5_init_34 : decode cX5_init 34 = .ok (.putfield 19, 3) := by decide +kernel
theorem dX5_init_37 : decode cX5_init 37 = .ok (.aload_n 0, 1) := by decide +kernel
theorem dX5_init_38 : decode cX5_init 38 = .ok (.iconst 4, 1) := by decide +kernel
theorem dX5_init_39 : decode cX5_init 39 = .ok (.newarray .int, 2) := by decide +kernel
theorem dX5_init_41 : decode cX5_init 41 = .ok (.putfield 22, 3) := by decide +kernel
theorem dX5_init_44 : decode cX5_init 44 = .ok (.aload_n 0, 1) := by decide +kernel
theorem dX5_init_45 : decode cX5_init 45 = .ok (.sipush 480, 3) := by decide +kernel
theorem dX5_init_48 : decode cX5_init 48 = .ok (.newarray .byte, 2) := by decide +kernel
theorem dX5_init_50 : decode cX5_init 50 = .ok (.putfield 25, 3) := by decide +kernel
theorem dX5_init_53 : decode cX5_init 53 = .ok (.aload_n 0, 1) := by decide +kernel
theorem dX5_init_54 : decode cX5_init 54 = .ok (.bipush 24, 2) := by decide +kernel
theorem dX5_init_56 : decode cX5_init 56 = .ok (.newarray .int, 2) := by decide +kernel
theorem dX5_init_58 : decode cX5_init 58 = .ok (.putfield 29, 3) := by decide +kernel
theorem dX5_init_61 : decode cX5_init 61 = .ok (.aload_n 0, 1) := by decide +kernel
theorem dX5_init_62 : decode cX5_init 62 = .ok (.bipush 40, 2) := by decide +kernel
theorem dX5_init_64 : decode cX5_init 64 = .ok (.newarray .int, 2) := by decide +kernel
theorem dX5_init_66 : decode cX5_init 66 = .ok (.putfield 32, 3) := by decide +kernel
theorem dX5_init_69 : decode cX5_init 69 = .ok (.aload_n 0, 1) := by decide +kernel
theorem dX5_init_70 : decode cX5_init 70 = .ok (.bipush 24, 2) := by decide +kernel
theorem dX5_init_72 : decode cX5_init 72 = .ok (.newarray .int, 2) := by decide +kernel
theorem dX5_init_74 : decode cX5_init 74 = .ok (.putfield 35, 3) := by decide +kernel
theorem dX5_init_77 : decode cX5_init 77 = .ok (.aload_n 0, 1) := by decide +kernel
theorem dX5_init_78 : decode cX5_init 78 = .ok (.bipush 40, 2) := by decide +kernel
theorem dX5_init_80 : decode cX5_init 80 = .ok (.newarray .int, 2) := by decide +kernel
theorem dX5_init_82 : decode cX5_init 82 = .ok (.putfield 38, 3) := by decide +kernel
theorem dX5_init_85 : decode cX5_init 85 = .ok (.aload_n 0, 1) := by decide +kernel
theorem dX5_init_86 : decode cX5_init 86 = .ok (.bipush 8, 2) := by decide +kernel
theorem dX5_init_88 : decode cX5_init 88 = .ok (.newarray .int, 2) := by decide +kernel
theorem dX5_init_90 : decode cX5_init 90 = .ok (.putfield 41, 3) := by decide +kernel
theorem dX5_init_93 : decode cX5_init 93 = .ok (.aload_n 0, 1) := by decide +kernel
theorem dX5_init_94 : decode cX5_init 94 = .ok (.sipush 3328, 3) := by decide +kernel
theorem dX5_init_97 : decode cX5_init 97 = .ok (.newarray .int, 2) := by decide +kernel
theorem dX5_init_99 : decode cX5_init 99 = .ok (.putfield 44, 3) := by decide +kernel
theorem dX5_init_102 : decode cX5_init 102 = .ok (.aload_n 0, 1) := by decide +kernel
theorem dX5_init_103 : decode cX5_init 103 = .ok (.sipush 3328, 3) := by decide +kernel
theorem dX5_init_106 : decode cX5_init 106 = .ok (.newarray .long, 2) := by decide +kernel
theorem dX5_init_108 : decode cX5_init 108 = .ok (.putfield 47, 3) := by decide +kernel
theorem dX5_init_111 : decode cX5_init 111 = .ok (.aload_n 0, 1) := by decide +kernel
theorem dX5_init_112 : decode cX5_init 112 = .ok (.sipush 256, 3) := by decide +kernel
theorem dX5_init_115 : decode cX5_init 115 = .ok (.newarray .boolean, 2) := by decide +kernel
theorem dX5_init_117 : decode cX5_init 117 = .ok (.putfield 51, 3) := by decide +kernel
theorem dX5_init_120 : decode cX5_init 120 = .ok (.aload_n 0, 1) := by decide +kernel
theorem dX5_init_121 : decode cX5_init 121 = .ok (.bipush 6, 2) := by decide +kernel
theorem dX5_init_123 : decode cX5_init 123 = .ok (.newarray .int, 2) := by decide +kernel
theorem dX5_init_125 : decode cX5_init 125 = .ok (.putfield 55, 3) := by decide +kernel
theorem dX5_init_128 : decode cX5_init 128 = .ok (.aload_n 0, 1) := by decide +kernel
theorem dX5_init_129 : decode cX5_init 129 = .ok (.iconst 3, 1) := by decide +kernel
theorem dX5_init_130 : decode cX5_init 130 = .ok (.newarray .boolean, 2) := by decide +kernel
theorem dX5_init_132 : decode cX5_init 132 = .ok (.putfield 58, 3) := by decide +kernel
theorem dX5_init_135 : decode cX5_init 135 = .ok (.aload_n 0, 1) := by decide +kernel
theorem dX5_init_136 : decode cX5_init 136 = .ok (.bipush 24, 2) := by decide +kernel
theorem dX5_init_138 : decode cX5_init 138 = .ok (.newarray .int, 2) := by decide +kernel
theorem dX5_init_140 : decode cX5_init 140 = .ok (.putfield 61, 3) := by decide +kernel
theorem dX5_init_143 : decode cX5_init 143 = .ok (.aload_n 0, 1) := by decide +kernel
theorem dX5_init_144 : decode cX5_init 144 = .ok (.lconst 1, 1) := by decide +kernel
theorem dX5_init_145 : decode cX5_init 145 = .ok (.putfield 64, 3) := by decide +kernel
theorem dX5_init_148 : decode cX5_init 148 = .ok (.iconst 0, 1) := by decide +kernel
theorem dX5_init_149 : decode cX5_init 149 = .ok (.istore_n 1, 1) := by decide +kernel
theorem dX5_init_150 : decode cX5_init 150 = .ok (.iload_n 1, 1) := by decide +kernel
theorem dX5_init_151 : decode cX5_init 151 = .ok (.bipush 6, 2) := by decide +kernel
theorem dX5_init_153 : decode cX5_init 153 = .ok (.if_icmp .ge 16, 3) := by decide +kernel
theorem dX5_init_156 : decode cX5_init 156 = .ok (.aload_n 0, 1) := by decide +kernel
theorem dX5_init_157 : decode cX5_init 157 = .ok (.getfield 13, 3) := by decide +kernel
theorem dX5_init_160 : decode cX5_init 160 = .ok (.iload_n 1, 1) := by decide +kernel
theorem dX5_init_161 : decode cX5_init 161 = .ok (.iconst (-1), 1) := by decide +kernel
theorem dX5_init_162 : decode cX5_init 162 = .ok (.iastore, 1) := by decide +kernel
theorem dX5_init_163 : decode cX5_init 163 = .ok (.iinc 1 1, 3) := by decide +kernel
theorem dX5_init_166 : decode cX5_init 166 = .ok (.goto (-16), 3) := by decide +kernel
theorem dX5_init_169 : decode cX5_init 169 = .ok (.iconst 0, 1) := by decide +kernel
theorem dX5_init_170 : decode cX5_init 170 = .ok (.istore_n 1, 1) := by decide +kernel
theorem dX5_init_171 : decode cX5_init 171 = .ok (.iload_n 1, 1) := by decide +kernel
theorem dX5_init_172 : decode cX5_init 172 = .ok (.iconst 4, 1) := by decide +kernel
theorem dX5_init_173 : decode cX5_init 173 = .ok (.if_icmp .ge 16, 3) := by decide +kernel
theorem dX5_init_176 : decode cX5_init 176 = .ok (.aload_n 0, 1) := by decide +kernel
theorem dX5_init_177 : decode cX5_init 177 = .ok (.getfield 22, 3) := by decide +kernel
theorem dX5_init_180 : decode cX5_init 180 = .ok (.iload_n 1, 1) := by decide +kernel
theorem dX5_init_181 : decode cX5_init 181 = .ok (.iconst (-1), 1) := by decide +kernel
theorem dX5_init_182 : decode cX5_init 182 = .ok (.iastore, 1) := by decide +kernel
theorem dX5_init_183 : decode cX5_init 183 = .ok (.iinc 1 1, 3) := by decide +kernel
theorem dX5_init_186 : decode cX5_init 186 = .ok (.goto (-15), 3) := by decide +kernel
theorem dX5_init_189 : decode cX5_init 189 = .ok (.return_, 1) := by decide +kernel
theorem dX5_in_0 : decode cX5_in 0 = .ok (.iload_n 0, 1) := by decide +kernel
theorem dX5_in_1 : decode cX5_in 1 = .ok (.iload_n 1, 1) := by decide +kernel
theorem dX5_in_2 : decode cX5_in 2 = .ok (.if_icmp .lt 12, 3) := by decide +kernel
theorem dX5_in_5 : decode cX5_in 5 = .ok (.iload_n 0, 1) := by decide +kernel
theorem dX5_in_6 : decode cX5_in 6 = .ok (.iload_n 2, 1) := by decide +kernel
theorem dX5_in_7 : decode cX5_in 7 = .ok (.if_icmp .gt 7, 3) := by decide +kernel
theorem dX5_in_10 : decode cX5_in 10 = .ok (.iconst 1, 1) := by decide +kernel
theorem dX5_in_11 : decode cX5_in 11 = .ok (.goto 4, 3) := by decide +kernel
theorem dX5_in_14 : decode cX5_in 14 = .ok (.iconst 0, 1) := by decide +kernel
theorem dX5_in_15 : decode cX5_in 15 = .ok (.ireturn, 1) := by decide +kernel
theorem dX5_has_0 : decode cX5_has 0 = .ok (.iload_n 0, 1) := by decide +kernel
theorem dX5_has_1 : decode cX5_has 1 = .ok (.iload_n 1, 1) := by decide +kernel
theorem dX5_has_2 : decode cX5_has 2 = .ok (.ishr, 1) := by decide +kernel
theorem dX5_has_3 : decode cX5_has 3 = .ok (.iconst 1, 1) := by decide +kernel
theorem dX5_has_4 : decode cX5_has 4 = .ok (.iand, 1) := by decide +kernel
theorem dX5_has_5 : decode cX5_has 5 = .ok (.iconst 1, 1) := by decide +kernel
theorem dX5_has_6 : decode cX5_has 6 = .ok (.if_icmp .ne 7, 3) := by decide +kernel
theorem dX5_has_9 : decode cX5_has 9 = .ok (.iconst 1, 1) := by decide +kernel
theorem dX5_has_10 : decode cX5_has 10 = .ok (.goto 4, 3) := by decide +kernel
theorem dX5_has_13 : decode cX5_has 13 = .ok (.iconst 0, 1) := by decide +kernel
theorem dX5_has_14 : decode cX5_has 14 = .ok (.ireturn, 1) := by decide +kernel
theorem dX5_bits_0 : decode cX5_bits 0 = .ok (.iconst 0, 1) := by decide +kernel
theorem dX5_bits_1 : decode cX5_bits 1 = .ok (.istore_n 1, 1) := by decide +kernel
theorem dX5_bits_2 : decode cX5_bits 2 = .ok (.iload_n 0, 1) := by decide +kernel
theorem dX5_bits_3 : decode cX5_bits 3 = .ok (.istore_n 2, 1) := by decide +kernel
theorem dX5_bits_4 : decode cX5_bits 4 = .ok (.iload_n 2, 1) := by decide +kernel
theorem dX5_bits_5 : decode cX5_bits 5 = .ok (.ifCond .eq 15, 3) := by decide +kernel
theorem dX5_bits_8 : decode cX5_bits 8 = .ok (.iinc 1 1, 3) := by decide +kernel
theorem dX5_bits_11 : decode cX5_bits 11 = .ok (.iload_n 2, 1) := by decide +kernel
theorem dX5_bits_12 : decode cX5_bits 12 = .ok (.iload_n 2, 1) := by decide +kernel
theorem dX5_bits_13 : decode cX5_bits 13 = .ok (.iconst 1, 1) := by decide +kernel
theorem dX5_bits_14 : decode cX5_bits 14 = .ok (.isub, 1) := by decide +kernel
theorem dX5_bits_15 : decode cX5_bits 15 = .ok (.iand, 1) := by decide +kernel
theorem dX5_bits_16 : decode cX5_bits 16 = .ok (.istore_n 2, 1) := by decide +kernel
theorem dX5_bits_17 : decode cX5_bits 17 = .ok (.goto (-13), 3) := by decide +kernel
theorem dX5_bits_20 : decode cX5_bits 20 = .ok (.iload_n 1, 1) := by decide +kernel
theorem dX5_bits_21 : decode cX5_bits 21 = .ok (.ireturn, 1) := by decide +kernel
theorem dX5_greater_0 : decode cX5_greater 0 = .ok (.iload_n 0, 1) := by decide +kernel
theorem dX5_greater_1 : decode cX5_greater 1 = .ok (.iload_n 1, 1) := by decide +kernel
theorem dX5_greater_2 : decode cX5_greater 2 = .ok (.if_icmp .le 7, 3) := by decide +kernel
theorem dX5_greater_5 : decode cX5_greater 5 = .ok (.iload_n 0, 1) := by decide +kernel
theorem dX5_greater_6 : decode cX5_greater 6 = .ok (.goto 4, 3) := by decide +kernel
theorem dX5_greater_9 : decode cX5_greater 9 = .ok (.iload_n 1, 1) := by decide +kernel
theorem dX5_greater_10 : decode cX5_greater 10 = .ok (.ireturn, 1) := by decide +kernel
theorem dX5_meets_0 : decode cX5_meets 0 = .ok (.aload_n 0, 1) := by decide +kernel
theorem dX5_meets_1 : decode cX5_meets 1 = .ok (.iload_n 1, 1) := by decide +kernel
theorem dX5_meets_2 : decode cX5_meets 2 = .ok (.putfield 68, 3) := by decide +kernel
theorem dX5_meets_5 : decode cX5_meets 5 = .ok (.aload_n 0, 1) := by decide +kernel
theorem dX5_meets_6 : decode cX5_meets 6 = .ok (.getfield 7, 3) := by decide +kernel
theorem dX5_meets_9 : decode cX5_meets 9 = .ok (.iload_n 1, 1) := by decide +kernel
theorem dX5_meets_10 : decode cX5_meets 10 = .ok (.dup2, 1) := by decide +kernel
theorem dX5_meets_11 : decode cX5_meets 11 = .ok (.iaload, 1) := by decide +kernel
theorem dX5_meets_12 : decode cX5_meets 12 = .ok (.iconst 1, 1) := by decide +kernel
theorem dX5_meets_13 : decode cX5_meets 13 = .ok (.iadd, 1) := by decide +kernel
theorem dX5_meets_14 : decode cX5_meets 14 = .ok (.iastore, 1) := by decide +kernel
theorem dX5_meets_15 : decode cX5_meets 15 = .ok (.bipush (-3), 2) := by decide +kernel
theorem dX5_meets_17 : decode cX5_meets 17 = .ok (.ireturn, 1) := by decide +kernel
theorem dX5_finding_0 : decode cX5_finding 0 = .ok (.aload_n 0, 1) := by decide +kernel
theorem dX5_finding_1 : decode cX5_finding 1 = .ok (.getfield 68, 3) := by decide +kernel
theorem dX5_finding_4 : decode cX5_finding 4 = .ok (.ireturn, 1) := by decide +kernel
set_option maxRecDepth 20000 in
theorem ggX5_findings_X5_in : GoodIn wsX5_findings wsX5_in := goodIn_r _ [5] (by decide +kernel) (by decide +kernel)
set_option maxRecDepth 20000 in
theorem gX5_findings_X5_in : GoodIn wsX5_findings (va_wsS RX5 72 yX5_in wsX5_in) := goodIn_app (goodIn_of _ (by decide +kernel)) ggX5_findings_X5_in
theorem dX5_findings_0 : decode cX5_findings 0 = .ok (.iload_n 1, 1) := by decide +kernel
theorem dX5_findings_1 : decode cX5_findings 1 = .ok (.iconst 1, 1) := by decide +kernel
theorem dX5_findings_2 : decode cX5_findings 2 = .ok (.iconst 5, 1) := by decide +kernel
theorem dX5_findings_3 : decode cX5_findings 3 = .ok (.invokestatic 72, 3) := by decide +kernel
theorem dX5_findings_6 : decode cX5_findings 6 = .ok (.ifCond .eq 12, 3) := by decide +kernel
theorem dX5_findings_9 : decode cX5_findings 9 = .ok (.aload_n 0, 1) := by decide +kernel
theorem dX5_findings_10 : decode cX5_findings 10 = .ok (.getfield 7, 3) := by decide +kernel
theorem dX5_findings_13 : decode cX5_findings 13 = .ok (.iload_n 1, 1) := by decide +kernel
theorem dX5_findings_14 : decode cX5_findings 14 = .ok (.iaload, 1) := by decide +kernel
theorem dX5_findings_15 : decode cX5_findings 15 = .ok (.goto 4, 3) := by decide +kernel
theorem dX5_findings_18 : decode cX5_findings 18 = .ok (.iconst (-1), 1) := by decide +kernel
theorem dX5_findings_19 : decode cX5_findings 19 = .ok (.ireturn, 1) := by decide +kernel
theorem dX5_tells_0 : decode cX5_tells 0 = .ok (.aload_n 0, 1) := by decide +kernel
theorem dX5_tells_1 : decode cX5_tells 1 = .ok (.iload_n 1, 1) := by decide +kernel
theorem dX5_tells_2 : decode cX5_tells 2 = .ok (.putfield 76, 3) := by decide +kernel
theorem dX5_tells_5 : decode cX5_tells 5 = .ok (.iload_n 2, 1) := by decide +kernel
theorem dX5_tells_6 : decode cX5_tells 6 = .ok (.ireturn, 1) := by decide +kernel
theorem dX5_asked_0 : decode cX5_asked 0 = .ok (.aload_n 0, 1) := by decide +kernel
theorem dX5_asked_1 : decode cX5_asked 1 = .ok (.getfield 76, 3) := by decide +kernel
theorem dX5_asked_4 : decode cX5_asked 4 = .ok (.ireturn, 1) := by decide +kernel
theorem dX5_upper_0 : decode cX5_upper 0 = .ok (.aload_n 0, 1) := by decide +kernel
theorem dX5_upper_1 : decode cX5_upper 1 = .ok (.getfield 79, 3) := by decide +kernel
theorem dX5_upper_4 : decode cX5_upper 4 = .ok (.lreturn, 1) := by decide +kernel
theorem dX5_lower_0 : decode cX5_lower 0 = .ok (.aload_n 0, 1) := by decide +kernel
theorem dX5_lower_1 : decode cX5_lower 1 = .ok (.getfield 64, 3) := by decide +kernel
theorem dX5_lower_4 : decode cX5_lower 4 = .ok (.lreturn, 1) := by decide +kernel
set_option maxRecDepth 20000 in
theorem ggX5_isRow_X5_in : GoodIn wsX5_isRow wsX5_in := goodIn_r _ [4] (by decide +kernel) (by decide +kernel)
set_option maxRecDepth 20000 in
theorem gX5_isRow_X5_in : GoodIn wsX5_isRow (va_wsS RX5 72 yX5_in wsX5_in) := goodIn_app (goodIn_of _ (by decide +kernel)) ggX5_isRow_X5_in
theorem dX5_isRow_0 : decode cX5_isRow 0 = .ok (.iload_n 0, 1) := by decide +kernel
theorem dX5_isRow_1 : decode cX5_isRow 1 = .ok (.iconst 0, 1) := by decide +kernel
theorem dX5_isRow_2 : decode cX5_isRow 2 = .ok (.iconst 5, 1) := by decide +kernel
theorem dX5_isRow_3 : decode cX5_isRow 3 = .ok (.invokestatic 72, 3) := by decide +kernel
theorem dX5_isRow_6 : decode cX5_isRow 6 = .ok (.ireturn, 1) := by decide +kernel
theorem dX5_rowAt_0 : decode cX5_rowAt 0 = .ok (.aload_n 0, 1) := by decide +kernel
theorem dX5_rowAt_1 : decode cX5_rowAt 1 = .ok (.getfield 16, 3) := by decide +kernel
theorem dX5_rowAt_4 : decode cX5_rowAt 4 = .ok (.bipush 60, 2) := by decide +kernel
theorem dX5_rowAt_6 : decode cX5_rowAt 6 = .ok (.iload_n 1, 1) := by decide +kernel
theorem dX5_rowAt_7 : decode cX5_rowAt 7 = .ok (.imul, 1) := by decide +kernel
theorem dX5_rowAt_8 : decode cX5_rowAt 8 = .ok (.iload_n 2, 1) := by decide +kernel
theorem dX5_rowAt_9 : decode cX5_rowAt 9 = .ok (.iadd, 1) := by decide +kernel
theorem dX5_rowAt_10 : decode cX5_rowAt 10 = .ok (.iaload, 1) := by decide +kernel
theorem dX5_rowAt_11 : decode cX5_rowAt 11 = .ok (.ireturn, 1) := by decide +kernel
set_option maxRecDepth 20000 in
theorem ggX5_row_X5_isRow : GoodIn wsX5_row wsX5_isRow := goodIn_r _ [6, 7, 8, 5, 9] (by decide +kernel) (by decide +kernel)
set_option maxRecDepth 20000 in
theorem gX5_row_X5_isRow : GoodIn wsX5_row (va_wsS RX5 82 yX5_isRow wsX5_isRow) := goodIn_app (goodIn_of _ (by decide +kernel)) ggX5_row_X5_isRow
set_option maxRecDepth 20000 in
theorem ggX5_row_X5_meets : GoodIn wsX5_row wsX5_meets := goodIn_r _ [13, 14, 15, 16, 17, 18, 19, 20, 21, 22, 23, 24, 25, 26, 27, 28, 29, 30, 31, 32, 33, 34, 35, 36, 37, 38, 39, 40, 41, 42, 43, 44, 45] (by decide +kernel) (by decide +kernel)
set_option maxRecDepth 20000 in
theorem gX5_row_X5_meets : GoodIn wsX5_row (wsV RX5 86 RX5 yX5_meets wsX5_meets) := goodIn_app (goodIn_of _ (by decide +kernel)) ggX5_row_X5_meets
theorem dX5_row_0 : decode cX5_row 0 = .ok (.iload_n 1, 1) := by decide +kernel
theorem dX5_row_1 : decode cX5_row 1 = .ok (.invokestatic 82, 3) := by decide +kernel
theorem dX5_row_4 : decode cX5_row 4 = .ok (.ifCond .eq 9, 3) := by decide +kernel
theorem dX5_row_7 : decode cX5_row 7 = .ok (.iload_n 2, 1) := by decide +kernel
theorem dX5_row_8 : decode cX5_row 8 = .ok (.bipush 60, 2) := by decide +kernel
theorem dX5_row_10 : decode cX5_row 10 = .ok (.if_icmp .le 5, 3) := by decide +kernel
theorem dX5_row_13 : decode cX5_row 13 = .ok (.iconst (-1), 1) := by decide +kernel
theorem dX5_row_14 : decode cX5_row 14 = .ok (.ireturn, 1) := by decide +kernel
theorem dX5_row_15 : decode cX5_row 15 = .ok (.iload_n 2, 1) := by decide +kernel
theorem dX5_row_16 : decode cX5_row 16 = .ok (.ifCond .ge 9, 3) := by decide +kernel
theorem dX5_row_19 : decode cX5_row 19 = .ok (.aload_n 0, 1) := by decide +kernel
theorem dX5_row_20 : decode cX5_row 20 = .ok (.iconst 5, 1) := by decide +kernel
theorem dX5_row_21 : decode cX5_row 21 = .ok (.invokevirtual 86, 3) := by decide +kernel
theorem dX5_row_24 : decode cX5_row 24 = .ok (.ireturn, 1) := by decide +kernel
theorem dX5_row_25 : decode cX5_row 25 = .ok (.aload_n 0, 1) := by decide +kernel
theorem dX5_row_26 : decode cX5_row 26 = .ok (.getfield 13, 3) := by decide +kernel
theorem dX5_row_29 : decode cX5_row 29 = .ok (.iload_n 1, 1) := by decide +kernel
theorem dX5_row_30 : decode cX5_row 30 = .ok (.iload_n 2, 1) := by decide +kernel
theorem dX5_row_31 : decode cX5_row 31 = .ok (.iastore, 1) := by decide +kernel
theorem dX5_row_32 : decode cX5_row 32 = .ok (.iconst 0, 1) := by decide +kernel
theorem dX5_row_33 : decode cX5_row 33 = .ok (.istore_n 3, 1) := by decide +kernel
theorem dX5_row_34 : decode cX5_row 34 = .ok (.iload_n 3, 1) := by decide +kernel
theorem dX5_row_35 : decode cX5_row 35 = .ok (.bipush 60, 2) := by decide +kernel
theorem dX5_row_37 : decode cX5_row 37 = .ok (.if_icmp .ge 21, 3) := by decide +kernel
theorem dX5_row_40 : decode cX5_row 40 = .ok (.aload_n 0, 1) := by decide +kernel
theorem dX5_row_41 : decode cX5_row 41 = .ok (.getfield 16, 3) := by decide +kernel
theorem dX5_row_44 : decode cX5_row 44 = .ok (.bipush 60, 2) := by decide +kernel
theorem dX5_row_46 : decode cX5_row 46 = .ok (.iload_n 1, 1) := by decide +kernel
theorem dX5_row_47 : decode cX5_row 47 = .ok (.imul, 1) := by decide +kernel
theorem dX5_row_48 : decode cX5_row 48 = .ok (.iload_n 3, 1) := by decide +kernel
theorem dX5_row_49 : decode cX5_row 49 = .ok (.iadd, 1) := by decide +kernel
theorem dX5_row_50 : decode cX5_row 50 = .ok (.iconst 0, 1) := by decide +kernel
theorem dX5_row_51 : decode cX5_row 51 = .ok (.iastore, 1) := by decide +kernel
theorem dX5_row_52 : decode cX5_row 52 = .ok (.iinc 3 1, 3) := by decide +kernel
theorem dX5_row_55 : decode cX5_row 55 = .ok (.goto (-21), 3) := by decide +kernel
theorem dX5_row_58 : decode cX5_row 58 = .ok (.iload_n 2, 1) := by decide +kernel
theorem dX5_row_59 : decode cX5_row 59 = .ok (.ireturn, 1) := by decide +kernel
set_option maxRecDepth 20000 in
theorem ggX5_lay_X5_isRow : GoodIn wsX5_lay wsX5_isRow := goodIn_r _ [6, 7, 8, 5, 9] (by decide +kernel) (by decide +kernel)
set_option maxRecDepth 20000 in
theorem gX5_lay_X5_isRow : GoodIn wsX5_lay (va_wsS RX5 82 yX5_isRow wsX5_isRow) := goodIn_app (goodIn_of _ (by decide +kernel)) ggX5_lay_X5_isRow
set_option maxRecDepth 20000 in
theorem ggX5_lay_X5_meets : GoodIn wsX5_lay wsX5_meets := goodIn_r _ [13, 14, 15, 25, 26, 27, 28, 29, 30, 31, 32, 33, 34, 35, 36, 37, 38, 39, 40, 41, 42, 43, 44, 45, 46, 47, 48, 49, 50, 51, 52, 53, 54] (by decide +kernel) (by decide +kernel)
set_option maxRecDepth 20000 in
theorem gX5_lay_X5_meets : GoodIn wsX5_lay (wsV RX5 86 RX5 yX5_meets wsX5_meets) := goodIn_app (goodIn_of _ (by decide +kernel)) ggX5_lay_X5_meets
set_option maxRecDepth 20000 in
theorem ggX5_lay_X5_in : GoodIn wsX5_lay wsX5_in := goodIn_r _ [9] (by decide +kernel) (by decide +kernel)
set_option maxRecDepth 20000 in
theorem gX5_lay_X5_in : GoodIn wsX5_lay (va_wsS RX5 72 yX5_in wsX5_in) := goodIn_app (goodIn_of _ (by decide +kernel)) ggX5_lay_X5_in
set_option maxRecDepth 20000 in
theorem ggX5_lay_X5_rowAt : GoodIn wsX5_lay wsX5_rowAt := goodIn_r _ [19, 2, 25, 26, 27, 28, 29, 30, 31, 32, 33, 34, 35, 36, 37, 38, 39, 40, 41, 42, 43, 44, 45, 46, 47, 48, 49, 50, 51, 52, 53, 54] (by decide +kernel) (by decide +kernel)
set_option maxRecDepth 20000 in
theorem gX5_lay_X5_rowAt : GoodIn wsX5_lay (wsV RX5 90 RX5 yX5_rowAt wsX5_rowAt) := goodIn_app (goodIn_of _ (by decide +kernel)) ggX5_lay_X5_rowAt
set_option maxRecDepth 20000 in
theorem ggX5_lay_X5_tells : GoodIn wsX5_lay wsX5_tells := goodIn_r _ [23, 24, 25, 26, 27, 28, 29, 30, 31, 32, 33, 34, 35, 36, 37, 38, 39, 40, 41, 42, 43, 44, 45, 46, 47, 48, 49, 50, 51, 52, 53, 54] (by decide +kernel) (by decide +kernel)
set_option maxRecDepth 20000 in
theorem gX5_lay_X5_tells : GoodIn wsX5_lay (wsV RX5 94 RX5 yX5_tells wsX5_tells) := goodIn_app (goodIn_of _ (by decide +kernel)) ggX5_lay_X5_tells
theorem dX5_lay_0 : decode cX5_lay 0 = .ok (.iload_n 1, 1) := by decide +kernel
theorem dX5_lay_1 : decode cX5_lay 1 = .ok (.invokestatic 82, 3) := by decide +kernel
theorem dX5_lay_4 : decode cX5_lay 4 = .ok (.ifCond .ne 5, 3) := by decide +kernel
theorem dX5_lay_7 : decode cX5_lay 7 = .ok (.iconst (-1), 1) := by decide +kernel
theorem dX5_lay_8 : decode cX5_lay 8 = .ok (.ireturn, 1) := by decide +kernel
theorem dX5_lay_9 : decode cX5_lay 9 = .ok (.aload_n 0, 1) := by decide +kernel
theorem dX5_lay_10 : decode cX5_lay 10 = .ok (.getfield 13, 3) := by decide +kernel
theorem dX5_lay_13 : decode cX5_lay 13 = .ok (.iload_n 1, 1) := by decide +kernel
theorem dX5_lay_14 : decode cX5_lay 14 = .ok (.iaload, 1) := by decide +kernel
theorem dX5_lay_15 : decode cX5_lay 15 = .ok (.ifCond .ge 9, 3) := by decide +kernel
theorem dX5_lay_18 : decode cX5_lay 18 = .ok (.aload_n 0, 1) := by decide +kernel
theorem dX5_lay_19 : decode cX5_lay 19 = .ok (.iconst 1, 1) := by decide +kernel
theorem dX5_lay_20 : decode cX5_lay 20 = .ok (.invokevirtual 86, 3) := by decide +kernel
theorem dX5_lay_23 : decode cX5_lay 23 = .ok (.ireturn, 1) := by decide +kernel
theorem dX5_lay_24 : decode cX5_lay 24 = .ok (.iload_n 2, 1) := by decide +kernel
theorem dX5_lay_25 : decode cX5_lay 25 = .ok (.iconst 0, 1) := by decide +kernel
theorem dX5_lay_26 : decode cX5_lay 26 = .ok (.aload_n 0, 1) := by decide +kernel
theorem dX5_lay_27 : decode cX5_lay 27 = .ok (.getfield 13, 3) := by decide +kernel
theorem dX5_lay_30 : decode cX5_lay 30 = .ok (.iload_n 1, 1) := by decide +kernel
theorem dX5_lay_31 : decode cX5_lay 31 = .ok (.iaload, 1) := by decide +kernel
theorem dX5_lay_32 : decode cX5_lay 32 = .ok (.iconst 1, 1) := by decide +kernel
theorem dX5_lay_33 : decode cX5_lay 33 = .ok (.isub, 1) := by decide +kernel
theorem dX5_lay_34 : decode cX5_lay 34 = .ok (.invokestatic 72, 3) := by decide +kernel
theorem dX5_lay_37 : decode cX5_lay 37 = .ok (.ifCond .ne 9, 3) := by decide +kernel
theorem dX5_lay_40 : decode cX5_lay 40 = .ok (.aload_n 0, 1) := by decide +kernel
theorem dX5_lay_41 : decode cX5_lay 41 = .ok (.iconst 2, 1) := by decide +kernel
theorem dX5_lay_42 : decode cX5_lay 42 = .ok (.invokevirtual 86, 3) := by decide +kernel
theorem dX5_lay_45 : decode cX5_lay 45 = .ok (.ireturn, 1) := by decide +kernel
theorem dX5_lay_46 : decode cX5_lay 46 = .ok (.aload_n 0, 1) := by decide +kernel
theorem dX5_lay_47 : decode cX5_lay 47 = .ok (.iload_n 1, 1) := by decide +kernel
theorem dX5_lay_48 : decode cX5_lay 48 = .ok (.iload_n 2, 1) := by decide +kernel
theorem dX5_lay_49 : decode cX5_lay 49 = .ok (.invokevirtual 90, 3) := by decide +kernel
theorem dX5_lay_52 : decode cX5_lay 52 = .ok (.istore 4, 2) := by decide +kernel
theorem dX5_lay_54 : decode cX5_lay 54 = .ok (.aload_n 0, 1) := by decide +kernel
theorem dX5_lay_55 : decode cX5_lay 55 = .ok (.getfield 16, 3) := by decide +kernel
theorem dX5_lay_58 : decode cX5_lay 58 = .ok (.bipush 60, 2) := by decide +kernel
theorem dX5_lay_60 : decode cX5_lay 60 = .ok (.iload_n 1, 1) := by decide +kernel
theorem dX5_lay_61 : decode cX5_lay 61 = .ok (.imul, 1) := by decide +kernel
theorem dX5_lay_62 : decode cX5_lay 62 = .ok (.iload_n 2, 1) := by decide +kernel
theorem dX5_lay_63 : decode cX5_lay 63 = .ok (.iadd, 1) := by decide +kernel
theorem dX5_lay_64 : decode cX5_lay 64 = .ok (.iload_n 3, 1) := by decide +kernel
theorem dX5_lay_65 : decode cX5_lay 65 = .ok (.iastore, 1) := by decide +kernel
theorem dX5_lay_66 : decode cX5_lay 66 = .ok (.aload_n 0, 1) := by decide +kernel
theorem dX5_lay_67 : decode cX5_lay 67 = .ok (.iload 4, 2) := by decide +kernel
theorem dX5_lay_69 : decode cX5_lay 69 = .ok (.iconst 1, 1) := by decide +kernel
theorem dX5_lay_70 : decode cX5_lay 70 = .ok (.invokevirtual 94, 3) := by decide +kernel
theorem dX5_lay_73 : decode cX5_lay 73 = .ok (.ireturn, 1) := by decide +kernel
set_option maxRecDepth 20000 in
theorem ggX5_at_X5_isRow : GoodIn wsX5_at wsX5_isRow := goodIn_r _ [5, 6, 7, 4, 8] (by decide +kernel) (by decide +kernel)
set_option maxRecDepth 20000 in
theorem gX5_at_X5_isRow : GoodIn wsX5_at (va_wsS RX5 82 yX5_isRow wsX5_isRow) := goodIn_app (goodIn_of _ (by decide +kernel)) ggX5_at_X5_isRow
set_option maxRecDepth 20000 in
theorem ggX5_at_X5_meets : GoodIn wsX5_at wsX5_meets := goodIn_r _ [12, 13, 14, 25, 26, 27, 28, 29, 30, 31, 32, 33, 34, 35, 36, 37, 38, 39, 40, 41, 42, 43, 44, 45, 46, 47, 48, 49, 50, 51, 52, 53, 54] (by decide +kernel) (by decide +kernel)
set_option maxRecDepth 20000 in
theorem gX5_at_X5_meets : GoodIn wsX5_at (wsV RX5 86 RX5 yX5_meets wsX5_meets) := goodIn_app (goodIn_of _ (by decide +kernel)) ggX5_at_X5_meets
set_option maxRecDepth 20000 in
theorem ggX5_at_X5_in : GoodIn wsX5_at wsX5_in := goodIn_r _ [8] (by decide +kernel) (by decide +kernel)
set_option maxRecDepth 20000 in
theorem gX5_at_X5_in : GoodIn wsX5_at (va_wsS RX5 72 yX5_in wsX5_in) := goodIn_app (goodIn_of _ (by decide +kernel)) ggX5_at_X5_in
set_option maxRecDepth 20000 in
theorem ggX5_at_X5_rowAt : GoodIn wsX5_at wsX5_rowAt := goodIn_r _ [18, 19, 25, 26, 27, 28, 29, 30, 31, 32, 33, 34, 35, 36, 37, 38, 39, 40, 41, 42, 43, 44, 45, 46, 47, 48, 49, 50, 51, 52, 53, 54] (by decide +kernel) (by decide +kernel)
set_option maxRecDepth 20000 in
theorem gX5_at_X5_rowAt : GoodIn wsX5_at (wsV RX5 90 RX5 yX5_rowAt wsX5_rowAt) := goodIn_app (goodIn_of _ (by decide +kernel)) ggX5_at_X5_rowAt
set_option maxRecDepth 20000 in
theorem ggX5_at_X5_tells : GoodIn wsX5_at wsX5_tells := goodIn_r _ [23, 24, 25, 26, 27, 28, 29, 30, 31, 32, 33, 34, 35, 36, 37, 38, 39, 40, 41, 42, 43, 44, 45, 46, 47, 48, 49, 50, 51, 52, 53, 54] (by decide +kernel) (by decide +kernel)
set_option maxRecDepth 20000 in
theorem gX5_at_X5_tells : GoodIn wsX5_at (wsV RX5 94 RX5 yX5_tells wsX5_tells) := goodIn_app (goodIn_of _ (by decide +kernel)) ggX5_at_X5_tells
theorem dX5_at_0 : decode cX5_at 0 = .ok (.iload_n 1, 1) := by decide +kernel
theorem dX5_at_1 : decode cX5_at 1 = .ok (.invokestatic 82, 3) := by decide +kernel
theorem dX5_at_4 : decode cX5_at 4 = .ok (.ifCond .ne 5, 3) := by decide +kernel
theorem dX5_at_7 : decode cX5_at 7 = .ok (.iconst (-1), 1) := by decide +kernel
theorem dX5_at_8 : decode cX5_at 8 = .ok (.ireturn, 1) := by decide +kernel
theorem dX5_at_9 : decode cX5_at 9 = .ok (.aload_n 0, 1) := by decide +kernel
theorem dX5_at_10 : decode cX5_at 10 = .ok (.getfield 13, 3) := by decide +kernel
theorem dX5_at_13 : decode cX5_at 13 = .ok (.iload_n 1, 1) := by decide +kernel
theorem dX5_at_14 : decode cX5_at 14 = .ok (.iaload, 1) := by decide +kernel
theorem dX5_at_15 : decode cX5_at 15 = .ok (.ifCond .ge 9, 3) := by decide +kernel
theorem dX5_at_18 : decode cX5_at 18 = .ok (.aload_n 0, 1) := by decide +kernel
theorem dX5_at_19 : decode cX5_at 19 = .ok (.iconst 1, 1) := by decide +kernel
theorem dX5_at_20 : decode cX5_at 20 = .ok (.invokevirtual 86, 3) := by decide +kernel
theorem dX5_at_23 : decode cX5_at 23 = .ok (.ireturn, 1) := by decide +kernel
theorem dX5_at_24 : decode cX5_at 24 = .ok (.iload_n 2, 1) := by decide +kernel
theorem dX5_at_25 : decode cX5_at 25 = .ok (.iconst 0, 1) := by decide +kernel
theorem dX5_at_26 : decode cX5_at 26 = .ok (.aload_n 0, 1) := by decide +kernel
theorem dX5_at_27 : decode cX5_at 27 = .ok (.getfield 13, 3) := by decide +kernel
theorem dX5_at_30 : decode cX5_at 30 = .ok (.iload_n 1, 1) := by decide +kernel
theorem dX5_at_31 : decode cX5_at 31 = .ok (.iaload, 1) := by decide +kernel
theorem dX5_at_32 : decode cX5_at 32 = .ok (.iconst 1, 1) := by decide +kernel
theorem dX5_at_33 : decode cX5_at 33 = .ok (.isub, 1) := by decide +kernel
theorem dX5_at_34 : decode cX5_at 34 = .ok (.invokestatic 72, 3) := by decide +kernel
theorem dX5_at_37 : decode cX5_at 37 = .ok (.ifCond .eq 17, 3) := by decide +kernel
theorem dX5_at_40 : decode cX5_at 40 = .ok (.aload_n 0, 1) := by decide +kernel
theorem dX5_at_41 : decode cX5_at 41 = .ok (.aload_n 0, 1) := by decide +kernel
theorem dX5_at_42 : decode cX5_at 42 = .ok (.iload_n 1, 1) := by decide +kernel
theorem dX5_at_43 : decode cX5_at 43 = .ok (.iload_n 2, 1) := by decide +kernel
theorem dX5_at_44 : decode cX5_at 44 = .ok (.invokevirtual 90, 3) := by decide +kernel
theorem dX5_at_47 : decode cX5_at 47 = .ok (.iconst 1, 1) := by decide +kernel
theorem dX5_at_48 : decode cX5_at 48 = .ok (.invokevirtual 94, 3) := by decide +kernel
theorem dX5_at_51 : decode cX5_at 51 = .ok (.goto 8, 3) := by decide +kernel
theorem dX5_at_54 : decode cX5_at 54 = .ok (.aload_n 0, 1) := by decide +kernel
theorem dX5_at_55 : decode cX5_at 55 = .ok (.iconst 2, 1) := by decide +kernel
theorem dX5_at_56 : decode cX5_at 56 = .ok (.invokevirtual 86, 3) := by decide +kernel
theorem dX5_at_59 : decode cX5_at 59 = .ok (.ireturn, 1) := by decide +kernel
set_option maxRecDepth 20000 in
theorem ggX5_tear_X5_isRow : GoodIn wsX5_tear wsX5_isRow := goodIn_r _ [5, 6, 7, 4, 8] (by decide +kernel) (by decide +kernel)
set_option maxRecDepth 20000 in
theorem gX5_tear_X5_isRow : GoodIn wsX5_tear (va_wsS RX5 82 yX5_isRow wsX5_isRow) := goodIn_app (goodIn_of _ (by decide +kernel)) ggX5_tear_X5_isRow
set_option maxRecDepth 20000 in
theorem ggX5_tear_X5_meets : GoodIn wsX5_tear wsX5_meets := goodIn_r _ [12, 13, 14, 15, 16, 17, 18, 19, 20, 21, 22, 23, 24, 25, 26, 27, 28, 29, 30, 31, 32, 33, 34, 35, 36, 37, 38, 39, 40, 41, 42, 43, 44] (by decide +kernel) (by decide +kernel)
set_option maxRecDepth 20000 in
theorem gX5_tear_X5_meets : GoodIn wsX5_tear (wsV RX5 86 RX5 yX5_meets wsX5_meets) := goodIn_app (goodIn_of _ (by decide +kernel)) ggX5_tear_X5_meets
theorem dX5_tear_0 : decode cX5_tear 0 = .ok (.iload_n 1, 1) := by decide +kernel
theorem dX5_tear_1 : decode cX5_tear 1 = .ok (.invokestatic 82, 3) := by decide +kernel
theorem dX5_tear_4 : decode cX5_tear 4 = .ok (.ifCond .ne 5, 3) := by decide +kernel
theorem dX5_tear_7 : decode cX5_tear 7 = .ok (.iconst (-1), 1) := by decide +kernel
theorem dX5_tear_8 : decode cX5_tear 8 = .ok (.ireturn, 1) := by decide +kernel
theorem dX5_tear_9 : decode cX5_tear 9 = .ok (.aload_n 0, 1) := by decide +kernel
theorem dX5_tear_10 : decode cX5_tear 10 = .ok (.getfield 13, 3) := by decide +kernel
theorem dX5_tear_13 : decode cX5_tear 13 = .ok (.iload_n 1, 1) := by decide +kernel
theorem dX5_tear_14 : decode cX5_tear 14 = .ok (.iaload, 1) := by decide +kernel
theorem dX5_tear_15 : decode cX5_tear 15 = .ok (.ifCond .ge 9, 3) := by decide +kernel
theorem dX5_tear_18 : decode cX5_tear 18 = .ok (.aload_n 0, 1) := by decide +kernel
theorem dX5_tear_19 : decode cX5_tear 19 = .ok (.iconst 1, 1) := by decide +kernel
theorem dX5_tear_20 : decode cX5_tear 20 = .ok (.invokevirtual 86, 3) := by decide +kernel
theorem dX5_tear_23 : decode cX5_tear 23 = .ok (.ireturn, 1) := by decide +kernel
theorem dX5_tear_24 : decode cX5_tear 24 = .ok (.aload_n 0, 1) := by decide +kernel
theorem dX5_tear_25 : decode cX5_tear 25 = .ok (.getfield 13, 3) := by decide +kernel
theorem dX5_tear_28 : decode cX5_tear 28 = .ok (.iload_n 1, 1) := by decide +kernel
theorem dX5_tear_29 : decode cX5_tear 29 = .ok (.iconst (-1), 1) := by decide +kernel
theorem dX5_tear_30 : decode cX5_tear 30 = .ok (.iastore, 1) := by decide +kernel
theorem dX5_tear_31 : decode cX5_tear 31 = .ok (.iconst 1, 1) := by decide +kernel
theorem dX5_tear_32 : decode cX5_tear 32 = .ok (.ireturn, 1) := by decide +kernel
set_option maxRecDepth 20000 in
theorem ggX5_copy_X5_isRow : GoodIn wsX5_copy wsX5_isRow := goodIn_r _ [7, 8, 9, 6, 10] (by decide +kernel) (by decide +kernel)
set_option maxRecDepth 20000 in
theorem gX5_copy_X5_isRow : GoodIn wsX5_copy (va_wsS RX5 82 yX5_isRow wsX5_isRow) := goodIn_app (goodIn_of _ (by decide +kernel)) ggX5_copy_X5_isRow
set_option maxRecDepth 20000 in
theorem ggX5_copy_X5_meets : GoodIn wsX5_copy wsX5_meets := goodIn_r _ [14, 15, 16, 21, 22, 23, 24, 25, 26, 27, 28, 29, 30, 31, 32, 33, 34, 35, 36, 37, 38, 39, 40, 41, 42, 43, 44, 45, 46, 47, 48, 49, 50] (by decide +kernel) (by decide +kernel)
set_option maxRecDepth 20000 in
theorem gX5_copy_X5_meets : GoodIn wsX5_copy (wsV RX5 86 RX5 yX5_meets wsX5_meets) := goodIn_app (goodIn_of _ (by decide +kernel)) ggX5_copy_X5_meets
set_option maxRecDepth 20000 in
theorem ggX5_copy_X5_rowAt : GoodIn wsX5_copy wsX5_rowAt := goodIn_r _ [20, 3, 21, 22, 23, 24, 25, 26, 27, 28, 29, 30, 31, 32, 33, 34, 35, 36, 37, 38, 39, 40, 41, 42, 43, 44, 45, 46, 47, 48, 49, 50] (by decide +kernel) (by decide +kernel)
set_option maxRecDepth 20000 in
theorem gX5_copy_X5_rowAt : GoodIn wsX5_copy (wsV RX5 90 RX5 yX5_rowAt wsX5_rowAt) := goodIn_app (goodIn_of _ (by decide +kernel)) ggX5_copy_X5_rowAt
theorem dX5_copy_0 : decode cX5_copy 0 = .ok (.iload_n 1, 1) := by decide +kernel
theorem dX5_copy_1 : decode cX5_copy 1 = .ok (.invokestatic 82, 3) := by decide +kernel
theorem dX5_copy_4 : decode cX5_copy 4 = .ok (.ifCond .eq 10, 3) := by decide +kernel
theorem dX5_copy_7 : decode cX5_copy 7 = .ok (.iload_n 3, 1) := by decide +kernel
theorem dX5_copy_8 : decode cX5_copy 8 = .ok (.invokestatic 82, 3) := by decide +kernel
theorem dX5_copy_11 : decode cX5_copy 11 = .ok (.ifCond .ne 5, 3) := by decide +kernel
theorem dX5_copy_14 : decode cX5_copy 14 = .ok (.iconst (-1), 1) := by decide +kernel
theorem dX5_copy_15 : decode cX5_copy 15 = .ok (.ireturn, 1) := by decide +kernel
theorem dX5_copy_16 : decode cX5_copy 16 = .ok (.iload 5, 2) := by decide +kernel
theorem dX5_copy_18 : decode cX5_copy 18 = .ok (.ifCond .ge 9, 3) := by decide +kernel
theorem dX5_copy_21 : decode cX5_copy 21 = .ok (.aload_n 0, 1) := by decide +kernel
theorem dX5_copy_22 : decode cX5_copy 22 = .ok (.iconst 5, 1) := by decide +kernel
theorem dX5_copy_23 : decode cX5_copy 23 = .ok (.invokevirtual 86, 3) := by decide +kernel
theorem dX5_copy_26 : decode cX5_copy 26 = .ok (.ireturn, 1) := by decide +kernel
theorem dX5_copy_27 : decode cX5_copy 27 = .ok (.aload_n 0, 1) := by decide +kernel
theorem dX5_copy_28 : decode cX5_copy 28 = .ok (.getfield 13, 3) := by decide +kernel
theorem dX5_copy_31 : decode cX5_copy 31 = .ok (.iload_n 1, 1) := by decide +kernel
theorem dX5_copy_32 : decode cX5_copy 32 = .ok (.iaload, 1) := by decide +kernel
theorem dX5_copy_33 : decode cX5_copy 33 = .ok (.ifCond .lt 12, 3) := by decide +kernel
theorem dX5_copy_36 : decode cX5_copy 36 = .ok (.aload_n 0, 1) := by decide +kernel
theorem dX5_copy_37 : decode cX5_copy 37 = .ok (.getfield 13, 3) := by decide +kernel
theorem dX5_copy_40 : decode cX5_copy 40 = .ok (.iload_n 3, 1) := by decide +kernel
theorem dX5_copy_41 : decode cX5_copy 41 = .ok (.iaload, 1) := by decide +kernel
theorem dX5_copy_42 : decode cX5_copy 42 = .ok (.ifCond .ge 9, 3) := by decide +kernel
theorem dX5_copy_45 : decode cX5_copy 45 = .ok (.aload_n 0, 1) := by decide +kernel
theorem dX5_copy_46 : decode cX5_copy 46 = .ok (.iconst 1, 1) := by decide +kernel
theorem dX5_copy_47 : decode cX5_copy 47 = .ok (.invokevirtual 86, 3) := by decide +kernel
theorem dX5_copy_50 : decode cX5_copy 50 = .ok (.ireturn, 1) := by decide +kernel
theorem dX5_copy_51 : decode cX5_copy 51 = .ok (.iload_n 2, 1) := by decide +kernel
theorem dX5_copy_52 : decode cX5_copy 52 = .ok (.ifCond .lt 43, 3) := by decide +kernel
theorem dX5_copy_55 : decode cX5_copy 55 = .ok (.iload 4, 2) := by decide +kernel
theorem dX5_copy_57 : decode cX5_copy 57 = .ok (.ifCond .lt 38, 3) := by decide +kernel
theorem dX5_copy_60 : decode cX5_copy 60 = .ok (.iload_n 2, 1) := by decide +kernel
theorem dX5_copy_61 : decode cX5_copy 61 = .ok (.i2l, 1) := by decide +kernel
theorem dX5_copy_62 : decode cX5_copy 62 = .ok (.iload 5, 2) := by decide +kernel
theorem dX5_copy_64 : decode cX5_copy 64 = .ok (.i2l, 1) := by decide +kernel
theorem dX5_copy_65 : decode cX5_copy 65 = .ok (.ladd, 1) := by decide +kernel
theorem dX5_copy_66 : decode cX5_copy 66 = .ok (.aload_n 0, 1) := by decide +kernel
theorem dX5_copy_67 : decode cX5_copy 67 = .ok (.getfield 13, 3) := by decide +kernel
theorem dX5_copy_70 : decode cX5_copy 70 = .ok (.iload_n 1, 1) := by decide +kernel
theorem dX5_copy_71 : decode cX5_copy 71 = .ok (.iaload, 1) := by decide +kernel
theorem dX5_copy_72 : decode cX5_copy 72 = .ok (.i2l, 1) := by decide +kernel
theorem dX5_copy_73 : decode cX5_copy 73 = .ok (.lcmp, 1) := by decide +kernel
theorem dX5_copy_74 : decode cX5_copy 74 = .ok (.ifCond .gt 21, 3) := by decide +kernel
theorem dX5_copy_77 : decode cX5_copy 77 = .ok (.iload 4, 2) := by decide +kernel
theorem dX5_copy_79 : decode cX5_copy 79 = .ok (.i2l, 1) := by decide +kernel
theorem dX5_copy_80 : decode cX5_copy 80 = .ok (.iload 5, 2) := by decide +kernel
theorem dX5_copy_82 : decode cX5_copy 82 = .ok (.i2l, 1) := by decide +kernel
theorem dX5_copy_83 : decode cX5_copy 83 = .ok (.ladd, 1) := by decide +kernel
theorem dX5_copy_84 : decode cX5_copy 84 = .ok (.aload_n 0, 1) := by decide +kernel
theorem dX5_copy_85 : decode cX5_copy 85 = .ok (.getfield 13, 3) := by decide +kernel
theorem dX5_copy_88 : decode cX5_copy 88 = .ok (.iload_n 3, 1) := by decide +kernel
theorem dX5_copy_89 : decode cX5_copy 89 = .ok (.iaload, 1) := by decide +kernel
theorem dX5_copy_90 : decode cX5_copy 90 = .ok (.i2l, 1) := by decide +kernel
theorem dX5_copy_91 : decode cX5_copy 91 = .ok (.lcmp, 1) := by decide +kernel
theorem dX5_copy_92 : decode cX5_copy 92 = .ok (.ifCond .le 9, 3) := by decide +kernel
theorem dX5_copy_95 : decode cX5_copy 95 = .ok (.aload_n 0, 1) := by decide +kernel
theorem dX5_copy_96 : decode cX5_copy 96 = .ok (.iconst 2, 1) := by decide +kernel
theorem dX5_copy_97 : decode cX5_copy 97 = .ok (.invokevirtual 86, 3) := by decide +kernel
theorem dX5_copy_100 : decode cX5_copy 100 = .ok (.ireturn, 1) := by decide +kernel
theorem dX5_copy_101 : decode cX5_copy 101 = .ok (.iconst 0, 1) := by decide +kernel
theorem dX5_copy_102 : decode cX5_copy 102 = .ok (.istore 6, 2) := by decide +kernel
theorem dX5_copy_104 : decode cX5_copy 104 = .ok (.iload 6, 2) := by decide +kernel
theorem dX5_copy_106 : decode cX5_copy 106 = .ok (.iload 5, 2) := by decide +kernel
theorem dX5_copy_108 : decode cX5_copy 108 = .ok (.if_icmp .ge 25, 3) := by decide +kernel
theorem dX5_copy_111 : decode cX5_copy 111 = .ok (.aload_n 0, 1) := by decide +kernel
theorem dX5_copy_112 : decode cX5_copy 112 = .ok (.getfield 19, 3) := by decide +kernel
theorem dX5_copy_115 : decode cX5_copy 115 = .ok (.iload 6, 2) := by decide +kernel
theorem dX5_copy_117 : decode cX5_copy 117 = .ok (.aload_n 0, 1) := by decide +kernel
theorem dX5_copy_118 : decode cX5_copy 118 = .ok (.iload_n 1, 1) := by decide +kernel
theorem dX5_copy_119 : decode cX5_copy 119 = .ok (.iload_n 2, 1) := by decide +kernel
theorem dX5_copy_120 : decode cX5_copy 120 = .ok (.iload 6, 2) := by decide +kernel
theorem dX5_copy_122 : decode cX5_copy 122 = .ok (.iadd, 1) := by decide +kernel
theorem dX5_copy_123 : decode cX5_copy 123 = .ok (.invokevirtual 90, 3) := by decide +kernel
theorem dX5_copy_126 : decode cX5_copy 126 = .ok (.iastore, 1) := by decide +kernel
theorem dX5_copy_127 : decode cX5_copy 127 = .ok (.iinc 6 1, 3) := by decide +kernel
theorem dX5_copy_130 : decode cX5_copy 130 = .ok (.goto (-26), 3) := by decide +kernel
theorem dX5_copy_133 : decode cX5_copy 133 = .ok (.iconst 0, 1) := by decide +kernel
theorem dX5_copy_134 : decode cX5_copy 134 = .ok (.istore 6, 2) := by decide +kernel
theorem dX5_copy_136 : decode cX5_copy 136 = .ok (.iload 6, 2) := by decide +kernel
theorem dX5_copy_138 : decode cX5_copy 138 = .ok (.iload 5, 2) := by decide +kernel
theorem dX5_copy_140 : decode cX5_copy 140 = .ok (.if_icmp .ge 31, 3) := by decide +kernel
theorem dX5_copy_143 : decode cX5_copy 143 = .ok (.aload_n 0, 1) := by decide +kernel
theorem dX5_copy_144 : decode cX5_copy 144 = .ok (.getfield 16, 3) := by decide +kernel
theorem dX5_copy_147 : decode cX5_copy 147 = .ok (.bipush 60, 2) := by decide +kernel
theorem dX5_copy_149 : decode cX5_copy 149 = .ok (.iload_n 3, 1) := by decide +kernel
theorem dX5_copy_150 : decode cX5_copy 150 = .ok (.imul, 1) := by decide +kernel
theorem dX5_copy_151 : decode cX5_copy 151 = .ok (.iload 4, 2) := by decide +kernel
theorem dX5_copy_153 : decode cX5_copy 153 = .ok (.iadd, 1) := by decide +kernel
theorem dX5_copy_154 : decode cX5_copy 154 = .ok (.iload 6, 2) := by decide +kernel
theorem dX5_copy_156 : decode cX5_copy 156 = .ok (.iadd, 1) := by decide +kernel
theorem dX5_copy_157 : decode cX5_copy 157 = .ok (.aload_n 0, 1) := by decide +kernel
theorem dX5_copy_158 : decode cX5_copy 158 = .ok (.getfield 19, 3) := by decide +kernel
theorem dX5_copy_161 : decode cX5_copy 161 = .ok (.iload 6, 2) := by decide +kernel
theorem dX5_copy_163 : decode cX5_copy 163 = .ok (.iaload, 1) := by decide +kernel
theorem dX5_copy_164 : decode cX5_copy 164 = .ok (.iastore, 1) := by decide +kernel
theorem dX5_copy_165 : decode cX5_copy 165 = .ok (.iinc 6 1, 3) := by decide +kernel
theorem dX5_copy_168 : decode cX5_copy 168 = .ok (.goto (-32), 3) := by decide +kernel
theorem dX5_copy_171 : decode cX5_copy 171 = .ok (.iconst 1, 1) := by decide +kernel
theorem dX5_copy_172 : decode cX5_copy 172 = .ok (.ireturn, 1) := by decide +kernel
set_option maxRecDepth 20000 in
theorem ggX5_mean_X5_isRow : GoodIn wsX5_mean wsX5_isRow := goodIn_r _ [5, 6, 7, 4, 8] (by decide +kernel) (by decide +kernel)
set_option maxRecDepth 20000 in
theorem gX5_mean_X5_isRow : GoodIn wsX5_mean (va_wsS RX5 82 yX5_isRow wsX5_isRow) := goodIn_app (goodIn_of _ (by decide +kernel)) ggX5_mean_X5_isRow
set_option maxRecDepth 20000 in
theorem ggX5_mean_X5_meets : GoodIn wsX5_mean wsX5_meets := goodIn_r _ [12, 13, 14, 25, 26, 27, 28, 29, 30, 31, 32, 33, 34, 35, 36, 37, 38, 39, 40, 41, 42, 43, 44, 45, 46, 47, 48, 49, 50, 51, 52, 53, 54] (by decide +kernel) (by decide +kernel)
set_option maxRecDepth 20000 in
theorem gX5_mean_X5_meets : GoodIn wsX5_mean (wsV RX5 86 RX5 yX5_meets wsX5_meets) := goodIn_app (goodIn_of _ (by decide +kernel)) ggX5_mean_X5_meets
set_option maxRecDepth 20000 in
theorem ggX5_mean_X5_rowAt : GoodIn wsX5_mean wsX5_rowAt := goodIn_r _ [18, 19, 25, 26, 27, 28, 29, 30, 31, 32, 33, 34, 35, 36, 37, 38, 39, 40, 41, 42, 43, 44, 45, 46, 47, 48, 49, 50, 51, 52, 53, 54] (by decide +kernel) (by decide +kernel)
set_option maxRecDepth 20000 in
theorem gX5_mean_X5_rowAt : GoodIn wsX5_mean (wsV RX5 90 RX5 yX5_rowAt wsX5_rowAt) := goodIn_app (goodIn_of _ (by decide +kernel)) ggX5_mean_X5_rowAt
set_option maxRecDepth 20000 in
theorem ggX5_mean_X5_tells : GoodIn wsX5_mean wsX5_tells := goodIn_r _ [23, 24, 25, 26, 27, 28, 29, 30, 31, 32, 33, 34, 35, 36, 37, 38, 39, 40, 41, 42, 43, 44, 45, 46, 47, 48, 49, 50, 51, 52, 53, 54] (by decide +kernel) (by decide +kernel)
set_option maxRecDepth 20000 in
theorem gX5_mean_X5_tells : GoodIn wsX5_mean (wsV RX5 94 RX5 yX5_tells wsX5_tells) := goodIn_app (goodIn_of _ (by decide +kernel)) ggX5_mean_X5_tells
theorem dX5_mean_0 : decode cX5_mean 0 = .ok (.iload_n 1, 1) := by decide +kernel
theorem dX5_mean_1 : decode cX5_mean 1 = .ok (.invokestatic 82, 3) := by decide +kernel
theorem dX5_mean_4 : decode cX5_mean 4 = .ok (.ifCond .ne 5, 3) := by decide +kernel
theorem dX5_mean_7 : decode cX5_mean 7 = .ok (.iconst (-1), 1) := by decide +kernel
theorem dX5_mean_8 : decode cX5_mean 8 = .ok (.ireturn, 1) := by decide +kernel
theorem dX5_mean_9 : decode cX5_mean 9 = .ok (.aload_n 0, 1) := by decide +kernel
theorem dX5_mean_10 : decode cX5_mean 10 = .ok (.getfield 13, 3) := by decide +kernel
theorem dX5_mean_13 : decode cX5_mean 13 = .ok (.iload_n 1, 1) := by decide +kernel
theorem dX5_mean_14 : decode cX5_mean 14 = .ok (.iaload, 1) := by decide +kernel
theorem dX5_mean_15 : decode cX5_mean 15 = .ok (.ifCond .ge 9, 3) := by decide +kernel
theorem dX5_mean_18 : decode cX5_mean 18 = .ok (.aload_n 0, 1) := by decide +kernel
theorem dX5_mean_19 : decode cX5_mean 19 = .ok (.iconst 1, 1) := by decide +kernel
theorem dX5_mean_20 : decode cX5_mean 20 = .ok (.invokevirtual 86, 3) := by decide +kernel
theorem dX5_mean_23 : decode cX5_mean 23 = .ok (.ireturn, 1) := by decide +kernel
theorem dX5_mean_24 : decode cX5_mean 24 = .ok (.aload_n 0, 1) := by decide +kernel
theorem dX5_mean_25 : decode cX5_mean 25 = .ok (.getfield 13, 3) := by decide +kernel
theorem dX5_mean_28 : decode cX5_mean 28 = .ok (.iload_n 1, 1) := by decide +kernel
theorem dX5_mean_29 : decode cX5_mean 29 = .ok (.iaload, 1) := by decide +kernel
theorem dX5_mean_30 : decode cX5_mean 30 = .ok (.ifCond .ne 9, 3) := by decide +kernel
theorem dX5_mean_33 : decode cX5_mean 33 = .ok (.aload_n 0, 1) := by decide +kernel
theorem dX5_mean_34 : decode cX5_mean 34 = .ok (.iconst 4, 1) := by decide +kernel
theorem dX5_mean_35 : decode cX5_mean 35 = .ok (.invokevirtual 86, 3) := by decide +kernel
theorem dX5_mean_38 : decode cX5_mean 38 = .ok (.ireturn, 1) := by decide +kernel
theorem dX5_mean_39 : decode cX5_mean 39 = .ok (.lconst 0, 1) := by decide +kernel
theorem dX5_mean_40 : decode cX5_mean 40 = .ok (.lstore_n 2, 1) := by decide +kernel
theorem dX5_mean_41 : decode cX5_mean 41 = .ok (.iconst 0, 1) := by decide +kernel
theorem dX5_mean_42 : decode cX5_mean 42 = .ok (.istore 4, 2) := by decide +kernel
theorem dX5_mean_44 : decode cX5_mean 44 = .ok (.iload 4, 2) := by decide +kernel
theorem dX5_mean_46 : decode cX5_mean 46 = .ok (.aload_n 0, 1) := by decide +kernel
theorem dX5_mean_47 : decode cX5_mean 47 = .ok (.getfield 13, 3) := by decide +kernel
theorem dX5_mean_50 : decode cX5_mean 50 = .ok (.iload_n 1, 1) := by decide +kernel
theorem dX5_mean_51 : decode cX5_mean 51 = .ok (.iaload, 1) := by decide +kernel
theorem dX5_mean_52 : decode cX5_mean 52 = .ok (.if_icmp .ge 20, 3) := by decide +kernel
theorem dX5_mean_55 : decode cX5_mean 55 = .ok (.lload_n 2, 1) := by decide +kernel
theorem dX5_mean_56 : decode cX5_mean 56 = .ok (.aload_n 0, 1) := by decide +kernel
theorem dX5_mean_57 : decode cX5_mean 57 = .ok (.iload_n 1, 1) := by decide +kernel
theorem dX5_mean_58 : decode cX5_mean 58 = .ok (.iload 4, 2) := by decide +kernel
theorem dX5_mean_60 : decode cX5_mean 60 = .ok (.invokevirtual 90, 3) := by decide +kernel
theorem dX5_mean_63 : decode cX5_mean 63 = .ok (.i2l, 1) := by decide +kernel
theorem dX5_mean_64 : decode cX5_mean 64 = .ok (.ladd, 1) := by decide +kernel
theorem dX5_mean_65 : decode cX5_mean 65 = .ok (.lstore_n 2, 1) := by decide +kernel
theorem dX5_mean_66 : decode cX5_mean 66 = .ok (.iinc 4 1, 3) := by decide +kernel
theorem dX5_mean_69 : decode cX5_mean 69 = .ok (.goto (-25), 3) := by decide +kernel
theorem dX5_mean_72 : decode cX5_mean 72 = .ok (.aload_n 0, 1) := by decide +kernel
theorem dX5_mean_73 : decode cX5_mean 73 = .ok (.lload_n 2, 1) := by decide +kernel
theorem dX5_mean_74 : decode cX5_mean 74 = .ok (.aload_n 0, 1) := by decide +kernel
theorem dX5_mean_75 : decode cX5_mean 75 = .ok (.getfield 13, 3) := by decide +kernel
theorem dX5_mean_78 : decode cX5_mean 78 = .ok (.iload_n 1, 1) := by decide +kernel
theorem dX5_mean_79 : decode cX5_mean 79 = .ok (.iaload, 1) := by decide +kernel
theorem dX5_mean_80 : decode cX5_mean 80 = .ok (.i2l, 1) := by decide +kernel
theorem dX5_mean_81 : decode cX5_mean 81 = .ok (.ldiv, 1) := by decide +kernel
theorem dX5_mean_82 : decode cX5_mean 82 = .ok (.l2i, 1) := by decide +kernel
theorem dX5_mean_83 : decode cX5_mean 83 = .ok (.iconst 1, 1) := by decide +kernel
theorem dX5_mean_84 : decode cX5_mean 84 = .ok (.invokevirtual 94, 3) := by decide +kernel
theorem dX5_mean_87 : decode cX5_mean 87 = .ok (.ireturn, 1) := by decide +kernel
set_option maxRecDepth 20000 in
theorem ggX5_isText_X5_in : GoodIn wsX5_isText wsX5_in := goodIn_r _ [4] (by decide +kernel) (by decide +kernel)
set_option maxRecDepth 20000 in
theorem gX5_isText_X5_in : GoodIn wsX5_isText (va_wsS RX5 72 yX5_in wsX5_in) := goodIn_app (goodIn_of _ (by decide +kernel)) ggX5_isText_X5_in
theorem dX5_isText_0 : decode cX5_isText 0 = .ok (.iload_n 0, 1) := by decide +kernel
theorem dX5_isText_1 : decode cX5_isText 1 = .ok (.iconst 0, 1) := by decide +kernel
theorem dX5_isText_2 : decode cX5_isText 2 = .ok (.iconst 3, 1) := by decide +kernel
theorem dX5_isText_3 : decode cX5_isText 3 = .ok (.invokestatic 72, 3) := by decide +kernel
theorem dX5_isText_6 : decode cX5_isText 6 = .ok (.ireturn, 1) := by decide +kernel
set_option maxRecDepth 20000 in
theorem ggX5_text_X5_isText : GoodIn wsX5_text wsX5_isText := goodIn_r _ [6, 7, 8, 5, 9] (by decide +kernel) (by decide +kernel)
set_option maxRecDepth 20000 in
theorem gX5_text_X5_isText : GoodIn wsX5_text (va_wsS RX5 97 yX5_isText wsX5_isText) := goodIn_app (goodIn_of _ (by decide +kernel)) ggX5_text_X5_isText
set_option maxRecDepth 20000 in
theorem ggX5_text_X5_meets : GoodIn wsX5_text wsX5_meets := goodIn_r _ [13, 14, 15, 16, 17, 18, 19, 20, 21, 22, 23, 24, 25, 26, 27, 28, 29, 30, 31, 32, 33, 34, 35, 36, 37, 38, 39, 40, 41, 42, 43, 44, 45] (by decide +kernel) (by decide +kernel)
set_option maxRecDepth 20000 in
theorem gX5_text_X5_meets : GoodIn wsX5_text (wsV RX5 86 RX5 yX5_meets wsX5_meets) := goodIn_app (goodIn_of _ (by decide +kernel)) ggX5_text_X5_meets
theorem dX5_text_0 : decode cX5_text 0 = .ok (.iload_n 1, 1) := by decide +kernel
theorem dX5_text_1 : decode cX5_text 1 = .ok (.invokestatic 97, 3) := by decide +kernel
theorem dX5_text_4 : decode cX5_text 4 = .ok (.ifCond .eq 9, 3) := by decide +kernel
theorem dX5_text_7 : decode cX5_text 7 = .ok (.iload_n 2, 1) := by decide +kernel
theorem dX5_text_8 : decode cX5_text 8 = .ok (.bipush 120, 2) := by decide +kernel
theorem dX5_text_10 : decode cX5_text 10 = .ok (.if_icmp .le 5, 3) := by decide +kernel
theorem dX5_text_13 : decode cX5_text 13 = .ok (.iconst (-1), 1) := by decide +kernel
theorem dX5_text_14 : decode cX5_text 14 = .ok (.ireturn, 1) := by decide +kernel
theorem dX5_text_15 : decode cX5_text 15 = .ok (.iload_n 2, 1) := by decide +kernel
theorem dX5_text_16 : decode cX5_text 16 = .ok (.ifCond .ge 9, 3) := by decide +kernel
theorem dX5_text_19 : decode cX5_text 19 = .ok (.aload_n 0, 1) := by decide +kernel
theorem dX5_text_20 : decode cX5_text 20 = .ok (.iconst 5, 1) := by decide +kernel
theorem dX5_text_21 : decode cX5_text 21 = .ok (.invokevirtual 86, 3) := by decide +kernel
theorem dX5_text_24 : decode cX5_text 24 = .ok (.ireturn, 1) := by decide +kernel
theorem dX5_text_25 : decode cX5_text 25 = .ok (.aload_n 0, 1) := by decide +kernel
theorem dX5_text_26 : decode cX5_text 26 = .ok (.getfield 22, 3) := by decide +kernel
theorem dX5_text_29 : decode cX5_text 29 = .ok (.iload_n 1, 1) := by decide +kernel
theorem dX5_text_30 : decode cX5_text 30 = .ok (.iload_n 2, 1) := by decide +kernel
theorem dX5_text_31 : decode cX5_text 31 = .ok (.iastore, 1) := by decide +kernel
theorem dX5_text_32 : decode cX5_text 32 = .ok (.iconst 0, 1) := by decide +kernel
theorem dX5_text_33 : decode cX5_text 33 = .ok (.istore_n 3, 1) := by decide +kernel
theorem dX5_text_34 : decode cX5_text 34 = .ok (.iload_n 3, 1) := by decide +kernel
theorem dX5_text_35 : decode cX5_text 35 = .ok (.bipush 120, 2) := by decide +kernel
theorem dX5_text_37 : decode cX5_text 37 = .ok (.if_icmp .ge 22, 3) := by decide +kernel
theorem dX5_text_40 : decode cX5_text 40 = .ok (.aload_n 0, 1) := by decide +kernel
theorem dX5_text_41 : decode cX5_text 41 = .ok (.getfield 25, 3) := by decide +kernel
theorem dX5_text_44 : decode cX5_text 44 = .ok (.bipush 120, 2) := by decide +kernel
theorem dX5_text_46 : decode cX5_text 46 = .ok (.iload_n 1, 1) := by decide +kernel
theorem dX5_text_47 : decode cX5_text 47 = .ok (.imul, 1) := by decide +kernel
theorem dX5_text_48 : decode cX5_text 48 = .ok (.iload_n 3, 1) := by decide +kernel
theorem dX5_text_49 : decode cX5_text 49 = .ok (.iadd, 1) := by decide +kernel
theorem dX5_text_50 : decode cX5_text 50 = .ok (.bipush 32, 2) := by decide +kernel
theorem dX5_text_52 : decode cX5_text 52 = .ok (.bastore, 1) := by decide +kernel
theorem dX5_text_53 : decode cX5_text 53 = .ok (.iinc 3 1, 3) := by decide +kernel
theorem dX5_text_56 : decode cX5_text 56 = .ok (.goto (-22), 3) := by decide +kernel
theorem dX5_text_59 : decode cX5_text 59 = .ok (.iload_n 2, 1) := by decide +kernel
theorem dX5_text_60 : decode cX5_text 60 = .ok (.ireturn, 1) := by decide +kernel
set_option maxRecDepth 20000 in
theorem ggX5_put_X5_isText : GoodIn wsX5_put wsX5_isText := goodIn_r _ [6, 7, 8, 5, 9] (by decide +kernel) (by decide +kernel)
set_option maxRecDepth 20000 in
theorem gX5_put_X5_isText : GoodIn wsX5_put (va_wsS RX5 97 yX5_isText wsX5_isText) := goodIn_app (goodIn_of _ (by decide +kernel)) ggX5_put_X5_isText
set_option maxRecDepth 20000 in
theorem ggX5_put_X5_meets : GoodIn wsX5_put wsX5_meets := goodIn_r _ [13, 14, 15, 16, 17, 18, 19, 20, 21, 22, 23, 24, 25, 26, 27, 28, 29, 30, 31, 32, 33, 34, 35, 36, 37, 38, 39, 40, 41, 42, 43, 44, 45] (by decide +kernel) (by decide +kernel)
set_option maxRecDepth 20000 in
theorem gX5_put_X5_meets : GoodIn wsX5_put (wsV RX5 86 RX5 yX5_meets wsX5_meets) := goodIn_app (goodIn_of _ (by decide +kernel)) ggX5_put_X5_meets
set_option maxRecDepth 20000 in
theorem ggX5_put_X5_in : GoodIn wsX5_put wsX5_in := goodIn_r _ [9] (by decide +kernel) (by decide +kernel)
set_option maxRecDepth 20000 in
theorem gX5_put_X5_in : GoodIn wsX5_put (va_wsS RX5 72 yX5_in wsX5_in) := goodIn_app (goodIn_of _ (by decide +kernel)) ggX5_put_X5_in
theorem dX5_put_0 : decode cX5_put 0 = .ok (.iload_n 1, 1) := by decide +kernel
theorem dX5_put_1 : decode cX5_put 1 = .ok (.invokestatic 97, 3) := by decide +kernel
theorem dX5_put_4 : decode cX5_put 4 = .ok (.ifCond .ne 5, 3) := by decide +kernel
theorem dX5_put_7 : decode cX5_put 7 = .ok (.iconst (-1), 1) := by decide +kernel
theorem dX5_put_8 : decode cX5_put 8 = .ok (.ireturn, 1) := by decide +kernel
theorem dX5_put_9 : decode cX5_put 9 = .ok (.aload_n 0, 1) := by decide +kernel
theorem dX5_put_10 : decode cX5_put 10 = .ok (.getfield 22, 3) := by decide +kernel
theorem dX5_put_13 : decode cX5_put 13 = .ok (.iload_n 1, 1) := by decide +kernel
theorem dX5_put_14 : decode cX5_put 14 = .ok (.iaload, 1) := by decide +kernel
theorem dX5_put_15 : decode cX5_put 15 = .ok (.ifCond .ge 9, 3) := by decide +kernel
theorem dX5_put_18 : decode cX5_put 18 = .ok (.aload_n 0, 1) := by decide +kernel
theorem dX5_put_19 : decode cX5_put 19 = .ok (.iconst 1, 1) := by decide +kernel
theorem dX5_put_20 : decode cX5_put 20 = .ok (.invokevirtual 86, 3) := by decide +kernel
theorem dX5_put_23 : decode cX5_put 23 = .ok (.ireturn, 1) := by decide +kernel
theorem dX5_put_24 : decode cX5_put 24 = .ok (.iload_n 2, 1) := by decide +kernel
theorem dX5_put_25 : decode cX5_put 25 = .ok (.iconst 0, 1) := by decide +kernel
theorem dX5_put_26 : decode cX5_put 26 = .ok (.aload_n 0, 1) := by decide +kernel
theorem dX5_put_27 : decode cX5_put 27 = .ok (.getfield 22, 3) := by decide +kernel
theorem dX5_put_30 : decode cX5_put 30 = .ok (.iload_n 1, 1) := by decide +kernel
theorem dX5_put_31 : decode cX5_put 31 = .ok (.iaload, 1) := by decide +kernel
theorem dX5_put_32 : decode cX5_put 32 = .ok (.iconst 1, 1) := by decide +kernel
theorem dX5_put_33 : decode cX5_put 33 = .ok (.isub, 1) := by decide +kernel
theorem dX5_put_34 : decode cX5_put 34 = .ok (.invokestatic 72, 3) := by decide +kernel
theorem dX5_put_37 : decode cX5_put 37 = .ok (.ifCond .ne 9, 3) := by decide +kernel
theorem dX5_put_40 : decode cX5_put 40 = .ok (.aload_n 0, 1) := by decide +kernel
theorem dX5_put_41 : decode cX5_put 41 = .ok (.iconst 2, 1) := by decide +kernel
theorem dX5_put_42 : decode cX5_put 42 = .ok (.invokevirtual 86, 3) := by decide +kernel
theorem dX5_put_45 : decode cX5_put 45 = .ok (.ireturn, 1) := by decide +kernel
theorem dX5_put_46 : decode cX5_put 46 = .ok (.aload_n 0, 1) := by decide +kernel
theorem dX5_put_47 : decode cX5_put 47 = .ok (.getfield 25, 3) := by decide +kernel
theorem dX5_put_50 : decode cX5_put 50 = .ok (.bipush 120, 2) := by decide +kernel
theorem dX5_put_52 : decode cX5_put 52 = .ok (.iload_n 1, 1) := by decide +kernel
theorem dX5_put_53 : decode cX5_put 53 = .ok (.imul, 1) := by decide +kernel
theorem dX5_put_54 : decode cX5_put 54 = .ok (.iload_n 2, 1) := by decide +kernel
theorem dX5_put_55 : decode cX5_put 55 = .ok (.iadd, 1) := by decide +kernel
theorem dX5_put_56 : decode cX5_put 56 = .ok (.baload, 1) := by decide +kernel
theorem dX5_put_57 : decode cX5_put 57 = .ok (.istore 4, 2) := by decide +kernel
theorem dX5_put_59 : decode cX5_put 59 = .ok (.aload_n 0, 1) := by decide +kernel
theorem dX5_put_60 : decode cX5_put 60 = .ok (.getfield 25, 3) := by decide +kernel
theorem dX5_put_63 : decode cX5_put 63 = .ok (.bipush 120, 2) := by decide +kernel
theorem dX5_put_65 : decode cX5_put 65 = .ok (.iload_n 1, 1) := by decide +kernel
theorem dX5_put_66 : decode cX5_put 66 = .ok (.imul, 1) := by decide +kernel
theorem dX5_put_67 : decode cX5_put 67 = .ok (.iload_n 2, 1) := by decide +kernel
theorem dX5_put_68 : decode cX5_put 68 = .ok (.iadd, 1) := by decide +kernel
theorem dX5_put_69 : decode cX5_put 69 = .ok (.iload_n 3, 1) := by decide +kernel
theorem dX5_put_70 : decode cX5_put 70 = .ok (.i2b, 1) := by decide +kernel
theorem dX5_put_71 : decode cX5_put 71 = .ok (.bastore, 1) := by decide +kernel
theorem dX5_put_72 : decode cX5_put 72 = .ok (.sipush 1000, 3) := by decide +kernel
theorem dX5_put_75 : decode cX5_put 75 = .ok (.iload 4, 2) := by decide +kernel
theorem dX5_put_77 : decode cX5_put 77 = .ok (.iadd, 1) := by decide +kernel
theorem dX5_put_78 : decode cX5_put 78 = .ok (.ireturn, 1) := by decide +kernel
theorem dX5_byteAt_0 : decode cX5_byteAt 0 = .ok (.iload_n 2, 1) := by decide +kernel
theorem dX5_byteAt_1 : decode cX5_byteAt 1 = .ok (.aload_n 0, 1) := by decide +kernel
theorem dX5_byteAt_2 : decode cX5_byteAt 2 = .ok (.getfield 22, 3) := by decide +kernel
theorem dX5_byteAt_5 : decode cX5_byteAt 5 = .ok (.iload_n 1, 1) := by decide +kernel
theorem dX5_byteAt_6 : decode cX5_byteAt 6 = .ok (.iaload, 1) := by decide +kernel
theorem dX5_byteAt_7 : decode cX5_byteAt 7 = .ok (.if_icmp .ge 17, 3) := by decide +kernel
theorem dX5_byteAt_10 : decode cX5_byteAt 10 = .ok (.aload_n 0, 1) := by decide +kernel
theorem dX5_byteAt_11 : decode cX5_byteAt 11 = .ok (.getfield 25, 3) := by decide +kernel
theorem dX5_byteAt_14 : decode cX5_byteAt 14 = .ok (.bipush 120, 2) := by decide +kernel
theorem dX5_byteAt_16 : decode cX5_byteAt 16 = .ok (.iload_n 1, 1) := by decide +kernel
theorem dX5_byteAt_17 : decode cX5_byteAt 17 = .ok (.imul, 1) := by decide +kernel
theorem dX5_byteAt_18 : decode cX5_byteAt 18 = .ok (.iload_n 2, 1) := by decide +kernel
theorem dX5_byteAt_19 : decode cX5_byteAt 19 = .ok (.iadd, 1) := by decide +kernel
theorem dX5_byteAt_20 : decode cX5_byteAt 20 = .ok (.baload, 1) := by decide +kernel
theorem dX5_byteAt_21 : decode cX5_byteAt 21 = .ok (.goto 4, 3) := by decide +kernel
theorem dX5_byteAt_24 : decode cX5_byteAt 24 = .ok (.iconst 0, 1) := by decide +kernel
theorem dX5_byteAt_25 : decode cX5_byteAt 25 = .ok (.ireturn, 1) := by decide +kernel
set_option maxRecDepth 20000 in
theorem ggX5_sign_X5_byteAt : GoodIn wsX5_sign wsX5_byteAt := goodIn_r _ [6, 7, 8, 9, 10, 11, 12, 13, 14, 15, 16, 17, 18, 19, 20, 21, 22, 23, 24, 25, 26, 27, 28, 29, 30, 31, 32, 33, 34, 35, 36, 37, 38] (by decide +kernel) (by decide +kernel)
set_option maxRecDepth 20000 in
theorem gX5_sign_X5_byteAt : GoodIn wsX5_sign (wsV RX5 103 RX5 yX5_byteAt wsX5_byteAt) := goodIn_app (goodIn_of _ (by decide +kernel)) ggX5_sign_X5_byteAt
theorem dX5_sign_0 : decode cX5_sign 0 = .ok (.aload_n 0, 1) := by decide +kernel
theorem dX5_sign_1 : decode cX5_sign 1 = .ok (.iload_n 1, 1) := by decide +kernel
theorem dX5_sign_2 : decode cX5_sign 2 = .ok (.aload_n 0, 1) := by decide +kernel
theorem dX5_sign_3 : decode cX5_sign 3 = .ok (.getfield 100, 3) := by decide +kernel
theorem dX5_sign_6 : decode cX5_sign 6 = .ok (.invokevirtual 103, 3) := by decide +kernel
theorem dX5_sign_9 : decode cX5_sign 9 = .ok (.iload_n 2, 1) := by decide +kernel
theorem dX5_sign_10 : decode cX5_sign 10 = .ok (.if_icmp .ne 7, 3) := by decide +kernel
theorem dX5_sign_13 : decode cX5_sign 13 = .ok (.iconst 1, 1) := by decide +kernel
theorem dX5_sign_14 : decode cX5_sign 14 = .ok (.goto 4, 3) := by decide +kernel
theorem dX5_sign_17 : decode cX5_sign 17 = .ok (.iconst 0, 1) := by decide +kernel
theorem dX5_sign_18 : decode cX5_sign 18 = .ok (.istore_n 3, 1) := by decide +kernel
theorem dX5_sign_19 : decode cX5_sign 19 = .ok (.aload_n 0, 1) := by decide +kernel
theorem dX5_sign_20 : decode cX5_sign 20 = .ok (.dup, 1) := by decide +kernel
theorem dX5_sign_21 : decode cX5_sign 21 = .ok (.getfield 100, 3) := by decide +kernel
theorem dX5_sign_24 : decode cX5_sign 24 = .ok (.iload_n 3, 1) := by decide +kernel
theorem dX5_sign_25 : decode cX5_sign 25 = .ok (.ifCond .eq 7, 3) := by decide +kernel
theorem dX5_sign_28 : decode cX5_sign 28 = .ok (.iconst 1, 1) := by decide +kernel
theorem dX5_sign_29 : decode cX5_sign 29 = .ok (.goto 4, 3) := by decide +kernel
theorem dX5_sign_32 : decode cX5_sign 32 = .ok (.iconst 0, 1) := by decide +kernel
theorem dX5_sign_33 : decode cX5_sign 33 = .ok (.iadd, 1) := by decide +kernel
theorem dX5_sign_34 : decode cX5_sign 34 = .ok (.putfield 100, 3) := by decide +kernel
theorem dX5_sign_37 : decode cX5_sign 37 = .ok (.iload_n 3, 1) := by decide +kernel
theorem dX5_sign_38 : decode cX5_sign 38 = .ok (.ireturn, 1) := by decide +kernel
set_option maxRecDepth 20000 in
theorem ggX5_number_X5_byteAt : GoodIn wsX5_number wsX5_byteAt := goodIn_r _ [7, 8, 9, 13, 14, 15, 16, 17, 18, 19, 20, 21, 22, 23, 24, 25, 26, 27, 28, 29, 30, 31, 32, 33, 34, 35, 36, 37, 38, 39, 40, 41, 42] (by decide +kernel) (by decide +kernel)
set_option maxRecDepth 20000 in
theorem gX5_number_X5_byteAt : GoodIn wsX5_number (wsV RX5 103 RX5 yX5_byteAt wsX5_byteAt) := goodIn_app (goodIn_of _ (by decide +kernel)) ggX5_number_X5_byteAt
set_option maxRecDepth 20000 in
theorem ggX5_number_X5_in : GoodIn wsX5_number wsX5_in := goodIn_r _ [12] (by decide +kernel) (by decide +kernel)
set_option maxRecDepth 20000 in
theorem gX5_number_X5_in : GoodIn wsX5_number (va_wsS RX5 72 yX5_in wsX5_in) := goodIn_app (goodIn_of _ (by decide +kernel)) ggX5_number_X5_in
theorem dX5_number_0 : decode cX5_number 0 = .ok (.iconst 0, 1) := by decide +kernel
theorem dX5_number_1 : decode cX5_number 1 = .ok (.istore 4, 2) := by decide +kernel
theorem dX5_number_3 : decode cX5_number 3 = .ok (.iconst 0, 1) := by decide +kernel
theorem dX5_number_4 : decode cX5_number 4 = .ok (.istore 5, 2) := by decide +kernel
theorem dX5_number_6 : decode cX5_number 6 = .ok (.iload 4, 2) := by decide +kernel
theorem dX5_number_8 : decode cX5_number 8 = .ok (.iconst 2, 1) := by decide +kernel
theorem dX5_number_9 : decode cX5_number 9 = .ok (.if_icmp .ge 58, 3) := by decide +kernel
theorem dX5_number_12 : decode cX5_number 12 = .ok (.aload_n 0, 1) := by decide +kernel
theorem dX5_number_13 : decode cX5_number 13 = .ok (.iload_n 1, 1) := by decide +kernel
theorem dX5_number_14 : decode cX5_number 14 = .ok (.aload_n 0, 1) := by decide +kernel
theorem dX5_number_15 : decode cX5_number 15 = .ok (.getfield 100, 3) := by decide +kernel
theorem dX5_number_18 : decode cX5_number 18 = .ok (.invokevirtual 103, 3) := by decide +kernel
theorem dX5_number_21 : decode cX5_number 21 = .ok (.bipush 48, 2) := by decide +kernel
theorem dX5_number_23 : decode cX5_number 23 = .ok (.bipush 57, 2) := by decide +kernel
theorem dX5_number_25 : decode cX5_number 25 = .ok (.invokestatic 72, 3) := by decide +kernel
theorem dX5_number_28 : decode cX5_number 28 = .ok (.ifCond .eq 39, 3) := by decide +kernel
theorem dX5_number_31 : decode cX5_number 31 = .ok (.bipush 10, 2) := by decide +kernel
theorem dX5_number_33 : decode cX5_number 33 = .ok (.iload 5, 2) := by decide +kernel
theorem dX5_number_35 : decode cX5_number 35 = .ok (.imul, 1) := by decide +kernel
theorem dX5_number_36 : decode cX5_number 36 = .ok (.aload_n 0, 1) := by decide +kernel
theorem dX5_number_37 : decode cX5_number 37 = .ok (.iload_n 1, 1) := by decide +kernel
theorem dX5_number_38 : decode cX5_number 38 = .ok (.aload_n 0, 1) := by decide +kernel
theorem dX5_number_39 : decode cX5_number 39 = .ok (.getfield 100, 3) := by decide +kernel
theorem dX5_number_42 : decode cX5_number 42 = .ok (.invokevirtual 103, 3) := by decide +kernel
theorem dX5_number_45 : decode cX5_number 45 = .ok (.iadd, 1) := by decide +kernel
theorem dX5_number_46 : decode cX5_number 46 = .ok (.bipush 48, 2) := by decide +kernel
theorem dX5_number_48 : decode cX5_number 48 = .ok (.isub, 1) := by decide +kernel
theorem dX5_number_49 : decode cX5_number 49 = .ok (.istore 5, 2) := by decide +kernel
theorem dX5_number_51 : decode cX5_number 51 = .ok (.aload_n 0, 1) := by decide +kernel
theorem dX5_number_52 : decode cX5_number 52 = .ok (.dup, 1) := by decide +kernel
theorem dX5_number_53 : decode cX5_number 53 = .ok (.getfield 100, 3) := by decide +kernel
theorem dX5_number_56 : decode cX5_number 56 = .ok (.iconst 1, 1) := by decide +kernel
theorem dX5_number_57 : decode cX5_number 57 = .ok (.iadd, 1) := by decide +kernel
theorem dX5_number_58 : decode cX5_number 58 = .ok (.putfield 100, 3) := by decide +kernel
theorem dX5_number_61 : decode cX5_number 61 = .ok (.iinc 4 1, 3) := by decide +kernel
theorem dX5_number_64 : decode cX5_number 64 = .ok (.goto (-58), 3) := by decide +kernel
theorem dX5_number_67 : decode cX5_number 67 = .ok (.aload_n 0, 1) := by decide +kernel
theorem dX5_number_68 : decode cX5_number 68 = .ok (.iload 5, 2) := by decide +kernel
theorem dX5_number_70 : decode cX5_number 70 = .ok (.putfield 106, 3) := by decide +kernel
theorem dX5_number_73 : decode cX5_number 73 = .ok (.iload 4, 2) := by decide +kernel
theorem dX5_number_75 : decode cX5_number 75 = .ok (.ifCond .le 17, 3) := by decide +kernel
theorem dX5_number_78 : decode cX5_number 78 = .ok (.iload 5, 2) := by decide +kernel
theorem dX5_number_80 : decode cX5_number 80 = .ok (.iload_n 2, 1) := by decide +kernel
theorem dX5_number_81 : decode cX5_number 81 = .ok (.iload_n 3, 1) := by decide +kernel
theorem dX5_number_82 : decode cX5_number 82 = .ok (.invokestatic 72, 3) := by decide +kernel
theorem dX5_number_85 : decode cX5_number 85 = .ok (.ifCond .eq 7, 3) := by decide +kernel
theorem dX5_number_88 : decode cX5_number 88 = .ok (.iconst 1, 1) := by decide +kernel
theorem dX5_number_89 : decode cX5_number 89 = .ok (.goto 4, 3) := by decide +kernel
theorem dX5_number_92 : decode cX5_number 92 = .ok (.iconst 0, 1) := by decide +kernel
theorem dX5_number_93 : decode cX5_number 93 = .ok (.ireturn, 1) := by decide +kernel
set_option maxRecDepth 20000 in
theorem ggX5_figure_X5_byteAt : GoodIn wsX5_figure wsX5_byteAt := goodIn_r _ [7, 8, 9, 13, 14, 15, 16, 17, 18, 19, 20, 21, 22, 23, 24, 25, 26, 27, 28, 29, 30, 31, 32, 33, 34, 35, 36, 37, 38, 39, 40, 41, 42] (by decide +kernel) (by decide +kernel)
set_option maxRecDepth 20000 in
theorem gX5_figure_X5_byteAt : GoodIn wsX5_figure (wsV RX5 103 RX5 yX5_byteAt wsX5_byteAt) := goodIn_app (goodIn_of _ (by decide +kernel)) ggX5_figure_X5_byteAt
set_option maxRecDepth 20000 in
theorem ggX5_figure_X5_in : GoodIn wsX5_figure wsX5_in := goodIn_r _ [12] (by decide +kernel) (by decide +kernel)
set_option maxRecDepth 20000 in
theorem gX5_figure_X5_in : GoodIn wsX5_figure (va_wsS RX5 72 yX5_in wsX5_in) := goodIn_app (goodIn_of _ (by decide +kernel)) ggX5_figure_X5_in
theorem dX5_figure_0 : decode cX5_figure 0 = .ok (.aload_n 0, 1) := by decide +kernel
theorem dX5_figure_1 : decode cX5_figure 1 = .ok (.aload_n 0, 1) := by decide +kernel
theorem dX5_figure_2 : decode cX5_figure 2 = .ok (.iload_n 1, 1) := by decide +kernel
theorem dX5_figure_3 : decode cX5_figure 3 = .ok (.aload_n 0, 1) := by decide +kernel
theorem dX5_figure_4 : decode cX5_figure 4 = .ok (.getfield 100, 3) := by decide +kernel
theorem dX5_figure_7 : decode cX5_figure 7 = .ok (.invokevirtual 103, 3) := by decide +kernel
theorem dX5_figure_10 : decode cX5_figure 10 = .ok (.bipush 48, 2) := by decide +kernel
theorem dX5_figure_12 : decode cX5_figure 12 = .ok (.isub, 1) := by decide +kernel
theorem dX5_figure_13 : decode cX5_figure 13 = .ok (.putfield 106, 3) := by decide +kernel
theorem dX5_figure_16 : decode cX5_figure 16 = .ok (.aload_n 0, 1) := by decide +kernel
theorem dX5_figure_17 : decode cX5_figure 17 = .ok (.getfield 106, 3) := by decide +kernel
theorem dX5_figure_20 : decode cX5_figure 20 = .ok (.iconst 0, 1) := by decide +kernel
theorem dX5_figure_21 : decode cX5_figure 21 = .ok (.bipush 9, 2) := by decide +kernel
theorem dX5_figure_23 : decode cX5_figure 23 = .ok (.invokestatic 72, 3) := by decide +kernel
theorem dX5_figure_26 : decode cX5_figure 26 = .ok (.istore_n 2, 1) := by decide +kernel
theorem dX5_figure_27 : decode cX5_figure 27 = .ok (.aload_n 0, 1) := by decide +kernel
theorem dX5_figure_28 : decode cX5_figure 28 = .ok (.dup, 1) := by decide +kernel
theorem dX5_figure_29 : decode cX5_figure 29 = .ok (.getfield 100, 3) := by decide +kernel
theorem dX5_figure_32 : decode cX5_figure 32 = .ok (.iload_n 2, 1) := by decide +kernel
theorem dX5_figure_33 : decode cX5_figure 33 = .ok (.ifCond .eq 7, 3) := by decide +kernel
theorem dX5_figure_36 : decode cX5_figure 36 = .ok (.iconst 1, 1) := by decide +kernel
theorem dX5_figure_37 : decode cX5_figure 37 = .ok (.goto 4, 3) := by decide +kernel
theorem dX5_figure_40 : decode cX5_figure 40 = .ok (.iconst 0, 1) := by decide +kernel
theorem dX5_figure_41 : decode cX5_figure 41 = .ok (.iadd, 1) := by decide +kernel
theorem dX5_figure_42 : decode cX5_figure 42 = .ok (.putfield 100, 3) := by decide +kernel
theorem dX5_figure_45 : decode cX5_figure 45 = .ok (.iload_n 2, 1) := by decide +kernel
theorem dX5_figure_46 : decode cX5_figure 46 = .ok (.ireturn, 1) := by decide +kernel
set_option maxRecDepth 20000 in
theorem ggX5_letter_X5_byteAt : GoodIn wsX5_letter wsX5_byteAt := goodIn_r _ [8, 9, 10, 14, 15, 16, 17, 18, 19, 20, 21, 22, 23, 24, 25, 26, 27, 28, 29, 30, 31, 32, 33, 34, 35, 36, 37, 38, 39, 40, 41, 42, 43] (by decide +kernel) (by decide +kernel)
set_option maxRecDepth 20000 in
theorem gX5_letter_X5_byteAt : GoodIn wsX5_letter (wsV RX5 103 RX5 yX5_byteAt wsX5_byteAt) := goodIn_app (goodIn_of _ (by decide +kernel)) ggX5_letter_X5_byteAt
set_option maxRecDepth 20000 in
theorem ggX5_letter_X5_in : GoodIn wsX5_letter wsX5_in := goodIn_r _ [13] (by decide +kernel) (by decide +kernel)
set_option maxRecDepth 20000 in
theorem gX5_letter_X5_in : GoodIn wsX5_letter (va_wsS RX5 72 yX5_in wsX5_in) := goodIn_app (goodIn_of _ (by decide +kernel)) ggX5_letter_X5_in
theorem dX5_letter_0 : decode cX5_letter 0 = .ok (.aload_n 0, 1) := by decide +kernel
theorem dX5_letter_1 : decode cX5_letter 1 = .ok (.aload_n 0, 1) := by decide +kernel
theorem dX5_letter_2 : decode cX5_letter 2 = .ok (.iload_n 1, 1) := by decide +kernel
theorem dX5_letter_3 : decode cX5_letter 3 = .ok (.aload_n 0, 1) := by decide +kernel
theorem dX5_letter_4 : decode cX5_letter 4 = .ok (.getfield 100, 3) := by decide +kernel
theorem dX5_letter_7 : decode cX5_letter 7 = .ok (.invokevirtual 103, 3) := by decide +kernel
theorem dX5_letter_10 : decode cX5_letter 10 = .ok (.bipush 65, 2) := by decide +kernel
theorem dX5_letter_12 : decode cX5_letter 12 = .ok (.isub, 1) := by decide +kernel
theorem dX5_letter_13 : decode cX5_letter 13 = .ok (.putfield 106, 3) := by decide +kernel
theorem dX5_letter_16 : decode cX5_letter 16 = .ok (.aload_n 0, 1) := by decide +kernel
theorem dX5_letter_17 : decode cX5_letter 17 = .ok (.getfield 106, 3) := by decide +kernel
theorem dX5_letter_20 : decode cX5_letter 20 = .ok (.iconst 0, 1) := by decide +kernel
theorem dX5_letter_21 : decode cX5_letter 21 = .ok (.aload_n 0, 1) := by decide +kernel
theorem dX5_letter_22 : decode cX5_letter 22 = .ok (.getfield 109, 3) := by decide +kernel
theorem dX5_letter_25 : decode cX5_letter 25 = .ok (.iconst 1, 1) := by decide +kernel
theorem dX5_letter_26 : decode cX5_letter 26 = .ok (.isub, 1) := by decide +kernel
theorem dX5_letter_27 : decode cX5_letter 27 = .ok (.invokestatic 72, 3) := by decide +kernel
theorem dX5_letter_30 : decode cX5_letter 30 = .ok (.ifCond .eq 15, 3) := by decide +kernel
theorem dX5_letter_33 : decode cX5_letter 33 = .ok (.aload_n 0, 1) := by decide +kernel
theorem dX5_letter_34 : decode cX5_letter 34 = .ok (.getfield 106, 3) := by decide +kernel
theorem dX5_letter_37 : decode cX5_letter 37 = .ok (.iload_n 2, 1) := by decide +kernel
theorem dX5_letter_38 : decode cX5_letter 38 = .ok (.if_icmp .eq 7, 3) := by decide +kernel
theorem dX5_letter_41 : decode cX5_letter 41 = .ok (.iconst 1, 1) := by decide +kernel
theorem dX5_letter_42 : decode cX5_letter 42 = .ok (.goto 4, 3) := by decide +kernel
theorem dX5_letter_45 : decode cX5_letter 45 = .ok (.iconst 0, 1) := by decide +kernel
theorem dX5_letter_46 : decode cX5_letter 46 = .ok (.istore_n 3, 1) := by decide +kernel
theorem dX5_letter_47 : decode cX5_letter 47 = .ok (.aload_n 0, 1) := by decide +kernel
theorem dX5_letter_48 : decode cX5_letter 48 = .ok (.dup, 1) := by decide +kernel
theorem dX5_letter_49 : decode cX5_letter 49 = .ok (.getfield 100, 3) := by decide +kernel
theorem dX5_letter_52 : decode cX5_letter 52 = .ok (.iload_n 3, 1) := by decide +kernel
theorem dX5_letter_53 : decode cX5_letter 53 = .ok (.ifCond .eq 7, 3) := by decide +kernel
theorem dX5_letter_56 : decode cX5_letter 56 = .ok (.iconst 1, 1) := by decide +kernel
theorem dX5_letter_57 : decode cX5_letter 57 = .ok (.goto 4, 3) := by decide +kernel
theorem dX5_letter_60 : decode cX5_letter 60 = .ok (.iconst 0, 1) := by decide +kernel
theorem dX5_letter_61 : decode cX5_letter 61 = .ok (.iadd, 1) := by decide +kernel
theorem dX5_letter_62 : decode cX5_letter 62 = .ok (.putfield 100, 3) := by decide +kernel
theorem dX5_letter_65 : decode cX5_letter 65 = .ok (.iload_n 3, 1) := by decide +kernel
theorem dX5_letter_66 : decode cX5_letter 66 = .ok (.ireturn, 1) := by decide +kernel
theorem dX5_kindOf_0 : decode cX5_kindOf 0 = .ok (.iload_n 0, 1) := by decide +kernel
theorem dX5_kindOf_1 : decode cX5_kindOf 1 = .ok (.tableswitch 99 104 121 #[87, 99, 99, 89, 95, 93, 99, 99, 99, 99, 99, 91, 99, 99, 99, 99, 99, 97], 87) := by decide +kernel
theorem dX5_kindOf_88 : decode cX5_kindOf 88 = .ok (.iconst 0, 1) := by decide +kernel
theorem dX5_kindOf_89 : decode cX5_kindOf 89 = .ok (.ireturn, 1) := by decide +kernel
theorem dX5_kindOf_90 : decode cX5_kindOf 90 = .ok (.iconst 1, 1) := by decide +kernel
theorem dX5_kindOf_91 : decode cX5_kindOf 91 = .ok (.ireturn, 1) := by decide +kernel
theorem dX5_kindOf_92 : decode cX5_kindOf 92 = .ok (.iconst 2, 1) := by decide +kernel
theorem dX5_kindOf_93 : decode cX5_kindOf 93 = .ok (.ireturn, 1) := by decide +kernel
theorem dX5_kindOf_94 : decode cX5_kindOf 94 = .ok (.iconst 3, 1) := by decide +kernel
theorem dX5_kindOf_95 : decode cX5_kindOf 95 = .ok (.ireturn, 1) := by decide +kernel
theorem dX5_kindOf_96 : decode cX5_kindOf 96 = .ok (.iconst 4, 1) := by decide +kernel
theorem dX5_kindOf_97 : decode cX5_kindOf 97 = .ok (.ireturn, 1) := by decide +kernel
theorem dX5_kindOf_98 : decode cX5_kindOf 98 = .ok (.iconst 5, 1) := by decide +kernel
theorem dX5_kindOf_99 : decode cX5_kindOf 99 = .ok (.ireturn, 1) := by decide +kernel
theorem dX5_kindOf_100 : decode cX5_kindOf 100 = .ok (.bipush (-9), 2) := by decide +kernel
theorem dX5_kindOf_102 : decode cX5_kindOf 102 = .ok (.ireturn, 1) := by decide +kernel
set_option maxRecDepth 20000 in
theorem ggX5_readsOne_X5_byteAt : GoodIn wsX5_readsOne wsX5_byteAt := goodIn_r _ [9, 10, 11, 30, 31, 32, 33, 34, 35, 36, 37, 38, 39, 40, 41, 42, 43, 44, 45, 46, 47, 48, 49, 50, 51, 52, 53, 54, 55, 56, 57, 58, 59] (by decide +kernel) (by decide +kernel)
set_option maxRecDepth 20000 in
theorem gX5_readsOne_X5_byteAt : GoodIn wsX5_readsOne (wsV RX5 103 RX5 yX5_byteAt wsX5_byteAt) := goodIn_app (goodIn_of _ (by decide +kernel)) ggX5_readsOne_X5_byteAt
set_option maxRecDepth 20000 in
theorem ggX5_readsOne_X5_kindOf : GoodIn wsX5_readsOne wsX5_kindOf := goodIn_r _ [14] (by decide +kernel) (by decide +kernel)
set_option maxRecDepth 20000 in
theorem gX5_readsOne_X5_kindOf : GoodIn wsX5_readsOne (va_wsS RX5 112 yX5_kindOf wsX5_kindOf) := goodIn_app (goodIn_of _ (by decide +kernel)) ggX5_readsOne_X5_kindOf
set_option maxRecDepth 20000 in
theorem ggX5_readsOne_X5_letter : GoodIn wsX5_readsOne wsX5_letter := goodIn_r _ [18, 2, 3, 1, 5, 6, 7, 8, 9, 10, 11, 19, 20, 21, 30, 31, 32, 33, 34, 35, 36, 37, 38, 39, 40, 41, 42, 43, 44, 45, 46, 47, 48, 49, 50, 51, 52, 53, 54, 55, 56, 57, 58, 59] (by decide +kernel) (by decide +kernel)
set_option maxRecDepth 20000 in
theorem gX5_readsOne_X5_letter : GoodIn wsX5_readsOne (wsV RX5 115 RX5 yX5_letter wsX5_letter) := goodIn_app (goodIn_of _ (by decide +kernel)) ggX5_readsOne_X5_letter
set_option maxRecDepth 20000 in
theorem ggX5_readsOne_X5_sign : GoodIn wsX5_readsOne wsX5_sign := goodIn_r _ [25, 2, 5, 6, 7, 8, 9, 10, 11, 30, 31, 32, 33, 34, 35, 36, 37, 38, 39, 40, 41, 42, 43, 44, 45, 46, 47, 48, 49, 50, 51, 52, 53, 54, 55, 56, 57, 58, 59] (by decide +kernel) (by decide +kernel)
set_option maxRecDepth 20000 in
theorem gX5_readsOne_X5_sign : GoodIn wsX5_readsOne (wsV RX5 119 RX5 yX5_sign wsX5_sign) := goodIn_app (goodIn_of _ (by decide +kernel)) ggX5_readsOne_X5_sign
set_option maxRecDepth 20000 in
theorem ggX5_readsOne_X5_number : GoodIn wsX5_readsOne wsX5_number := goodIn_r _ [29, 2, 3, 5, 6, 7, 8, 9, 10, 11, 19, 20, 21, 30, 31, 32, 33, 34, 35, 36, 37, 38, 39, 40, 41, 42, 43, 44, 45, 46, 47, 48, 49, 50, 51, 52, 53, 54, 55, 56, 57, 58, 59] (by decide +kernel) (by decide +kernel)
set_option maxRecDepth 20000 in
theorem gX5_readsOne_X5_number : GoodIn wsX5_readsOne (wsV RX5 122 RX5 yX5_number wsX5_number) := goodIn_app (goodIn_of _ (by decide +kernel)) ggX5_readsOne_X5_number
theorem dX5_readsOne_0 : decode cX5_readsOne 0 = .ok (.aload_n 0, 1) := by decide +kernel
theorem dX5_readsOne_1 : decode cX5_readsOne 1 = .ok (.getfield 109, 3) := by decide +kernel
theorem dX5_readsOne_4 : decode cX5_readsOne 4 = .ok (.bipush 6, 2) := by decide +kernel
theorem dX5_readsOne_6 : decode cX5_readsOne 6 = .ok (.if_icmp .ne 5, 3) := by decide +kernel
theorem dX5_readsOne_9 : decode cX5_readsOne 9 = .ok (.iconst 0, 1) := by decide +kernel
theorem dX5_readsOne_10 : decode cX5_readsOne 10 = .ok (.ireturn, 1) := by decide +kernel
theorem dX5_readsOne_11 : decode cX5_readsOne 11 = .ok (.aload_n 0, 1) := by decide +kernel
theorem dX5_readsOne_12 : decode cX5_readsOne 12 = .ok (.dup, 1) := by decide +kernel
theorem dX5_readsOne_13 : decode cX5_readsOne 13 = .ok (.getfield 100, 3) := by decide +kernel
theorem dX5_readsOne_16 : decode cX5_readsOne 16 = .ok (.iconst 1, 1) := by decide +kernel
theorem dX5_readsOne_17 : decode cX5_readsOne 17 = .ok (.iadd, 1) := by decide +kernel
theorem dX5_readsOne_18 : decode cX5_readsOne 18 = .ok (.putfield 100, 3) := by decide +kernel
theorem dX5_readsOne_21 : decode cX5_readsOne 21 = .ok (.aload_n 0, 1) := by decide +kernel
theorem dX5_readsOne_22 : decode cX5_readsOne 22 = .ok (.iload_n 1, 1) := by decide +kernel
theorem dX5_readsOne_23 : decode cX5_readsOne 23 = .ok (.aload_n 0, 1) := by decide +kernel
theorem dX5_readsOne_24 : decode cX5_readsOne 24 = .ok (.getfield 100, 3) := by decide +kernel
theorem dX5_readsOne_27 : decode cX5_readsOne 27 = .ok (.invokevirtual 103, 3) := by decide +kernel
theorem dX5_readsOne_30 : decode cX5_readsOne 30 = .ok (.invokestatic 112, 3) := by decide +kernel
theorem dX5_readsOne_33 : decode cX5_readsOne 33 = .ok (.istore_n 2, 1) := by decide +kernel
theorem dX5_readsOne_34 : decode cX5_readsOne 34 = .ok (.iload_n 2, 1) := by decide +kernel
theorem dX5_readsOne_35 : decode cX5_readsOne 35 = .ok (.bipush (-9), 2) := by decide +kernel
theorem dX5_readsOne_37 : decode cX5_readsOne 37 = .ok (.if_icmp .ne 5, 3) := by decide +kernel
theorem dX5_readsOne_40 : decode cX5_readsOne 40 = .ok (.iconst 0, 1) := by decide +kernel
theorem dX5_readsOne_41 : decode cX5_readsOne 41 = .ok (.ireturn, 1) := by decide +kernel
theorem dX5_readsOne_42 : decode cX5_readsOne 42 = .ok (.aload_n 0, 1) := by decide +kernel
theorem dX5_readsOne_43 : decode cX5_readsOne 43 = .ok (.dup, 1) := by decide +kernel
theorem dX5_readsOne_44 : decode cX5_readsOne 44 = .ok (.getfield 100, 3) := by decide +kernel
theorem dX5_readsOne_47 : decode cX5_readsOne 47 = .ok (.iconst 1, 1) := by decide +kernel
theorem dX5_readsOne_48 : decode cX5_readsOne 48 = .ok (.iadd, 1) := by decide +kernel
theorem dX5_readsOne_49 : decode cX5_readsOne 49 = .ok (.putfield 100, 3) := by decide +kernel
theorem dX5_readsOne_52 : decode cX5_readsOne 52 = .ok (.bipush (-9), 2) := by decide +kernel
theorem dX5_readsOne_54 : decode cX5_readsOne 54 = .ok (.istore_n 3, 1) := by decide +kernel
theorem dX5_readsOne_55 : decode cX5_readsOne 55 = .ok (.iload_n 2, 1) := by decide +kernel
theorem dX5_readsOne_56 : decode cX5_readsOne 56 = .ok (.iconst 3, 1) := by decide +kernel
theorem dX5_readsOne_57 : decode cX5_readsOne 57 = .ok (.if_icmp .eq 8, 3) := by decide +kernel
theorem dX5_readsOne_60 : decode cX5_readsOne 60 = .ok (.iload_n 2, 1) := by decide +kernel
theorem dX5_readsOne_61 : decode cX5_readsOne 61 = .ok (.iconst 4, 1) := by decide +kernel
theorem dX5_readsOne_62 : decode cX5_readsOne 62 = .ok (.if_icmp .ne 19, 3) := by decide +kernel
theorem dX5_readsOne_65 : decode cX5_readsOne 65 = .ok (.aload_n 0, 1) := by decide +kernel
theorem dX5_readsOne_66 : decode cX5_readsOne 66 = .ok (.iload_n 1, 1) := by decide +kernel
theorem dX5_readsOne_67 : decode cX5_readsOne 67 = .ok (.iconst (-1), 1) := by decide +kernel
theorem dX5_readsOne_68 : decode cX5_readsOne 68 = .ok (.invokevirtual 115, 3) := by decide +kernel
theorem dX5_readsOne_71 : decode cX5_readsOne 71 = .ok (.ifCond .ne 5, 3) := by decide +kernel
theorem dX5_readsOne_74 : decode cX5_readsOne 74 = .ok (.iconst 0, 1) := by decide +kernel
theorem dX5_readsOne_75 : decode cX5_readsOne 75 = .ok (.ireturn, 1) := by decide +kernel
theorem dX5_readsOne_76 : decode cX5_readsOne 76 = .ok (.aload_n 0, 1) := by decide +kernel
theorem dX5_readsOne_77 : decode cX5_readsOne 77 = .ok (.getfield 106, 3) := by decide +kernel
theorem dX5_readsOne_80 : decode cX5_readsOne 80 = .ok (.istore_n 3, 1) := by decide +kernel
theorem dX5_readsOne_81 : decode cX5_readsOne 81 = .ok (.iconst 0, 1) := by decide +kernel
theorem dX5_readsOne_82 : decode cX5_readsOne 82 = .ok (.istore 4, 2) := by decide +kernel
theorem dX5_readsOne_84 : decode cX5_readsOne 84 = .ok (.aload_n 0, 1) := by decide +kernel
theorem dX5_readsOne_85 : decode cX5_readsOne 85 = .ok (.iload_n 1, 1) := by decide +kernel
theorem dX5_readsOne_86 : decode cX5_readsOne 86 = .ok (.bipush 97, 2) := by decide +kernel
theorem dX5_readsOne_88 : decode cX5_readsOne 88 = .ok (.invokevirtual 119, 3) := by decide +kernel
theorem dX5_readsOne_91 : decode cX5_readsOne 91 = .ok (.ifCond .eq 77, 3) := by decide +kernel
theorem dX5_readsOne_94 : decode cX5_readsOne 94 = .ok (.aload_n 0, 1) := by decide +kernel
theorem dX5_readsOne_95 : decode cX5_readsOne 95 = .ok (.iload_n 1, 1) := by decide +kernel
theorem dX5_readsOne_96 : decode cX5_readsOne 96 = .ok (.iconst 0, 1) := by decide +kernel
theorem dX5_readsOne_97 : decode cX5_readsOne 97 = .ok (.bipush 11, 2) := by decide +kernel
theorem dX5_readsOne_99 : decode cX5_readsOne 99 = .ok (.invokevirtual 122, 3) := by decide +kernel
theorem dX5_readsOne_102 : decode cX5_readsOne 102 = .ok (.ifCond .ne 5, 3) := by decide +kernel
theorem dX5_readsOne_105 : decode cX5_readsOne 105 = .ok (.iconst 0, 1) := by decide +kernel
theorem dX5_readsOne_106 : decode cX5_readsOne 106 = .ok (.ireturn, 1) := by decide +kernel
theorem dX5_readsOne_107 : decode cX5_readsOne 107 = .ok (.aload_n 0, 1) := by decide +kernel
theorem dX5_readsOne_108 : decode cX5_readsOne 108 = .ok (.getfield 106, 3) := by decide +kernel
theorem dX5_readsOne_111 : decode cX5_readsOne 111 = .ok (.istore 5, 2) := by decide +kernel
theorem dX5_readsOne_113 : decode cX5_readsOne 113 = .ok (.aload_n 0, 1) := by decide +kernel
theorem dX5_readsOne_114 : decode cX5_readsOne 114 = .ok (.iload_n 1, 1) := by decide +kernel
theorem dX5_readsOne_115 : decode cX5_readsOne 115 = .ok (.bipush 45, 2) := by decide +kernel
theorem dX5_readsOne_117 : decode cX5_readsOne 117 = .ok (.invokevirtual 119, 3) := by decide +kernel
theorem dX5_readsOne_120 : decode cX5_readsOne 120 = .ok (.ifCond .eq 15, 3) := by decide +kernel
theorem dX5_readsOne_123 : decode cX5_readsOne 123 = .ok (.aload_n 0, 1) := by decide +kernel
theorem dX5_readsOne_124 : decode cX5_readsOne 124 = .ok (.iload_n 1, 1) := by decide +kernel
theorem dX5_readsOne_125 : decode cX5_readsOne 125 = .ok (.iload 5, 2) := by decide +kernel
theorem dX5_readsOne_127 : decode cX5_readsOne 127 = .ok (.bipush 11, 2) := by decide +kernel
theorem dX5_readsOne_129 : decode cX5_readsOne 129 = .ok (.invokevirtual 122, 3) := by decide +kernel
theorem dX5_readsOne_132 : decode cX5_readsOne 132 = .ok (.ifCond .ne 5, 3) := by decide +kernel
theorem dX5_readsOne_135 : decode cX5_readsOne 135 = .ok (.iconst 0, 1) := by decide +kernel
theorem dX5_readsOne_136 : decode cX5_readsOne 136 = .ok (.ireturn, 1) := by decide +kernel
theorem dX5_readsOne_137 : decode cX5_readsOne 137 = .ok (.iload 5, 2) := by decide +kernel
theorem dX5_readsOne_139 : decode cX5_readsOne 139 = .ok (.istore 6, 2) := by decide +kernel
theorem dX5_readsOne_141 : decode cX5_readsOne 141 = .ok (.iload 6, 2) := by decide +kernel
theorem dX5_readsOne_143 : decode cX5_readsOne 143 = .ok (.aload_n 0, 1) := by decide +kernel
theorem dX5_readsOne_144 : decode cX5_readsOne 144 = .ok (.getfield 106, 3) := by decide +kernel
theorem dX5_readsOne_147 : decode cX5_readsOne 147 = .ok (.if_icmp .gt 18, 3) := by decide +kernel
theorem dX5_readsOne_150 : decode cX5_readsOne 150 = .ok (.iload 4, 2) := by decide +kernel
theorem dX5_readsOne_152 : decode cX5_readsOne 152 = .ok (.iconst 1, 1) := by decide +kernel
theorem dX5_readsOne_153 : decode cX5_readsOne 153 = .ok (.iload 6, 2) := by decide +kernel
theorem dX5_readsOne_155 : decode cX5_readsOne 155 = .ok (.ishl, 1) := by decide +kernel
theorem dX5_readsOne_156 : decode cX5_readsOne 156 = .ok (.ior, 1) := by decide +kernel
theorem dX5_readsOne_157 : decode cX5_readsOne 157 = .ok (.istore 4, 2) := by decide +kernel
theorem dX5_readsOne_159 : decode cX5_readsOne 159 = .ok (.iinc 6 1, 3) := by decide +kernel
theorem dX5_readsOne_162 : decode cX5_readsOne 162 = .ok (.goto (-21), 3) := by decide +kernel
theorem dX5_readsOne_165 : decode cX5_readsOne 165 = .ok (.goto (-81), 3) := by decide +kernel
theorem dX5_readsOne_168 : decode cX5_readsOne 168 = .ok (.iconst 4, 1) := by decide +kernel
theorem dX5_readsOne_169 : decode cX5_readsOne 169 = .ok (.aload_n 0, 1) := by decide +kernel
theorem dX5_readsOne_170 : decode cX5_readsOne 170 = .ok (.getfield 109, 3) := by decide +kernel
theorem dX5_readsOne_173 : decode cX5_readsOne 173 = .ok (.imul, 1) := by decide +kernel
theorem dX5_readsOne_174 : decode cX5_readsOne 174 = .ok (.istore 5, 2) := by decide +kernel
theorem dX5_readsOne_176 : decode cX5_readsOne 176 = .ok (.aload_n 0, 1) := by decide +kernel
theorem dX5_readsOne_177 : decode cX5_readsOne 177 = .ok (.getfield 35, 3) := by decide +kernel
theorem dX5_readsOne_180 : decode cX5_readsOne 180 = .ok (.iload 5, 2) := by decide +kernel
theorem dX5_readsOne_182 : decode cX5_readsOne 182 = .ok (.iload_n 2, 1) := by decide +kernel
theorem dX5_readsOne_183 : decode cX5_readsOne 183 = .ok (.iastore, 1) := by decide +kernel
theorem dX5_readsOne_184 : decode cX5_readsOne 184 = .ok (.aload_n 0, 1) := by decide +kernel
theorem dX5_readsOne_185 : decode cX5_readsOne 185 = .ok (.getfield 35, 3) := by decide +kernel
theorem dX5_readsOne_188 : decode cX5_readsOne 188 = .ok (.iload 5, 2) := by decide +kernel
theorem dX5_readsOne_190 : decode cX5_readsOne 190 = .ok (.iconst 1, 1) := by decide +kernel
theorem dX5_readsOne_191 : decode cX5_readsOne 191 = .ok (.iadd, 1) := by decide +kernel
theorem dX5_readsOne_192 : decode cX5_readsOne 192 = .ok (.iload_n 3, 1) := by decide +kernel
theorem dX5_readsOne_193 : decode cX5_readsOne 193 = .ok (.iastore, 1) := by decide +kernel
theorem dX5_readsOne_194 : decode cX5_readsOne 194 = .ok (.aload_n 0, 1) := by decide +kernel
theorem dX5_readsOne_195 : decode cX5_readsOne 195 = .ok (.getfield 35, 3) := by decide +kernel
theorem dX5_readsOne_198 : decode cX5_readsOne 198 = .ok (.iload 5, 2) := by decide +kernel
theorem dX5_readsOne_200 : decode cX5_readsOne 200 = .ok (.iconst 2, 1) := by decide +kernel
theorem dX5_readsOne_201 : decode cX5_readsOne 201 = .ok (.iadd, 1) := by decide +kernel
theorem dX5_readsOne_202 : decode cX5_readsOne 202 = .ok (.iload 4, 2) := by decide +kernel
theorem dX5_readsOne_204 : decode cX5_readsOne 204 = .ok (.iastore, 1) := by decide +kernel
theorem dX5_readsOne_205 : decode cX5_readsOne 205 = .ok (.aload_n 0, 1) := by decide +kernel
theorem dX5_readsOne_206 : decode cX5_readsOne 206 = .ok (.getfield 35, 3) := by decide +kernel
theorem dX5_readsOne_209 : decode cX5_readsOne 209 = .ok (.iload 5, 2) := by decide +kernel
theorem dX5_readsOne_211 : decode cX5_readsOne 211 = .ok (.iconst 3, 1) := by decide +kernel
theorem dX5_readsOne_212 : decode cX5_readsOne 212 = .ok (.iadd, 1) := by decide +kernel
theorem dX5_readsOne_213 : decode cX5_readsOne 213 = .ok (.iconst 5, 1) := by decide +kernel
theorem dX5_readsOne_214 : decode cX5_readsOne 214 = .ok (.iastore, 1) := by decide +kernel
theorem dX5_readsOne_215 : decode cX5_readsOne 215 = .ok (.aload_n 0, 1) := by decide +kernel
theorem dX5_readsOne_216 : decode cX5_readsOne 216 = .ok (.dup, 1) := by decide +kernel
theorem dX5_readsOne_217 : decode cX5_readsOne 217 = .ok (.getfield 109, 3) := by decide +kernel
theorem dX5_readsOne_220 : decode cX5_readsOne 220 = .ok (.iconst 1, 1) := by decide +kernel
theorem dX5_readsOne_221 : decode cX5_readsOne 221 = .ok (.iadd, 1) := by decide +kernel
theorem dX5_readsOne_222 : decode cX5_readsOne 222 = .ok (.putfield 109, 3) := by decide +kernel
theorem dX5_readsOne_225 : decode cX5_readsOne 225 = .ok (.iconst 1, 1) := by decide +kernel
theorem dX5_readsOne_226 : decode cX5_readsOne 226 = .ok (.ireturn, 1) := by decide +kernel
set_option maxRecDepth 20000 in
theorem ggX5_readsDebt_X5_letter : GoodIn wsX5_readsDebt wsX5_letter := goodIn_r _ [9, 2, 3, 10, 11, 12, 13, 8, 14, 15, 16, 17, 18, 19, 32, 33, 34, 35, 36, 37, 38, 39, 40, 41, 42, 43, 44, 45, 46, 47, 48, 49, 50, 51, 52, 53, 54, 55, 56, 57, 58, 59, 60, 61] (by decide +kernel) (by decide +kernel)
set_option maxRecDepth 20000 in
theorem gX5_readsDebt_X5_letter : GoodIn wsX5_readsDebt (wsV RX5 115 RX5 yX5_letter wsX5_letter) := goodIn_app (goodIn_of _ (by decide +kernel)) ggX5_readsDebt_X5_letter
set_option maxRecDepth 20000 in
theorem ggX5_readsDebt_X5_sign : GoodIn wsX5_readsDebt wsX5_sign := goodIn_r _ [23, 2, 11, 12, 13, 8, 14, 15, 16, 32, 33, 34, 35, 36, 37, 38, 39, 40, 41, 42, 43, 44, 45, 46, 47, 48, 49, 50, 51, 52, 53, 54, 55, 56, 57, 58, 59, 60, 61] (by decide +kernel) (by decide +kernel)
set_option maxRecDepth 20000 in
theorem gX5_readsDebt_X5_sign : GoodIn wsX5_readsDebt (wsV RX5 119 RX5 yX5_sign wsX5_sign) := goodIn_app (goodIn_of _ (by decide +kernel)) ggX5_readsDebt_X5_sign
set_option maxRecDepth 20000 in
theorem ggX5_readsDebt_X5_number : GoodIn wsX5_readsDebt wsX5_number := goodIn_r _ [27, 2, 3, 11, 12, 13, 8, 14, 15, 16, 17, 18, 19, 32, 33, 34, 35, 36, 37, 38, 39, 40, 41, 42, 43, 44, 45, 46, 47, 48, 49, 50, 51, 52, 53, 54, 55, 56, 57, 58, 59, 60, 61] (by decide +kernel) (by decide +kernel)
set_option maxRecDepth 20000 in
theorem gX5_readsDebt_X5_number : GoodIn wsX5_readsDebt (wsV RX5 122 RX5 yX5_number wsX5_number) := goodIn_app (goodIn_of _ (by decide +kernel)) ggX5_readsDebt_X5_number
set_option maxRecDepth 20000 in
theorem ggX5_readsDebt_X5_figure : GoodIn wsX5_readsDebt wsX5_figure := goodIn_r _ [31, 2, 3, 11, 12, 13, 8, 14, 15, 16, 17, 18, 19, 32, 33, 34, 35, 36, 37, 38, 39, 40, 41, 42, 43, 44, 45, 46, 47, 48, 49, 50, 51, 52, 53, 54, 55, 56, 57, 58, 59, 60, 61] (by decide +kernel) (by decide +kernel)
set_option maxRecDepth 20000 in
theorem gX5_readsDebt_X5_figure : GoodIn wsX5_readsDebt (wsV RX5 128 RX5 yX5_figure wsX5_figure) := goodIn_app (goodIn_of _ (by decide +kernel)) ggX5_readsDebt_X5_figure
theorem dX5_readsDebt_0 : decode cX5_readsDebt 0 = .ok (.aload_n 0, 1) := by decide +kernel
theorem dX5_readsDebt_1 : decode cX5_readsDebt 1 = .ok (.getfield 125, 3) := by decide +kernel
theorem dX5_readsDebt_4 : decode cX5_readsDebt 4 = .ok (.bipush 8, 2) := by decide +kernel
theorem dX5_readsDebt_6 : decode cX5_readsDebt 6 = .ok (.if_icmp .ne 5, 3) := by decide +kernel
theorem dX5_readsDebt_9 : decode cX5_readsDebt 9 = .ok (.iconst 0, 1) := by decide +kernel
theorem dX5_readsDebt_10 : decode cX5_readsDebt 10 = .ok (.ireturn, 1) := by decide +kernel
theorem dX5_readsDebt_11 : decode cX5_readsDebt 11 = .ok (.aload_n 0, 1) := by decide +kernel
theorem dX5_readsDebt_12 : decode cX5_readsDebt 12 = .ok (.dup, 1) := by decide +kernel
theorem dX5_readsDebt_13 : decode cX5_readsDebt 13 = .ok (.getfield 100, 3) := by decide +kernel
theorem dX5_readsDebt_16 : decode cX5_readsDebt 16 = .ok (.iconst 1, 1) := by decide +kernel
theorem dX5_readsDebt_17 : decode cX5_readsDebt 17 = .ok (.iadd, 1) := by decide +kernel
theorem dX5_readsDebt_18 : decode cX5_readsDebt 18 = .ok (.putfield 100, 3) := by decide +kernel
theorem dX5_readsDebt_21 : decode cX5_readsDebt 21 = .ok (.aload_n 0, 1) := by decide +kernel
theorem dX5_readsDebt_22 : decode cX5_readsDebt 22 = .ok (.iload_n 1, 1) := by decide +kernel
theorem dX5_readsDebt_23 : decode cX5_readsDebt 23 = .ok (.iconst (-1), 1) := by decide +kernel
theorem dX5_readsDebt_24 : decode cX5_readsDebt 24 = .ok (.invokevirtual 115, 3) := by decide +kernel
theorem dX5_readsDebt_27 : decode cX5_readsDebt 27 = .ok (.ifCond .ne 5, 3) := by decide +kernel
theorem dX5_readsDebt_30 : decode cX5_readsDebt 30 = .ok (.iconst 0, 1) := by decide +kernel
theorem dX5_readsDebt_31 : decode cX5_readsDebt 31 = .ok (.ireturn, 1) := by decide +kernel
theorem dX5_readsDebt_32 : decode cX5_readsDebt 32 = .ok (.aload_n 0, 1) := by decide +kernel
theorem dX5_readsDebt_33 : decode cX5_readsDebt 33 = .ok (.getfield 106, 3) := by decide +kernel
theorem dX5_readsDebt_36 : decode cX5_readsDebt 36 = .ok (.istore_n 2, 1) := by decide +kernel
theorem dX5_readsDebt_37 : decode cX5_readsDebt 37 = .ok (.aload_n 0, 1) := by decide +kernel
theorem dX5_readsDebt_38 : decode cX5_readsDebt 38 = .ok (.iload_n 1, 1) := by decide +kernel
theorem dX5_readsDebt_39 : decode cX5_readsDebt 39 = .ok (.iload_n 2, 1) := by decide +kernel
theorem dX5_readsDebt_40 : decode cX5_readsDebt 40 = .ok (.invokevirtual 115, 3) := by decide +kernel
theorem dX5_readsDebt_43 : decode cX5_readsDebt 43 = .ok (.ifCond .ne 5, 3) := by decide +kernel
theorem dX5_readsDebt_46 : decode cX5_readsDebt 46 = .ok (.iconst 0, 1) := by decide +kernel
theorem dX5_readsDebt_47 : decode cX5_readsDebt 47 = .ok (.ireturn, 1) := by decide +kernel
theorem dX5_readsDebt_48 : decode cX5_readsDebt 48 = .ok (.aload_n 0, 1) := by decide +kernel
theorem dX5_readsDebt_49 : decode cX5_readsDebt 49 = .ok (.getfield 106, 3) := by decide +kernel
theorem dX5_readsDebt_52 : decode cX5_readsDebt 52 = .ok (.istore_n 3, 1) := by decide +kernel
theorem dX5_readsDebt_53 : decode cX5_readsDebt 53 = .ok (.aload_n 0, 1) := by decide +kernel
theorem dX5_readsDebt_54 : decode cX5_readsDebt 54 = .ok (.iload_n 1, 1) := by decide +kernel
theorem dX5_readsDebt_55 : decode cX5_readsDebt 55 = .ok (.bipush 58, 2) := by decide +kernel
theorem dX5_readsDebt_57 : decode cX5_readsDebt 57 = .ok (.invokevirtual 119, 3) := by decide +kernel
theorem dX5_readsDebt_60 : decode cX5_readsDebt 60 = .ok (.ifCond .eq 14, 3) := by decide +kernel
theorem dX5_readsDebt_63 : decode cX5_readsDebt 63 = .ok (.aload_n 0, 1) := by decide +kernel
theorem dX5_readsDebt_64 : decode cX5_readsDebt 64 = .ok (.iload_n 1, 1) := by decide +kernel
theorem dX5_readsDebt_65 : decode cX5_readsDebt 65 = .ok (.iconst 1, 1) := by decide +kernel
theorem dX5_readsDebt_66 : decode cX5_readsDebt 66 = .ok (.bipush 99, 2) := by decide +kernel
theorem dX5_readsDebt_68 : decode cX5_readsDebt 68 = .ok (.invokevirtual 122, 3) := by decide +kernel
theorem dX5_readsDebt_71 : decode cX5_readsDebt 71 = .ok (.ifCond .ne 5, 3) := by decide +kernel
theorem dX5_readsDebt_74 : decode cX5_readsDebt 74 = .ok (.iconst 0, 1) := by decide +kernel
theorem dX5_readsDebt_75 : decode cX5_readsDebt 75 = .ok (.ireturn, 1) := by decide +kernel
theorem dX5_readsDebt_76 : decode cX5_readsDebt 76 = .ok (.aload_n 0, 1) := by decide +kernel
theorem dX5_readsDebt_77 : decode cX5_readsDebt 77 = .ok (.getfield 106, 3) := by decide +kernel
theorem dX5_readsDebt_80 : decode cX5_readsDebt 80 = .ok (.istore 4, 2) := by decide +kernel
theorem dX5_readsDebt_82 : decode cX5_readsDebt 82 = .ok (.aload_n 0, 1) := by decide +kernel
theorem dX5_readsDebt_83 : decode cX5_readsDebt 83 = .ok (.iload_n 1, 1) := by decide +kernel
theorem dX5_readsDebt_84 : decode cX5_readsDebt 84 = .ok (.bipush 58, 2) := by decide +kernel
theorem dX5_readsDebt_86 : decode cX5_readsDebt 86 = .ok (.invokevirtual 119, 3) := by decide +kernel
theorem dX5_readsDebt_89 : decode cX5_readsDebt 89 = .ok (.ifCond .eq 11, 3) := by decide +kernel
theorem dX5_readsDebt_92 : decode cX5_readsDebt 92 = .ok (.aload_n 0, 1) := by decide +kernel
theorem dX5_readsDebt_93 : decode cX5_readsDebt 93 = .ok (.iload_n 1, 1) := by decide +kernel
theorem dX5_readsDebt_94 : decode cX5_readsDebt 94 = .ok (.invokevirtual 128, 3) := by decide +kernel
theorem dX5_readsDebt_97 : decode cX5_readsDebt 97 = .ok (.ifCond .ne 5, 3) := by decide +kernel
theorem dX5_readsDebt_100 : decode cX5_readsDebt 100 = .ok (.iconst 0, 1) := by decide +kernel
theorem dX5_readsDebt_101 : decode cX5_readsDebt 101 = .ok (.ireturn, 1) := by decide +kernel
theorem dX5_readsDebt_102 : decode cX5_readsDebt 102 = .ok (.iconst 5, 1) := by decide +kernel
theorem dX5_readsDebt_103 : decode cX5_readsDebt 103 = .ok (.aload_n 0, 1) := by decide +kernel
theorem dX5_readsDebt_104 : decode cX5_readsDebt 104 = .ok (.getfield 125, 3) := by decide +kernel
theorem dX5_readsDebt_107 : decode cX5_readsDebt 107 = .ok (.imul, 1) := by decide +kernel
theorem dX5_readsDebt_108 : decode cX5_readsDebt 108 = .ok (.istore 5, 2) := by decide +kernel
theorem dX5_readsDebt_110 : decode cX5_readsDebt 110 = .ok (.aload_n 0, 1) := by decide +kernel
theorem dX5_readsDebt_111 : decode cX5_readsDebt 111 = .ok (.getfield 38, 3) := by decide +kernel
theorem dX5_readsDebt_114 : decode cX5_readsDebt 114 = .ok (.iload 5, 2) := by decide +kernel
theorem dX5_readsDebt_116 : decode cX5_readsDebt 116 = .ok (.iload_n 2, 1) := by decide +kernel
theorem dX5_readsDebt_117 : decode cX5_readsDebt 117 = .ok (.iastore, 1) := by decide +kernel
theorem dX5_readsDebt_118 : decode cX5_readsDebt 118 = .ok (.aload_n 0, 1) := by decide +kernel
theorem dX5_readsDebt_119 : decode cX5_readsDebt 119 = .ok (.getfield 38, 3) := by decide +kernel
theorem dX5_readsDebt_122 : decode cX5_readsDebt 122 = .ok (.iload 5, 2) := by decide +kernel
theorem dX5_readsDebt_124 : decode cX5_readsDebt 124 = .ok (.iconst 1, 1) := by decide +kernel
theorem dX5_readsDebt_125 : decode cX5_readsDebt 125 = .ok (.iadd, 1) := by decide +kernel
theorem dX5_readsDebt_126 : decode cX5_readsDebt 126 = .ok (.iload_n 3, 1) := by decide +kernel
theorem dX5_readsDebt_127 : decode cX5_readsDebt 127 = .ok (.iastore, 1) := by decide +kernel
theorem dX5_readsDebt_128 : decode cX5_readsDebt 128 = .ok (.aload_n 0, 1) := by decide +kernel
theorem dX5_readsDebt_129 : decode cX5_readsDebt 129 = .ok (.getfield 38, 3) := by decide +kernel
theorem dX5_readsDebt_132 : decode cX5_readsDebt 132 = .ok (.iload 5, 2) := by decide +kernel
theorem dX5_readsDebt_134 : decode cX5_readsDebt 134 = .ok (.iconst 2, 1) := by decide +kernel
theorem dX5_readsDebt_135 : decode cX5_readsDebt 135 = .ok (.iadd, 1) := by decide +kernel
theorem dX5_readsDebt_136 : decode cX5_readsDebt 136 = .ok (.iload 4, 2) := by decide +kernel
theorem dX5_readsDebt_138 : decode cX5_readsDebt 138 = .ok (.iastore, 1) := by decide +kernel
theorem dX5_readsDebt_139 : decode cX5_readsDebt 139 = .ok (.aload_n 0, 1) := by decide +kernel
theorem dX5_readsDebt_140 : decode cX5_readsDebt 140 = .ok (.getfield 38, 3) := by decide +kernel
theorem dX5_readsDebt_143 : decode cX5_readsDebt 143 = .ok (.iload 5, 2) := by decide +kernel
theorem dX5_readsDebt_145 : decode cX5_readsDebt 145 = .ok (.iconst 3, 1) := by decide +kernel
theorem dX5_readsDebt_146 : decode cX5_readsDebt 146 = .ok (.iadd, 1) := by decide +kernel
theorem dX5_readsDebt_147 : decode cX5_readsDebt 147 = .ok (.aload_n 0, 1) := by decide +kernel
theorem dX5_readsDebt_148 : decode cX5_readsDebt 148 = .ok (.getfield 106, 3) := by decide +kernel
theorem dX5_readsDebt_151 : decode cX5_readsDebt 151 = .ok (.iastore, 1) := by decide +kernel
theorem dX5_readsDebt_152 : decode cX5_readsDebt 152 = .ok (.aload_n 0, 1) := by decide +kernel
theorem dX5_readsDebt_153 : decode cX5_readsDebt 153 = .ok (.getfield 38, 3) := by decide +kernel
theorem dX5_readsDebt_156 : decode cX5_readsDebt 156 = .ok (.iload 5, 2) := by decide +kernel
theorem dX5_readsDebt_158 : decode cX5_readsDebt 158 = .ok (.iconst 4, 1) := by decide +kernel
theorem dX5_readsDebt_159 : decode cX5_readsDebt 159 = .ok (.iadd, 1) := by decide +kernel
theorem dX5_readsDebt_160 : decode cX5_readsDebt 160 = .ok (.bipush (-9), 2) := by decide +kernel
theorem dX5_readsDebt_162 : decode cX5_readsDebt 162 = .ok (.iastore, 1) := by decide +kernel
theorem dX5_readsDebt_163 : decode cX5_readsDebt 163 = .ok (.aload_n 0, 1) := by decide +kernel
theorem dX5_readsDebt_164 : decode cX5_readsDebt 164 = .ok (.dup, 1) := by decide +kernel
theorem dX5_readsDebt_165 : decode cX5_readsDebt 165 = .ok (.getfield 125, 3) := by decide +kernel
theorem dX5_readsDebt_168 : decode cX5_readsDebt 168 = .ok (.iconst 1, 1) := by decide +kernel
theorem dX5_readsDebt_169 : decode cX5_readsDebt 169 = .ok (.iadd, 1) := by decide +kernel
theorem dX5_readsDebt_170 : decode cX5_readsDebt 170 = .ok (.putfield 125, 3) := by decide +kernel
theorem dX5_readsDebt_173 : decode cX5_readsDebt 173 = .ok (.iconst 1, 1) := by decide +kernel
theorem dX5_readsDebt_174 : decode cX5_readsDebt 174 = .ok (.ireturn, 1) := by decide +kernel
set_option maxRecDepth 20000 in
theorem ggX5_faultOf_X5_byteAt : GoodIn wsX5_faultOf wsX5_byteAt := goodIn_r _ [9, 4, 10, 44, 45, 46, 47, 48, 49, 50, 51, 52, 53, 54, 55, 56, 57, 58, 59, 60, 61, 62, 63, 64, 65, 66, 67, 68, 69, 70, 71, 72, 73] (by decide +kernel) (by decide +kernel)
set_option maxRecDepth 20000 in
theorem gX5_faultOf_X5_byteAt : GoodIn wsX5_faultOf (wsV RX5 103 RX5 yX5_byteAt wsX5_byteAt) := goodIn_app (goodIn_of _ (by decide +kernel)) ggX5_faultOf_X5_byteAt
set_option maxRecDepth 20000 in
theorem ggX5_faultOf_X5_readsOne : GoodIn wsX5_faultOf wsX5_readsOne := goodIn_r _ [14, 2, 1, 15, 16, 5, 6, 7, 8, 9, 4, 10, 17, 18, 19, 20, 21, 22, 23, 24, 25, 26, 27, 28, 29, 30, 31, 32, 33, 34, 44, 45, 46, 47, 48, 49, 50, 51, 52, 53, 54, 55, 56, 57, 58, 59, 60, 61, 62, 63, 64, 65, 66, 67, 68, 69, 70, 71, 72, 73] (by decide +kernel) (by decide +kernel)
set_option maxRecDepth 20000 in
theorem gX5_faultOf_X5_readsOne : GoodIn wsX5_faultOf (wsV RX5 131 RX5 yX5_readsOne wsX5_readsOne) := goodIn_app (goodIn_of _ (by decide +kernel)) ggX5_faultOf_X5_readsOne
set_option maxRecDepth 20000 in
theorem ggX5_faultOf_X5_readsDebt : GoodIn wsX5_faultOf wsX5_readsDebt := goodIn_r _ [38, 3, 1, 15, 39, 20, 21, 22, 8, 23, 2, 5, 6, 7, 9, 4, 10, 24, 25, 26, 27, 28, 29, 30, 31, 32, 33, 34, 40, 41, 42, 43, 44, 45, 46, 47, 48, 49, 50, 51, 52, 53, 54, 55, 56, 57, 58, 59, 60, 61, 62, 63, 64, 65, 66, 67, 68, 69, 70, 71, 72, 73] (by decide +kernel) (by decide +kernel)
set_option maxRecDepth 20000 in
theorem gX5_faultOf_X5_readsDebt : GoodIn wsX5_faultOf (wsV RX5 134 RX5 yX5_readsDebt wsX5_readsDebt) := goodIn_app (goodIn_of _ (by decide +kernel)) ggX5_faultOf_X5_readsDebt
theorem dX5_faultOf_0 : decode cX5_faultOf 0 = .ok (.aload_n 0, 1) := by decide +kernel
theorem dX5_faultOf_1 : decode cX5_faultOf 1 = .ok (.iconst 0, 1) := by decide +kernel
theorem dX5_faultOf_2 : decode cX5_faultOf 2 = .ok (.putfield 100, 3) := by decide +kernel
theorem dX5_faultOf_5 : decode cX5_faultOf 5 = .ok (.aload_n 0, 1) := by decide +kernel
theorem dX5_faultOf_6 : decode cX5_faultOf 6 = .ok (.iconst 0, 1) := by decide +kernel
theorem dX5_faultOf_7 : decode cX5_faultOf 7 = .ok (.putfield 109, 3) := by decide +kernel
theorem dX5_faultOf_10 : decode cX5_faultOf 10 = .ok (.aload_n 0, 1) := by decide +kernel
theorem dX5_faultOf_11 : decode cX5_faultOf 11 = .ok (.iconst 0, 1) := by decide +kernel
theorem dX5_faultOf_12 : decode cX5_faultOf 12 = .ok (.putfield 125, 3) := by decide +kernel
theorem dX5_faultOf_15 : decode cX5_faultOf 15 = .ok (.aload_n 0, 1) := by decide +kernel
theorem dX5_faultOf_16 : decode cX5_faultOf 16 = .ok (.getfield 100, 3) := by decide +kernel
theorem dX5_faultOf_19 : decode cX5_faultOf 19 = .ok (.aload_n 0, 1) := by decide +kernel
theorem dX5_faultOf_20 : decode cX5_faultOf 20 = .ok (.getfield 22, 3) := by decide +kernel
theorem dX5_faultOf_23 : decode cX5_faultOf 23 = .ok (.iload_n 1, 1) := by decide +kernel
theorem dX5_faultOf_24 : decode cX5_faultOf 24 = .ok (.iaload, 1) := by decide +kernel
theorem dX5_faultOf_25 : decode cX5_faultOf 25 = .ok (.if_icmp .ge 71, 3) := by decide +kernel
theorem dX5_faultOf_28 : decode cX5_faultOf 28 = .ok (.aload_n 0, 1) := by decide +kernel
theorem dX5_faultOf_29 : decode cX5_faultOf 29 = .ok (.iload_n 1, 1) := by decide +kernel
theorem dX5_faultOf_30 : decode cX5_faultOf 30 = .ok (.aload_n 0, 1) := by decide +kernel
theorem dX5_faultOf_31 : decode cX5_faultOf 31 = .ok (.getfield 100, 3) := by decide +kernel
theorem dX5_faultOf_34 : decode cX5_faultOf 34 = .ok (.invokevirtual 103, 3) := by decide +kernel
theorem dX5_faultOf_37 : decode cX5_faultOf 37 = .ok (.istore_n 2, 1) := by decide +kernel
theorem dX5_faultOf_38 : decode cX5_faultOf 38 = .ok (.iload_n 2, 1) := by decide +kernel
theorem dX5_faultOf_39 : decode cX5_faultOf 39 = .ok (.bipush 32, 2) := by decide +kernel
theorem dX5_faultOf_41 : decode cX5_faultOf 41 = .ok (.if_icmp .ne 16, 3) := by decide +kernel
theorem dX5_faultOf_44 : decode cX5_faultOf 44 = .ok (.aload_n 0, 1) := by decide +kernel
theorem dX5_faultOf_45 : decode cX5_faultOf 45 = .ok (.dup, 1) := by decide +kernel
theorem dX5_faultOf_46 : decode cX5_faultOf 46 = .ok (.getfield 100, 3) := by decide +kernel
theorem dX5_faultOf_49 : decode cX5_faultOf 49 = .ok (.iconst 1, 1) := by decide +kernel
theorem dX5_faultOf_50 : decode cX5_faultOf 50 = .ok (.iadd, 1) := by decide +kernel
theorem dX5_faultOf_51 : decode cX5_faultOf 51 = .ok (.putfield 100, 3) := by decide +kernel
theorem dX5_faultOf_54 : decode cX5_faultOf 54 = .ok (.goto 39, 3) := by decide +kernel
theorem dX5_faultOf_57 : decode cX5_faultOf 57 = .ok (.iload_n 2, 1) := by decide +kernel
theorem dX5_faultOf_58 : decode cX5_faultOf 58 = .ok (.bipush 112, 2) := by decide +kernel
theorem dX5_faultOf_60 : decode cX5_faultOf 60 = .ok (.if_icmp .ne 14, 3) := by decide +kernel
theorem dX5_faultOf_63 : decode cX5_faultOf 63 = .ok (.aload_n 0, 1) := by decide +kernel
theorem dX5_faultOf_64 : decode cX5_faultOf 64 = .ok (.iload_n 1, 1) := by decide +kernel
theorem dX5_faultOf_65 : decode cX5_faultOf 65 = .ok (.invokevirtual 131, 3) := by decide +kernel
theorem dX5_faultOf_68 : decode cX5_faultOf 68 = .ok (.ifCond .eq 20, 3) := by decide +kernel
theorem dX5_faultOf_71 : decode cX5_faultOf 71 = .ok (.goto 22, 3) := by decide +kernel
theorem dX5_faultOf_74 : decode cX5_faultOf 74 = .ok (.iload_n 2, 1) := by decide +kernel
theorem dX5_faultOf_75 : decode cX5_faultOf 75 = .ok (.bipush 100, 2) := by decide +kernel
theorem dX5_faultOf_77 : decode cX5_faultOf 77 = .ok (.if_icmp .ne 11, 3) := by decide +kernel
theorem dX5_faultOf_80 : decode cX5_faultOf 80 = .ok (.aload_n 0, 1) := by decide +kernel
theorem dX5_faultOf_81 : decode cX5_faultOf 81 = .ok (.iload_n 1, 1) := by decide +kernel
theorem dX5_faultOf_82 : decode cX5_faultOf 82 = .ok (.invokevirtual 134, 3) := by decide +kernel
theorem dX5_faultOf_85 : decode cX5_faultOf 85 = .ok (.ifCond .ne 8, 3) := by decide +kernel
theorem dX5_faultOf_88 : decode cX5_faultOf 88 = .ok (.aload_n 0, 1) := by decide +kernel
theorem dX5_faultOf_89 : decode cX5_faultOf 89 = .ok (.getfield 100, 3) := by decide +kernel
theorem dX5_faultOf_92 : decode cX5_faultOf 92 = .ok (.ireturn, 1) := by decide +kernel
theorem dX5_faultOf_93 : decode cX5_faultOf 93 = .ok (.goto (-78), 3) := by decide +kernel
theorem dX5_faultOf_96 : decode cX5_faultOf 96 = .ok (.bipush (-9), 2) := by decide +kernel
theorem dX5_faultOf_98 : decode cX5_faultOf 98 = .ok (.ireturn, 1) := by decide +kernel
set_option maxRecDepth 20000 in
theorem ggX5_fault_X5_isText : GoodIn wsX5_fault wsX5_isText := goodIn_r _ [5, 6, 7, 4, 8] (by decide +kernel) (by decide +kernel)
set_option maxRecDepth 20000 in
theorem gX5_fault_X5_isText : GoodIn wsX5_fault (va_wsS RX5 97 yX5_isText wsX5_isText) := goodIn_app (goodIn_of _ (by decide +kernel)) ggX5_fault_X5_isText
set_option maxRecDepth 20000 in
theorem ggX5_fault_X5_meets : GoodIn wsX5_fault wsX5_meets := goodIn_r _ [12, 13, 14, 57, 58, 59, 60, 61, 62, 63, 64, 65, 66, 67, 68, 69, 70, 71, 72, 73, 74, 75, 76, 77, 78, 79, 80, 81, 82, 83, 84, 85, 86] (by decide +kernel) (by decide +kernel)
set_option maxRecDepth 20000 in
theorem gX5_fault_X5_meets : GoodIn wsX5_fault (wsV RX5 86 RX5 yX5_meets wsX5_meets) := goodIn_app (goodIn_of _ (by decide +kernel)) ggX5_fault_X5_meets
set_option maxRecDepth 20000 in
theorem ggX5_fault_X5_faultOf : GoodIn wsX5_fault wsX5_faultOf := goodIn_r _ [18, 19, 20, 21, 1, 22, 23, 24, 4, 25, 26, 27, 28, 29, 30, 31, 32, 33, 34, 35, 36, 37, 38, 39, 6, 7, 8, 40, 41, 42, 43, 44, 45, 46, 47, 48, 49, 50, 51, 52, 53, 54, 55, 56, 57, 58, 59, 60, 61, 62, 63, 64, 65, 66, 67, 68, 69, 70, 71, 72, 73, 74, 75, 76, 77, 78, 79, 80, 81, 82, 83, 84, 85, 86] (by decide +kernel) (by decide +kernel)
set_option maxRecDepth 20000 in
theorem gX5_fault_X5_faultOf : GoodIn wsX5_fault (wsV RX5 137 RX5 yX5_faultOf wsX5_faultOf) := goodIn_app (goodIn_of _ (by decide +kernel)) ggX5_fault_X5_faultOf
theorem dX5_fault_0 : decode cX5_fault 0 = .ok (.iload_n 1, 1) := by decide +kernel
theorem dX5_fault_1 : decode cX5_fault 1 = .ok (.invokestatic 97, 3) := by decide +kernel
theorem dX5_fault_4 : decode cX5_fault 4 = .ok (.ifCond .ne 5, 3) := by decide +kernel
theorem dX5_fault_7 : decode cX5_fault 7 = .ok (.iconst (-1), 1) := by decide +kernel
theorem dX5_fault_8 : decode cX5_fault 8 = .ok (.ireturn, 1) := by decide +kernel
theorem dX5_fault_9 : decode cX5_fault 9 = .ok (.aload_n 0, 1) := by decide +kernel
theorem dX5_fault_10 : decode cX5_fault 10 = .ok (.getfield 22, 3) := by decide +kernel
theorem dX5_fault_13 : decode cX5_fault 13 = .ok (.iload_n 1, 1) := by decide +kernel
theorem dX5_fault_14 : decode cX5_fault 14 = .ok (.iaload, 1) := by decide +kernel
theorem dX5_fault_15 : decode cX5_fault 15 = .ok (.ifCond .ge 11, 3) := by decide +kernel
theorem dX5_fault_18 : decode cX5_fault 18 = .ok (.aload_n 0, 1) := by decide +kernel
theorem dX5_fault_19 : decode cX5_fault 19 = .ok (.iconst 1, 1) := by decide +kernel
theorem dX5_fault_20 : decode cX5_fault 20 = .ok (.invokevirtual 86, 3) := by decide +kernel
theorem dX5_fault_23 : decode cX5_fault 23 = .ok (.goto 8, 3) := by decide +kernel
theorem dX5_fault_26 : decode cX5_fault 26 = .ok (.aload_n 0, 1) := by decide +kernel
theorem dX5_fault_27 : decode cX5_fault 27 = .ok (.iload_n 1, 1) := by decide +kernel
theorem dX5_fault_28 : decode cX5_fault 28 = .ok (.invokevirtual 137, 3) := by decide +kernel
theorem dX5_fault_31 : decode cX5_fault 31 = .ok (.ireturn, 1) := by decide +kernel
set_option maxRecDepth 20000 in
theorem ggX5_village_X5_isText : GoodIn wsX5_village wsX5_isText := goodIn_r _ [15, 16, 17, 14, 18] (by decide +kernel) (by decide +kernel)
set_option maxRecDepth 20000 in
theorem gX5_village_X5_isText : GoodIn wsX5_village (va_wsS RX5 97 yX5_isText wsX5_isText) := goodIn_app (goodIn_of _ (by decide +kernel)) ggX5_village_X5_isText
set_option maxRecDepth 20000 in
theorem ggX5_village_X5_meets : GoodIn wsX5_village wsX5_meets := goodIn_r _ [22, 23, 24, 63, 64, 65, 66, 67, 68, 69, 70, 71, 72, 73, 74, 75, 76, 77, 78, 79, 80, 81, 82, 83, 84, 85, 86, 87, 88, 89, 90, 91, 92] (by decide +kernel) (by decide +kernel)
set_option maxRecDepth 20000 in
theorem gX5_village_X5_meets : GoodIn wsX5_village (wsV RX5 86 RX5 yX5_meets wsX5_meets) := goodIn_app (goodIn_of _ (by decide +kernel)) ggX5_village_X5_meets
set_option maxRecDepth 20000 in
theorem ggX5_village_X5_faultOf : GoodIn wsX5_village wsX5_faultOf := goodIn_r _ [28, 29, 2, 4, 1, 30, 31, 32, 14, 33, 34, 35, 36, 37, 38, 39, 8, 40, 41, 42, 43, 44, 45, 46, 16, 17, 18, 47, 48, 49, 50, 51, 52, 53, 54, 55, 56, 57, 58, 10, 59, 60, 61, 62, 63, 64, 65, 66, 67, 68, 69, 70, 71, 72, 73, 74, 75, 76, 77, 78, 79, 80, 81, 82, 83, 84, 85, 86, 87, 88, 89, 90, 91, 92] (by decide +kernel) (by decide +kernel)
set_option maxRecDepth 20000 in
theorem gX5_village_X5_faultOf : GoodIn wsX5_village (wsV RX5 137 RX5 yX5_faultOf wsX5_faultOf) := goodIn_app (goodIn_of _ (by decide +kernel)) ggX5_village_X5_faultOf
theorem dX5_village_0 : decode cX5_village 0 = .ok (.iload_n 1, 1) := by decide +kernel
theorem dX5_village_1 : decode cX5_village 1 = .ok (.invokestatic 97, 3) := by decide +kernel
theorem dX5_village_4 : decode cX5_village 4 = .ok (.ifCond .ne 5, 3) := by decide +kernel
theorem dX5_village_7 : decode cX5_village 7 = .ok (.iconst (-1), 1) := by decide +kernel
theorem dX5_village_8 : decode cX5_village 8 = .ok (.ireturn, 1) := by decide +kernel
theorem dX5_village_9 : decode cX5_village 9 = .ok (.aload_n 0, 1) := by decide +kernel
theorem dX5_village_10 : decode cX5_village 10 = .ok (.getfield 22, 3) := by decide +kernel
theorem dX5_village_13 : decode cX5_village 13 = .ok (.iload_n 1, 1) := by decide +kernel
theorem dX5_village_14 : decode cX5_village 14 = .ok (.iaload, 1) := by decide +kernel
theorem dX5_village_15 : decode cX5_village 15 = .ok (.ifCond .ge 9, 3) := by decide +kernel
theorem dX5_village_18 : decode cX5_village 18 = .ok (.aload_n 0, 1) := by decide +kernel
theorem dX5_village_19 : decode cX5_village 19 = .ok (.iconst 1, 1) := by decide +kernel
theorem dX5_village_20 : decode cX5_village 20 = .ok (.invokevirtual 86, 3) := by decide +kernel
theorem dX5_village_23 : decode cX5_village 23 = .ok (.ireturn, 1) := by decide +kernel
theorem dX5_village_24 : decode cX5_village 24 = .ok (.aload_n 0, 1) := by decide +kernel
theorem dX5_village_25 : decode cX5_village 25 = .ok (.iload_n 1, 1) := by decide +kernel
theorem dX5_village_26 : decode cX5_village 26 = .ok (.invokevirtual 137, 3) := by decide +kernel
theorem dX5_village_29 : decode cX5_village 29 = .ok (.bipush (-9), 2) := by decide +kernel
theorem dX5_village_31 : decode cX5_village 31 = .ok (.if_icmp .eq 6, 3) := by decide +kernel
theorem dX5_village_34 : decode cX5_village 34 = .ok (.bipush (-4), 2) := by decide +kernel
theorem dX5_village_36 : decode cX5_village 36 = .ok (.ireturn, 1) := by decide +kernel
theorem dX5_village_37 : decode cX5_village 37 = .ok (.aload_n 0, 1) := by decide +kernel
theorem dX5_village_38 : decode cX5_village 38 = .ok (.aload_n 0, 1) := by decide +kernel
theorem dX5_village_39 : decode cX5_village 39 = .ok (.getfield 109, 3) := by decide +kernel
theorem dX5_village_42 : decode cX5_village 42 = .ok (.putfield 140, 3) := by decide +kernel
theorem dX5_village_45 : decode cX5_village 45 = .ok (.aload_n 0, 1) := by decide +kernel
theorem dX5_village_46 : decode cX5_village 46 = .ok (.aload_n 0, 1) := by decide +kernel
theorem dX5_village_47 : decode cX5_village 47 = .ok (.getfield 125, 3) := by decide +kernel
theorem dX5_village_50 : decode cX5_village 50 = .ok (.putfield 143, 3) := by decide +kernel
theorem dX5_village_53 : decode cX5_village 53 = .ok (.aload_n 0, 1) := by decide +kernel
theorem dX5_village_54 : decode cX5_village 54 = .ok (.iconst 0, 1) := by decide +kernel
theorem dX5_village_55 : decode cX5_village 55 = .ok (.putfield 146, 3) := by decide +kernel
theorem dX5_village_58 : decode cX5_village 58 = .ok (.iconst 0, 1) := by decide +kernel
theorem dX5_village_59 : decode cX5_village 59 = .ok (.istore_n 2, 1) := by decide +kernel
theorem dX5_village_60 : decode cX5_village 60 = .ok (.iload_n 2, 1) := by decide +kernel
theorem dX5_village_61 : decode cX5_village 61 = .ok (.bipush 24, 2) := by decide +kernel
theorem dX5_village_63 : decode cX5_village 63 = .ok (.if_icmp .ge 21, 3) := by decide +kernel
theorem dX5_village_66 : decode cX5_village 66 = .ok (.aload_n 0, 1) := by decide +kernel
theorem dX5_village_67 : decode cX5_village 67 = .ok (.getfield 29, 3) := by decide +kernel
theorem dX5_village_70 : decode cX5_village 70 = .ok (.iload_n 2, 1) := by decide +kernel
theorem dX5_village_71 : decode cX5_village 71 = .ok (.aload_n 0, 1) := by decide +kernel
theorem dX5_village_72 : decode cX5_village 72 = .ok (.getfield 35, 3) := by decide +kernel
theorem dX5_village_75 : decode cX5_village 75 = .ok (.iload_n 2, 1) := by decide +kernel
theorem dX5_village_76 : decode cX5_village 76 = .ok (.iaload, 1) := by decide +kernel
theorem dX5_village_77 : decode cX5_village 77 = .ok (.iastore, 1) := by decide +kernel
theorem dX5_village_78 : decode cX5_village 78 = .ok (.iinc 2 1, 3) := by decide +kernel
theorem dX5_village_81 : decode cX5_village 81 = .ok (.goto (-21), 3) := by decide +kernel
theorem dX5_village_84 : decode cX5_village 84 = .ok (.iconst 0, 1) := by decide +kernel
theorem dX5_village_85 : decode cX5_village 85 = .ok (.istore_n 2, 1) := by decide +kernel
theorem dX5_village_86 : decode cX5_village 86 = .ok (.iload_n 2, 1) := by decide +kernel
theorem dX5_village_87 : decode cX5_village 87 = .ok (.bipush 40, 2) := by decide +kernel
theorem dX5_village_89 : decode cX5_village 89 = .ok (.if_icmp .ge 21, 3) := by decide +kernel
theorem dX5_village_92 : decode cX5_village 92 = .ok (.aload_n 0, 1) := by decide +kernel
theorem dX5_village_93 : decode cX5_village 93 = .ok (.getfield 32, 3) := by decide +kernel
theorem dX5_village_96 : decode cX5_village 96 = .ok (.iload_n 2, 1) := by decide +kernel
theorem dX5_village_97 : decode cX5_village 97 = .ok (.aload_n 0, 1) := by decide +kernel
theorem dX5_village_98 : decode cX5_village 98 = .ok (.getfield 38, 3) := by decide +kernel
theorem dX5_village_101 : decode cX5_village 101 = .ok (.iload_n 2, 1) := by decide +kernel
theorem dX5_village_102 : decode cX5_village 102 = .ok (.iaload, 1) := by decide +kernel
theorem dX5_village_103 : decode cX5_village 103 = .ok (.iastore, 1) := by decide +kernel
theorem dX5_village_104 : decode cX5_village 104 = .ok (.iinc 2 1, 3) := by decide +kernel
theorem dX5_village_107 : decode cX5_village 107 = .ok (.goto (-21), 3) := by decide +kernel
theorem dX5_village_110 : decode cX5_village 110 = .ok (.iconst 0, 1) := by decide +kernel
theorem dX5_village_111 : decode cX5_village 111 = .ok (.istore_n 2, 1) := by decide +kernel
theorem dX5_village_112 : decode cX5_village 112 = .ok (.iload_n 2, 1) := by decide +kernel
theorem dX5_village_113 : decode cX5_village 113 = .ok (.iconst 3, 1) := by decide +kernel
theorem dX5_village_114 : decode cX5_village 114 = .ok (.if_icmp .ge 16, 3) := by decide +kernel
theorem dX5_village_117 : decode cX5_village 117 = .ok (.aload_n 0, 1) := by decide +kernel
theorem dX5_village_118 : decode cX5_village 118 = .ok (.getfield 58, 3) := by decide +kernel
theorem dX5_village_121 : decode cX5_village 121 = .ok (.iload_n 2, 1) := by decide +kernel
theorem dX5_village_122 : decode cX5_village 122 = .ok (.iconst 0, 1) := by decide +kernel
theorem dX5_village_123 : decode cX5_village 123 = .ok (.bastore, 1) := by decide +kernel
theorem dX5_village_124 : decode cX5_village 124 = .ok (.iinc 2 1, 3) := by decide +kernel
theorem dX5_village_127 : decode cX5_village 127 = .ok (.goto (-15), 3) := by decide +kernel
theorem dX5_village_130 : decode cX5_village 130 = .ok (.aload_n 0, 1) := by decide +kernel
theorem dX5_village_131 : decode cX5_village 131 = .ok (.getfield 140, 3) := by decide +kernel
theorem dX5_village_134 : decode cX5_village 134 = .ok (.ireturn, 1) := by decide +kernel
set_option maxRecDepth 20000 in
theorem ggX5_isOne_X5_in : GoodIn wsX5_isOne wsX5_in := goodIn_r _ [5] (by decide +kernel) (by decide +kernel)
set_option maxRecDepth 20000 in
theorem gX5_isOne_X5_in : GoodIn wsX5_isOne (va_wsS RX5 72 yX5_in wsX5_in) := goodIn_app (goodIn_of _ (by decide +kernel)) ggX5_isOne_X5_in
theorem dX5_isOne_0 : decode cX5_isOne 0 = .ok (.iload_n 1, 1) := by decide +kernel
theorem dX5_isOne_1 : decode cX5_isOne 1 = .ok (.iconst 0, 1) := by decide +kernel
theorem dX5_isOne_2 : decode cX5_isOne 2 = .ok (.aload_n 0, 1) := by decide +kernel
theorem dX5_isOne_3 : decode cX5_isOne 3 = .ok (.getfield 140, 3) := by decide +kernel
theorem dX5_isOne_6 : decode cX5_isOne 6 = .ok (.iconst 1, 1) := by decide +kernel
theorem dX5_isOne_7 : decode cX5_isOne 7 = .ok (.isub, 1) := by decide +kernel
theorem dX5_isOne_8 : decode cX5_isOne 8 = .ok (.invokestatic 72, 3) := by decide +kernel
theorem dX5_isOne_11 : decode cX5_isOne 11 = .ok (.ireturn, 1) := by decide +kernel
set_option maxRecDepth 20000 in
theorem ggX5_isDebt_X5_in : GoodIn wsX5_isDebt wsX5_in := goodIn_r _ [5] (by decide +kernel) (by decide +kernel)
set_option maxRecDepth 20000 in
theorem gX5_isDebt_X5_in : GoodIn wsX5_isDebt (va_wsS RX5 72 yX5_in wsX5_in) := goodIn_app (goodIn_of _ (by decide +kernel)) ggX5_isDebt_X5_in
theorem dX5_isDebt_0 : decode cX5_isDebt 0 = .ok (.iload_n 1, 1) := by decide +kernel
theorem dX5_isDebt_1 : decode cX5_isDebt 1 = .ok (.iconst 0, 1) := by decide +kernel
theorem dX5_isDebt_2 : decode cX5_isDebt 2 = .ok (.aload_n 0, 1) := by decide +kernel
theorem dX5_isDebt_3 : decode cX5_isDebt 3 = .ok (.getfield 143, 3) := by decide +kernel
theorem dX5_isDebt_6 : decode cX5_isDebt 6 = .ok (.iconst 1, 1) := by decide +kernel
theorem dX5_isDebt_7 : decode cX5_isDebt 7 = .ok (.isub, 1) := by decide +kernel
theorem dX5_isDebt_8 : decode cX5_isDebt 8 = .ok (.invokestatic 72, 3) := by decide +kernel
theorem dX5_isDebt_11 : decode cX5_isDebt 11 = .ok (.ireturn, 1) := by decide +kernel
set_option maxRecDepth 20000 in
theorem ggX5_isHour_X5_in : GoodIn wsX5_isHour wsX5_in := goodIn_r _ [4] (by decide +kernel) (by decide +kernel)
set_option maxRecDepth 20000 in
theorem gX5_isHour_X5_in : GoodIn wsX5_isHour (va_wsS RX5 72 yX5_in wsX5_in) := goodIn_app (goodIn_of _ (by decide +kernel)) ggX5_isHour_X5_in
theorem dX5_isHour_0 : decode cX5_isHour 0 = .ok (.iload_n 0, 1) := by decide +kernel
theorem dX5_isHour_1 : decode cX5_isHour 1 = .ok (.iconst 0, 1) := by decide +kernel
theorem dX5_isHour_2 : decode cX5_isHour 2 = .ok (.bipush 11, 2) := by decide +kernel
theorem dX5_isHour_4 : decode cX5_isHour 4 = .ok (.invokestatic 72, 3) := by decide +kernel
theorem dX5_isHour_7 : decode cX5_isHour 7 = .ok (.ireturn, 1) := by decide +kernel
theorem dX5_kind_0 : decode cX5_kind 0 = .ok (.aload_n 0, 1) := by decide +kernel
theorem dX5_kind_1 : decode cX5_kind 1 = .ok (.getfield 29, 3) := by decide +kernel
theorem dX5_kind_4 : decode cX5_kind 4 = .ok (.iconst 4, 1) := by decide +kernel
theorem dX5_kind_5 : decode cX5_kind 5 = .ok (.iload_n 1, 1) := by decide +kernel
theorem dX5_kind_6 : decode cX5_kind 6 = .ok (.imul, 1) := by decide +kernel
theorem dX5_kind_7 : decode cX5_kind 7 = .ok (.iaload, 1) := by decide +kernel
theorem dX5_kind_8 : decode cX5_kind 8 = .ok (.ireturn, 1) := by decide +kernel
theorem dX5_with_0 : decode cX5_with 0 = .ok (.aload_n 0, 1) := by decide +kernel
theorem dX5_with_1 : decode cX5_with 1 = .ok (.getfield 29, 3) := by decide +kernel
theorem dX5_with_4 : decode cX5_with 4 = .ok (.iconst 4, 1) := by decide +kernel
theorem dX5_with_5 : decode cX5_with 5 = .ok (.iload_n 1, 1) := by decide +kernel
theorem dX5_with_6 : decode cX5_with 6 = .ok (.imul, 1) := by decide +kernel
theorem dX5_with_7 : decode cX5_with 7 = .ok (.iconst 1, 1) := by decide +kernel
theorem dX5_with_8 : decode cX5_with 8 = .ok (.iadd, 1) := by decide +kernel
theorem dX5_with_9 : decode cX5_with 9 = .ok (.iaload, 1) := by decide +kernel
theorem dX5_with_10 : decode cX5_with 10 = .ok (.ireturn, 1) := by decide +kernel
set_option maxRecDepth 20000 in
theorem ggX5_isOut_X5_has : GoodIn wsX5_isOut wsX5_has := goodIn_r _ [5] (by decide +kernel) (by decide +kernel)
set_option maxRecDepth 20000 in
theorem gX5_isOut_X5_has : GoodIn wsX5_isOut (va_wsS RX5 149 yX5_has wsX5_has) := goodIn_app (goodIn_of _ (by decide +kernel)) ggX5_isOut_X5_has
theorem dX5_isOut_0 : decode cX5_isOut 0 = .ok (.aload_n 0, 1) := by decide +kernel
theorem dX5_isOut_1 : decode cX5_isOut 1 = .ok (.getfield 29, 3) := by decide +kernel
theorem dX5_isOut_4 : decode cX5_isOut 4 = .ok (.iconst 4, 1) := by decide +kernel
theorem dX5_isOut_5 : decode cX5_isOut 5 = .ok (.iload_n 1, 1) := by decide +kernel
theorem dX5_isOut_6 : decode cX5_isOut 6 = .ok (.imul, 1) := by decide +kernel
theorem dX5_isOut_7 : decode cX5_isOut 7 = .ok (.iconst 2, 1) := by decide +kernel
theorem dX5_isOut_8 : decode cX5_isOut 8 = .ok (.iadd, 1) := by decide +kernel
theorem dX5_isOut_9 : decode cX5_isOut 9 = .ok (.iaload, 1) := by decide +kernel
theorem dX5_isOut_10 : decode cX5_isOut 10 = .ok (.iload_n 2, 1) := by decide +kernel
theorem dX5_isOut_11 : decode cX5_isOut 11 = .ok (.invokestatic 149, 3) := by decide +kernel
theorem dX5_isOut_14 : decode cX5_isOut 14 = .ok (.ireturn, 1) := by decide +kernel
set_option maxRecDepth 20000 in
theorem ggX5_isDogIn_X5_kind : GoodIn wsX5_isDogIn wsX5_kind := goodIn_r _ [5, 6, 7, 8, 9, 10, 11, 12, 13, 14, 15, 16, 17, 18, 19, 20, 21, 22, 23, 24, 25, 26, 27, 28, 29, 30, 31, 32, 33, 34, 35, 36] (by decide +kernel) (by decide +kernel)
set_option maxRecDepth 20000 in
theorem gX5_isDogIn_X5_kind : GoodIn wsX5_isDogIn (wsV RX5 152 RX5 yX5_kind wsX5_kind) := goodIn_app (goodIn_of _ (by decide +kernel)) ggX5_isDogIn_X5_kind
theorem dX5_isDogIn_0 : decode cX5_isDogIn 0 = .ok (.aload_n 0, 1) := by decide +kernel
theorem dX5_isDogIn_1 : decode cX5_isDogIn 1 = .ok (.iload_n 1, 1) := by decide +kernel
theorem dX5_isDogIn_2 : decode cX5_isDogIn 2 = .ok (.invokevirtual 152, 3) := by decide +kernel
theorem dX5_isDogIn_5 : decode cX5_isDogIn 5 = .ok (.iconst 5, 1) := by decide +kernel
theorem dX5_isDogIn_6 : decode cX5_isDogIn 6 = .ok (.if_icmp .eq 18, 3) := by decide +kernel
theorem dX5_isDogIn_9 : decode cX5_isDogIn 9 = .ok (.aload_n 0, 1) := by decide +kernel
theorem dX5_isDogIn_10 : decode cX5_isDogIn 10 = .ok (.iload_n 1, 1) := by decide +kernel
theorem dX5_isDogIn_11 : decode cX5_isDogIn 11 = .ok (.invokevirtual 152, 3) := by decide +kernel
theorem dX5_isDogIn_14 : decode cX5_isDogIn 14 = .ok (.iconst 1, 1) := by decide +kernel
theorem dX5_isDogIn_15 : decode cX5_isDogIn 15 = .ok (.if_icmp .ne 13, 3) := by decide +kernel
theorem dX5_isDogIn_18 : decode cX5_isDogIn 18 = .ok (.iload_n 2, 1) := by decide +kernel
theorem dX5_isDogIn_19 : decode cX5_isDogIn 19 = .ok (.iconst 2, 1) := by decide +kernel
theorem dX5_isDogIn_20 : decode cX5_isDogIn 20 = .ok (.irem, 1) := by decide +kernel
theorem dX5_isDogIn_21 : decode cX5_isDogIn 21 = .ok (.ifCond .ne 7, 3) := by decide +kernel
theorem dX5_isDogIn_24 : decode cX5_isDogIn 24 = .ok (.iconst 1, 1) := by decide +kernel
theorem dX5_isDogIn_25 : decode cX5_isDogIn 25 = .ok (.goto 4, 3) := by decide +kernel
theorem dX5_isDogIn_28 : decode cX5_isDogIn 28 = .ok (.iconst 0, 1) := by decide +kernel
theorem dX5_isDogIn_29 : decode cX5_isDogIn 29 = .ok (.ireturn, 1) := by decide +kernel
set_option maxRecDepth 20000 in
theorem ggX5_isShared_X5_kind : GoodIn wsX5_isShared wsX5_kind := goodIn_r _ [5, 6, 7, 8, 9, 10, 11, 12, 13, 14, 15, 16, 17, 18, 19, 20, 21, 22, 23, 24, 25, 26, 27, 28, 29, 30, 31, 32, 33, 34, 35, 36] (by decide +kernel) (by decide +kernel)
set_option maxRecDepth 20000 in
theorem gX5_isShared_X5_kind : GoodIn wsX5_isShared (wsV RX5 152 RX5 yX5_kind wsX5_kind) := goodIn_app (goodIn_of _ (by decide +kernel)) ggX5_isShared_X5_kind
theorem dX5_isShared_0 : decode cX5_isShared 0 = .ok (.aload_n 0, 1) := by decide +kernel
theorem dX5_isShared_1 : decode cX5_isShared 1 = .ok (.iload_n 1, 1) := by decide +kernel
theorem dX5_isShared_2 : decode cX5_isShared 2 = .ok (.invokevirtual 152, 3) := by decide +kernel
theorem dX5_isShared_5 : decode cX5_isShared 5 = .ok (.iconst 3, 1) := by decide +kernel
theorem dX5_isShared_6 : decode cX5_isShared 6 = .ok (.if_icmp .eq 12, 3) := by decide +kernel
theorem dX5_isShared_9 : decode cX5_isShared 9 = .ok (.aload_n 0, 1) := by decide +kernel
theorem dX5_isShared_10 : decode cX5_isShared 10 = .ok (.iload_n 1, 1) := by decide +kernel
theorem dX5_isShared_11 : decode cX5_isShared 11 = .ok (.invokevirtual 152, 3) := by decide +kernel
theorem dX5_isShared_14 : decode cX5_isShared 14 = .ok (.iconst 4, 1) := by decide +kernel
theorem dX5_isShared_15 : decode cX5_isShared 15 = .ok (.if_icmp .ne 7, 3) := by decide +kernel
theorem dX5_isShared_18 : decode cX5_isShared 18 = .ok (.iconst 1, 1) := by decide +kernel
theorem dX5_isShared_19 : decode cX5_isShared 19 = .ok (.goto 4, 3) := by decide +kernel
theorem dX5_isShared_22 : decode cX5_isShared 22 = .ok (.iconst 0, 1) := by decide +kernel
theorem dX5_isShared_23 : decode cX5_isShared 23 = .ok (.ireturn, 1) := by decide +kernel
theorem dX5_debtAt_0 : decode cX5_debtAt 0 = .ok (.aload_n 0, 1) := by decide +kernel
theorem dX5_debtAt_1 : decode cX5_debtAt 1 = .ok (.getfield 32, 3) := by decide +kernel
theorem dX5_debtAt_4 : decode cX5_debtAt 4 = .ok (.iconst 5, 1) := by decide +kernel
theorem dX5_debtAt_5 : decode cX5_debtAt 5 = .ok (.iload_n 1, 1) := by decide +kernel
theorem dX5_debtAt_6 : decode cX5_debtAt 6 = .ok (.imul, 1) := by decide +kernel
theorem dX5_debtAt_7 : decode cX5_debtAt 7 = .ok (.iload_n 2, 1) := by decide +kernel
theorem dX5_debtAt_8 : decode cX5_debtAt 8 = .ok (.iadd, 1) := by decide +kernel
theorem dX5_debtAt_9 : decode cX5_debtAt 9 = .ok (.iaload, 1) := by decide +kernel
theorem dX5_debtAt_10 : decode cX5_debtAt 10 = .ok (.ireturn, 1) := by decide +kernel
set_option maxRecDepth 20000 in
theorem ggX5_one_X5_isOne : GoodIn wsX5_one wsX5_isOne := goodIn_r _ [6, 7, 8, 9, 5, 10, 16, 17, 18, 19, 20, 21, 22, 23, 24, 25, 26, 27, 28, 29, 30, 31, 32, 33, 34, 35, 36, 37, 38, 39, 40, 41, 42, 43, 44, 45] (by decide +kernel) (by decide +kernel)
set_option maxRecDepth 20000 in
theorem gX5_one_X5_isOne : GoodIn wsX5_one (wsV RX5 155 RX5 yX5_isOne wsX5_isOne) := goodIn_app (goodIn_of _ (by decide +kernel)) ggX5_one_X5_isOne
set_option maxRecDepth 20000 in
theorem ggX5_one_X5_in : GoodIn wsX5_one wsX5_in := goodIn_r _ [10] (by decide +kernel) (by decide +kernel)
set_option maxRecDepth 20000 in
theorem gX5_one_X5_in : GoodIn wsX5_one (va_wsS RX5 72 yX5_in wsX5_in) := goodIn_app (goodIn_of _ (by decide +kernel)) ggX5_one_X5_in
set_option maxRecDepth 20000 in
theorem ggX5_one_X5_tells : GoodIn wsX5_one wsX5_tells := goodIn_r _ [14, 15, 16, 17, 18, 19, 20, 21, 22, 23, 24, 25, 26, 27, 28, 29, 30, 31, 32, 33, 34, 35, 36, 37, 38, 39, 40, 41, 42, 43, 44, 45] (by decide +kernel) (by decide +kernel)
set_option maxRecDepth 20000 in
theorem gX5_one_X5_tells : GoodIn wsX5_one (wsV RX5 94 RX5 yX5_tells wsX5_tells) := goodIn_app (goodIn_of _ (by decide +kernel)) ggX5_one_X5_tells
theorem dX5_one_0 : decode cX5_one 0 = .ok (.aload_n 0, 1) := by decide +kernel
theorem dX5_one_1 : decode cX5_one 1 = .ok (.iload_n 1, 1) := by decide +kernel
theorem dX5_one_2 : decode cX5_one 2 = .ok (.invokevirtual 155, 3) := by decide +kernel
theorem dX5_one_5 : decode cX5_one 5 = .ok (.ifCond .eq 30, 3) := by decide +kernel
theorem dX5_one_8 : decode cX5_one 8 = .ok (.iload_n 2, 1) := by decide +kernel
theorem dX5_one_9 : decode cX5_one 9 = .ok (.iconst 0, 1) := by decide +kernel
theorem dX5_one_10 : decode cX5_one 10 = .ok (.iconst 3, 1) := by decide +kernel
theorem dX5_one_11 : decode cX5_one 11 = .ok (.invokestatic 72, 3) := by decide +kernel
theorem dX5_one_14 : decode cX5_one 14 = .ok (.ifCond .eq 21, 3) := by decide +kernel
theorem dX5_one_17 : decode cX5_one 17 = .ok (.aload_n 0, 1) := by decide +kernel
theorem dX5_one_18 : decode cX5_one 18 = .ok (.aload_n 0, 1) := by decide +kernel
theorem dX5_one_19 : decode cX5_one 19 = .ok (.getfield 29, 3) := by decide +kernel
theorem dX5_one_22 : decode cX5_one 22 = .ok (.iconst 4, 1) := by decide +kernel
theorem dX5_one_23 : decode cX5_one 23 = .ok (.iload_n 1, 1) := by decide +kernel
theorem dX5_one_24 : decode cX5_one 24 = .ok (.imul, 1) := by decide +kernel
theorem dX5_one_25 : decode cX5_one 25 = .ok (.iload_n 2, 1) := by decide +kernel
theorem dX5_one_26 : decode cX5_one 26 = .ok (.iadd, 1) := by decide +kernel
theorem dX5_one_27 : decode cX5_one 27 = .ok (.iaload, 1) := by decide +kernel
theorem dX5_one_28 : decode cX5_one 28 = .ok (.iconst 1, 1) := by decide +kernel
theorem dX5_one_29 : decode cX5_one 29 = .ok (.invokevirtual 94, 3) := by decide +kernel
theorem dX5_one_32 : decode cX5_one 32 = .ok (.goto 4, 3) := by decide +kernel
theorem dX5_one_35 : decode cX5_one 35 = .ok (.iconst (-1), 1) := by decide +kernel
theorem dX5_one_36 : decode cX5_one 36 = .ok (.ireturn, 1) := by decide +kernel
set_option maxRecDepth 20000 in
theorem ggX5_outHours_X5_isOut : GoodIn wsX5_outHours wsX5_isOut := goodIn_r _ [5, 6, 7, 8, 4, 9, 18, 19, 20, 21, 22, 23, 24, 25, 26, 27, 28, 29, 30, 31, 32, 33, 34, 35, 36, 37, 38, 39, 40, 41, 42, 43, 44, 45, 46, 47] (by decide +kernel) (by decide +kernel)
set_option maxRecDepth 20000 in
theorem gX5_outHours_X5_isOut : GoodIn wsX5_outHours (wsV RX5 158 RX5 yX5_isOut wsX5_isOut) := goodIn_app (goodIn_of _ (by decide +kernel)) ggX5_outHours_X5_isOut
set_option maxRecDepth 20000 in
theorem ggX5_outHours_X5_isDogIn : GoodIn wsX5_outHours wsX5_isDogIn := goodIn_r _ [13, 14, 15, 16, 4, 17, 6, 18, 19, 20, 21, 22, 23, 24, 25, 26, 27, 28, 29, 30, 31, 32, 33, 34, 35, 36, 37, 38, 39, 40, 41, 42, 43, 44, 45, 46, 47] (by decide +kernel) (by decide +kernel)
set_option maxRecDepth 20000 in
theorem gX5_outHours_X5_isDogIn : GoodIn wsX5_outHours (wsV RX5 161 RX5 yX5_isDogIn wsX5_isDogIn) := goodIn_app (goodIn_of _ (by decide +kernel)) ggX5_outHours_X5_isDogIn
theorem dX5_outHours_0 : decode cX5_outHours 0 = .ok (.iconst 0, 1) := by decide +kernel
theorem dX5_outHours_1 : decode cX5_outHours 1 = .ok (.istore_n 3, 1) := by decide +kernel
theorem dX5_outHours_2 : decode cX5_outHours 2 = .ok (.iconst 0, 1) := by decide +kernel
theorem dX5_outHours_3 : decode cX5_outHours 3 = .ok (.istore 4, 2) := by decide +kernel
theorem dX5_outHours_5 : decode cX5_outHours 5 = .ok (.iload 4, 2) := by decide +kernel
theorem dX5_outHours_7 : decode cX5_outHours 7 = .ok (.bipush 12, 2) := by decide +kernel
theorem dX5_outHours_9 : decode cX5_outHours 9 = .ok (.if_icmp .ge 41, 3) := by decide +kernel
theorem dX5_outHours_12 : decode cX5_outHours 12 = .ok (.iload_n 3, 1) := by decide +kernel
theorem dX5_outHours_13 : decode cX5_outHours 13 = .ok (.aload_n 0, 1) := by decide +kernel
theorem dX5_outHours_14 : decode cX5_outHours 14 = .ok (.iload_n 1, 1) := by decide +kernel
theorem dX5_outHours_15 : decode cX5_outHours 15 = .ok (.iload 4, 2) := by decide +kernel
theorem dX5_outHours_17 : decode cX5_outHours 17 = .ok (.invokevirtual 158, 3) := by decide +kernel
theorem dX5_outHours_20 : decode cX5_outHours 20 = .ok (.ifCond .eq 21, 3) := by decide +kernel
theorem dX5_outHours_23 : decode cX5_outHours 23 = .ok (.iload_n 2, 1) := by decide +kernel
theorem dX5_outHours_24 : decode cX5_outHours 24 = .ok (.ifCond .eq 13, 3) := by decide +kernel
theorem dX5_outHours_27 : decode cX5_outHours 27 = .ok (.aload_n 0, 1) := by decide +kernel
theorem dX5_outHours_28 : decode cX5_outHours 28 = .ok (.iload_n 1, 1) := by decide +kernel
theorem dX5_outHours_29 : decode cX5_outHours 29 = .ok (.iload 4, 2) := by decide +kernel
theorem dX5_outHours_31 : decode cX5_outHours 31 = .ok (.invokevirtual 161, 3) := by decide +kernel
theorem dX5_outHours_34 : decode cX5_outHours 34 = .ok (.ifCond .eq 7, 3) := by decide +kernel
theorem dX5_outHours_37 : decode cX5_outHours 37 = .ok (.iconst 1, 1) := by decide +kernel
theorem dX5_outHours_38 : decode cX5_outHours 38 = .ok (.goto 4, 3) := by decide +kernel
theorem dX5_outHours_41 : decode cX5_outHours 41 = .ok (.iconst 0, 1) := by decide +kernel
theorem dX5_outHours_42 : decode cX5_outHours 42 = .ok (.iadd, 1) := by decide +kernel
theorem dX5_outHours_43 : decode cX5_outHours 43 = .ok (.istore_n 3, 1) := by decide +kernel
theorem dX5_outHours_44 : decode cX5_outHours 44 = .ok (.iinc 4 1, 3) := by decide +kernel
theorem dX5_outHours_47 : decode cX5_outHours 47 = .ok (.goto (-42), 3) := by decide +kernel
theorem dX5_outHours_50 : decode cX5_outHours 50 = .ok (.iload_n 3, 1) := by decide +kernel
theorem dX5_outHours_51 : decode cX5_outHours 51 = .ok (.ireturn, 1) := by decide +kernel
set_option maxRecDepth 20000 in
theorem ggX5_owedTo_X5_debtAt : GoodIn wsX5_owedTo wsX5_debtAt := goodIn_r _ [6, 7, 8, 9, 10, 11, 12, 13, 14, 15, 16, 17, 18, 19, 20, 21, 22, 23, 24, 25, 26, 27, 28, 29, 30, 31, 32, 33, 34, 35, 36, 37] (by decide +kernel) (by decide +kernel)
set_option maxRecDepth 20000 in
theorem gX5_owedTo_X5_debtAt : GoodIn wsX5_owedTo (wsV RX5 164 RX5 yX5_debtAt wsX5_debtAt) := goodIn_app (goodIn_of _ (by decide +kernel)) ggX5_owedTo_X5_debtAt
theorem dX5_owedTo_0 : decode cX5_owedTo 0 = .ok (.iconst 0, 1) := by decide +kernel
theorem dX5_owedTo_1 : decode cX5_owedTo 1 = .ok (.istore_n 2, 1) := by decide +kernel
theorem dX5_owedTo_2 : decode cX5_owedTo 2 = .ok (.iconst 0, 1) := by decide +kernel
theorem dX5_owedTo_3 : decode cX5_owedTo 3 = .ok (.istore_n 3, 1) := by decide +kernel
theorem dX5_owedTo_4 : decode cX5_owedTo 4 = .ok (.iload_n 3, 1) := by decide +kernel
theorem dX5_owedTo_5 : decode cX5_owedTo 5 = .ok (.aload_n 0, 1) := by decide +kernel
theorem dX5_owedTo_6 : decode cX5_owedTo 6 = .ok (.getfield 143, 3) := by decide +kernel
theorem dX5_owedTo_9 : decode cX5_owedTo 9 = .ok (.if_icmp .ge 27, 3) := by decide +kernel
theorem dX5_owedTo_12 : decode cX5_owedTo 12 = .ok (.iload_n 2, 1) := by decide +kernel
theorem dX5_owedTo_13 : decode cX5_owedTo 13 = .ok (.aload_n 0, 1) := by decide +kernel
theorem dX5_owedTo_14 : decode cX5_owedTo 14 = .ok (.iload_n 3, 1) := by decide +kernel
theorem dX5_owedTo_15 : decode cX5_owedTo 15 = .ok (.iconst 1, 1) := by decide +kernel
theorem dX5_owedTo_16 : decode cX5_owedTo 16 = .ok (.invokevirtual 164, 3) := by decide +kernel
theorem dX5_owedTo_19 : decode cX5_owedTo 19 = .ok (.iload_n 1, 1) := by decide +kernel
theorem dX5_owedTo_20 : decode cX5_owedTo 20 = .ok (.if_icmp .ne 7, 3) := by decide +kernel
theorem dX5_owedTo_23 : decode cX5_owedTo 23 = .ok (.iconst 1, 1) := by decide +kernel
theorem dX5_owedTo_24 : decode cX5_owedTo 24 = .ok (.goto 4, 3) := by decide +kernel
theorem dX5_owedTo_27 : decode cX5_owedTo 27 = .ok (.iconst 0, 1) := by decide +kernel
theorem dX5_owedTo_28 : decode cX5_owedTo 28 = .ok (.iadd, 1) := by decide +kernel
theorem dX5_owedTo_29 : decode cX5_owedTo 29 = .ok (.istore_n 2, 1) := by decide +kernel
theorem dX5_owedTo_30 : decode cX5_owedTo 30 = .ok (.iinc 3 1, 3) := by decide +kernel
theorem dX5_owedTo_33 : decode cX5_owedTo 33 = .ok (.goto (-29), 3) := by decide +kernel
theorem dX5_owedTo_36 : decode cX5_owedTo 36 = .ok (.iload_n 2, 1) := by decide +kernel
theorem dX5_owedTo_37 : decode cX5_owedTo 37 = .ok (.ireturn, 1) := by decide +kernel
set_option maxRecDepth 20000 in
theorem ggX5_mark_X5_isOne : GoodIn wsX5_mark wsX5_isOne := goodIn_r _ [6, 7, 8, 9, 5, 10, 53, 54, 55, 56, 57, 58, 59, 60, 61, 62, 63, 64, 65, 66, 67, 68, 69, 70, 71, 72, 73, 74, 75, 76, 77, 78, 79, 80, 81, 82] (by decide +kernel) (by decide +kernel)
set_option maxRecDepth 20000 in
theorem gX5_mark_X5_isOne : GoodIn wsX5_mark (wsV RX5 155 RX5 yX5_isOne wsX5_isOne) := goodIn_app (goodIn_of _ (by decide +kernel)) ggX5_mark_X5_isOne
set_option maxRecDepth 20000 in
theorem ggX5_mark_X5_in : GoodIn wsX5_mark wsX5_in := goodIn_r _ [10] (by decide +kernel) (by decide +kernel)
set_option maxRecDepth 20000 in
theorem gX5_mark_X5_in : GoodIn wsX5_mark (va_wsS RX5 72 yX5_in wsX5_in) := goodIn_app (goodIn_of _ (by decide +kernel)) ggX5_mark_X5_in
set_option maxRecDepth 20000 in
theorem ggX5_mark_X5_kind : GoodIn wsX5_mark wsX5_kind := goodIn_r _ [14, 1, 53, 54, 55, 56, 57, 58, 59, 60, 61, 62, 63, 64, 65, 66, 67, 68, 69, 70, 71, 72, 73, 74, 75, 76, 77, 78, 79, 80, 81, 82] (by decide +kernel) (by decide +kernel)
set_option maxRecDepth 20000 in
theorem gX5_mark_X5_kind : GoodIn wsX5_mark (wsV RX5 152 RX5 yX5_kind wsX5_kind) := goodIn_app (goodIn_of _ (by decide +kernel)) ggX5_mark_X5_kind
set_option maxRecDepth 20000 in
theorem ggX5_mark_X5_meets : GoodIn wsX5_mark wsX5_meets := goodIn_r _ [18, 19, 20, 53, 54, 55, 56, 57, 58, 59, 60, 61, 62, 63, 64, 65, 66, 67, 68, 69, 70, 71, 72, 73, 74, 75, 76, 77, 78, 79, 80, 81, 82] (by decide +kernel) (by decide +kernel)
set_option maxRecDepth 20000 in
theorem gX5_mark_X5_meets : GoodIn wsX5_mark (wsV RX5 86 RX5 yX5_meets wsX5_meets) := goodIn_app (goodIn_of _ (by decide +kernel)) ggX5_mark_X5_meets
set_option maxRecDepth 20000 in
theorem ggX5_mark_X5_outHours : GoodIn wsX5_mark wsX5_outHours := goodIn_r _ [24, 25, 26, 27, 5, 28, 1, 29, 30, 31, 32, 33, 34, 35, 11, 12, 13, 14, 53, 54, 55, 56, 57, 58, 59, 60, 61, 62, 63, 64, 65, 66, 67, 68, 69, 70, 71, 72, 73, 74, 75, 76, 77, 78, 79, 80, 81, 82] (by decide +kernel) (by decide +kernel)
set_option maxRecDepth 20000 in
theorem gX5_mark_X5_outHours : GoodIn wsX5_mark (wsV RX5 167 RX5 yX5_outHours wsX5_outHours) := goodIn_app (goodIn_of _ (by decide +kernel)) ggX5_mark_X5_outHours
set_option maxRecDepth 20000 in
theorem ggX5_mark_X5_owedTo : GoodIn wsX5_mark wsX5_owedTo := goodIn_r _ [39, 40, 41, 42, 43, 5, 44, 45, 53, 54, 55, 56, 57, 58, 59, 60, 61, 62, 63, 64, 65, 66, 67, 68, 69, 70, 71, 72, 73, 74, 75, 76, 77, 78, 79, 80, 81, 82] (by decide +kernel) (by decide +kernel)
set_option maxRecDepth 20000 in
theorem gX5_mark_X5_owedTo : GoodIn wsX5_mark (wsV RX5 171 RX5 yX5_owedTo wsX5_owedTo) := goodIn_app (goodIn_of _ (by decide +kernel)) ggX5_mark_X5_owedTo
set_option maxRecDepth 20000 in
theorem ggX5_mark_X5_with : GoodIn wsX5_mark wsX5_with := goodIn_r _ [49, 1, 53, 54, 55, 56, 57, 58, 59, 60, 61, 62, 63, 64, 65, 66, 67, 68, 69, 70, 71, 72, 73, 74, 75, 76, 77, 78, 79, 80, 81, 82] (by decide +kernel) (by decide +kernel)
set_option maxRecDepth 20000 in
theorem gX5_mark_X5_with : GoodIn wsX5_mark (wsV RX5 174 RX5 yX5_with wsX5_with) := goodIn_app (goodIn_of _ (by decide +kernel)) ggX5_mark_X5_with
set_option maxRecDepth 20000 in
theorem ggX5_mark_X5_bits : GoodIn wsX5_mark wsX5_bits := goodIn_r _ [52] (by decide +kernel) (by decide +kernel)
set_option maxRecDepth 20000 in
theorem gX5_mark_X5_bits : GoodIn wsX5_mark (va_wsS RX5 177 yX5_bits wsX5_bits) := goodIn_app (goodIn_of _ (by decide +kernel)) ggX5_mark_X5_bits
theorem dX5_mark_0 : decode cX5_mark 0 = .ok (.aload_n 0, 1) := by decide +kernel
theorem dX5_mark_1 : decode cX5_mark 1 = .ok (.iload_n 1, 1) := by decide +kernel
theorem dX5_mark_2 : decode cX5_mark 2 = .ok (.invokevirtual 155, 3) := by decide +kernel
theorem dX5_mark_5 : decode cX5_mark 5 = .ok (.ifCond .eq 12, 3) := by decide +kernel
theorem dX5_mark_8 : decode cX5_mark 8 = .ok (.iload_n 2, 1) := by decide +kernel
theorem dX5_mark_9 : decode cX5_mark 9 = .ok (.iconst 1, 1) := by decide +kernel
theorem dX5_mark_10 : decode cX5_mark 10 = .ok (.iconst 5, 1) := by decide +kernel
theorem dX5_mark_11 : decode cX5_mark 11 = .ok (.invokestatic 72, 3) := by decide +kernel
theorem dX5_mark_14 : decode cX5_mark 14 = .ok (.ifCond .ne 5, 3) := by decide +kernel
theorem dX5_mark_17 : decode cX5_mark 17 = .ok (.iconst (-1), 1) := by decide +kernel
theorem dX5_mark_18 : decode cX5_mark 18 = .ok (.ireturn, 1) := by decide +kernel
theorem dX5_mark_19 : decode cX5_mark 19 = .ok (.aload_n 0, 1) := by decide +kernel
theorem dX5_mark_20 : decode cX5_mark 20 = .ok (.iload_n 1, 1) := by decide +kernel
theorem dX5_mark_21 : decode cX5_mark 21 = .ok (.invokevirtual 152, 3) := by decide +kernel
theorem dX5_mark_24 : decode cX5_mark 24 = .ok (.istore_n 3, 1) := by decide +kernel
theorem dX5_mark_25 : decode cX5_mark 25 = .ok (.iload_n 3, 1) := by decide +kernel
theorem dX5_mark_26 : decode cX5_mark 26 = .ok (.iload_n 2, 1) := by decide +kernel
theorem dX5_mark_27 : decode cX5_mark 27 = .ok (.if_icmp .eq 29, 3) := by decide +kernel
theorem dX5_mark_30 : decode cX5_mark 30 = .ok (.iload_n 2, 1) := by decide +kernel
theorem dX5_mark_31 : decode cX5_mark 31 = .ok (.iconst 1, 1) := by decide +kernel
theorem dX5_mark_32 : decode cX5_mark 32 = .ok (.if_icmp .ne 8, 3) := by decide +kernel
theorem dX5_mark_35 : decode cX5_mark 35 = .ok (.iload_n 3, 1) := by decide +kernel
theorem dX5_mark_36 : decode cX5_mark 36 = .ok (.iconst 5, 1) := by decide +kernel
theorem dX5_mark_37 : decode cX5_mark 37 = .ok (.if_icmp .eq 19, 3) := by decide +kernel
theorem dX5_mark_40 : decode cX5_mark 40 = .ok (.iload_n 2, 1) := by decide +kernel
theorem dX5_mark_41 : decode cX5_mark 41 = .ok (.iconst 3, 1) := by decide +kernel
theorem dX5_mark_42 : decode cX5_mark 42 = .ok (.if_icmp .ne 8, 3) := by decide +kernel
theorem dX5_mark_45 : decode cX5_mark 45 = .ok (.iload_n 3, 1) := by decide +kernel
theorem dX5_mark_46 : decode cX5_mark 46 = .ok (.iconst 4, 1) := by decide +kernel
theorem dX5_mark_47 : decode cX5_mark 47 = .ok (.if_icmp .eq 9, 3) := by decide +kernel
theorem dX5_mark_50 : decode cX5_mark 50 = .ok (.aload_n 0, 1) := by decide +kernel
theorem dX5_mark_51 : decode cX5_mark 51 = .ok (.iconst 3, 1) := by decide +kernel
theorem dX5_mark_52 : decode cX5_mark 52 = .ok (.invokevirtual 86, 3) := by decide +kernel
theorem dX5_mark_55 : decode cX5_mark 55 = .ok (.ireturn, 1) := by decide +kernel
theorem dX5_mark_56 : decode cX5_mark 56 = .ok (.iload_n 2, 1) := by decide +kernel
theorem dX5_mark_57 : decode cX5_mark 57 = .ok (.tableswitch 79 1 4 #[31, 38, 44, 50], 31) := by decide +kernel
theorem dX5_mark_88 : decode cX5_mark 88 = .ok (.aload_n 0, 1) := by decide +kernel
theorem dX5_mark_89 : decode cX5_mark 89 = .ok (.iload_n 1, 1) := by decide +kernel
theorem dX5_mark_90 : decode cX5_mark 90 = .ok (.iconst 1, 1) := by decide +kernel
theorem dX5_mark_91 : decode cX5_mark 91 = .ok (.invokevirtual 167, 3) := by decide +kernel
theorem dX5_mark_94 : decode cX5_mark 94 = .ok (.ireturn, 1) := by decide +kernel
theorem dX5_mark_95 : decode cX5_mark 95 = .ok (.aload_n 0, 1) := by decide +kernel
theorem dX5_mark_96 : decode cX5_mark 96 = .ok (.iload_n 1, 1) := by decide +kernel
theorem dX5_mark_97 : decode cX5_mark 97 = .ok (.invokevirtual 171, 3) := by decide +kernel
theorem dX5_mark_100 : decode cX5_mark 100 = .ok (.ireturn, 1) := by decide +kernel
theorem dX5_mark_101 : decode cX5_mark 101 = .ok (.aload_n 0, 1) := by decide +kernel
theorem dX5_mark_102 : decode cX5_mark 102 = .ok (.iload_n 1, 1) := by decide +kernel
theorem dX5_mark_103 : decode cX5_mark 103 = .ok (.invokevirtual 174, 3) := by decide +kernel
theorem dX5_mark_106 : decode cX5_mark 106 = .ok (.ireturn, 1) := by decide +kernel
theorem dX5_mark_107 : decode cX5_mark 107 = .ok (.aload_n 0, 1) := by decide +kernel
theorem dX5_mark_108 : decode cX5_mark 108 = .ok (.getfield 29, 3) := by decide +kernel
theorem dX5_mark_111 : decode cX5_mark 111 = .ok (.iconst 4, 1) := by decide +kernel
theorem dX5_mark_112 : decode cX5_mark 112 = .ok (.iload_n 1, 1) := by decide +kernel
theorem dX5_mark_113 : decode cX5_mark 113 = .ok (.imul, 1) := by decide +kernel
theorem dX5_mark_114 : decode cX5_mark 114 = .ok (.iconst 2, 1) := by decide +kernel
theorem dX5_mark_115 : decode cX5_mark 115 = .ok (.iadd, 1) := by decide +kernel
theorem dX5_mark_116 : decode cX5_mark 116 = .ok (.iaload, 1) := by decide +kernel
theorem dX5_mark_117 : decode cX5_mark 117 = .ok (.aload_n 0, 1) := by decide +kernel
theorem dX5_mark_118 : decode cX5_mark 118 = .ok (.getfield 29, 3) := by decide +kernel
theorem dX5_mark_121 : decode cX5_mark 121 = .ok (.iconst 4, 1) := by decide +kernel
theorem dX5_mark_122 : decode cX5_mark 122 = .ok (.aload_n 0, 1) := by decide +kernel
theorem dX5_mark_123 : decode cX5_mark 123 = .ok (.iload_n 1, 1) := by decide +kernel
theorem dX5_mark_124 : decode cX5_mark 124 = .ok (.invokevirtual 174, 3) := by decide +kernel
theorem dX5_mark_127 : decode cX5_mark 127 = .ok (.imul, 1) := by decide +kernel
theorem dX5_mark_128 : decode cX5_mark 128 = .ok (.iconst 2, 1) := by decide +kernel
theorem dX5_mark_129 : decode cX5_mark 129 = .ok (.iadd, 1) := by decide +kernel
theorem dX5_mark_130 : decode cX5_mark 130 = .ok (.iaload, 1) := by decide +kernel
theorem dX5_mark_131 : decode cX5_mark 131 = .ok (.ixor, 1) := by decide +kernel
theorem dX5_mark_132 : decode cX5_mark 132 = .ok (.invokestatic 177, 3) := by decide +kernel
theorem dX5_mark_135 : decode cX5_mark 135 = .ok (.ireturn, 1) := by decide +kernel
theorem dX5_mark_136 : decode cX5_mark 136 = .ok (.aload_n 0, 1) := by decide +kernel
theorem dX5_mark_137 : decode cX5_mark 137 = .ok (.iload_n 1, 1) := by decide +kernel
theorem dX5_mark_138 : decode cX5_mark 138 = .ok (.iconst 0, 1) := by decide +kernel
theorem dX5_mark_139 : decode cX5_mark 139 = .ok (.invokevirtual 167, 3) := by decide +kernel
theorem dX5_mark_142 : decode cX5_mark 142 = .ok (.ireturn, 1) := by decide +kernel
set_option maxRecDepth 20000 in
theorem ggX5_debt_X5_isDebt : GoodIn wsX5_debt wsX5_isDebt := goodIn_r _ [5, 6, 7, 8, 4, 9, 20, 21, 22, 23, 24, 25, 26, 27, 28, 29, 30, 31, 32, 33, 34, 35, 36, 37, 38, 39, 40, 41, 42, 43, 44, 45, 46, 47, 48, 49] (by decide +kernel) (by decide +kernel)
set_option maxRecDepth 20000 in
theorem gX5_debt_X5_isDebt : GoodIn wsX5_debt (wsV RX5 180 RX5 yX5_isDebt wsX5_isDebt) := goodIn_app (goodIn_of _ (by decide +kernel)) ggX5_debt_X5_isDebt
set_option maxRecDepth 20000 in
theorem ggX5_debt_X5_in : GoodIn wsX5_debt wsX5_in := goodIn_r _ [9] (by decide +kernel) (by decide +kernel)
set_option maxRecDepth 20000 in
theorem gX5_debt_X5_in : GoodIn wsX5_debt (va_wsS RX5 72 yX5_in wsX5_in) := goodIn_app (goodIn_of _ (by decide +kernel)) ggX5_debt_X5_in
set_option maxRecDepth 20000 in
theorem ggX5_debt_X5_debtAt : GoodIn wsX5_debt wsX5_debtAt := goodIn_r _ [13, 14, 20, 21, 22, 23, 24, 25, 26, 27, 28, 29, 30, 31, 32, 33, 34, 35, 36, 37, 38, 39, 40, 41, 42, 43, 44, 45, 46, 47, 48, 49] (by decide +kernel) (by decide +kernel)
set_option maxRecDepth 20000 in
theorem gX5_debt_X5_debtAt : GoodIn wsX5_debt (wsV RX5 164 RX5 yX5_debtAt wsX5_debtAt) := goodIn_app (goodIn_of _ (by decide +kernel)) ggX5_debt_X5_debtAt
set_option maxRecDepth 20000 in
theorem ggX5_debt_X5_tells : GoodIn wsX5_debt wsX5_tells := goodIn_r _ [18, 19, 20, 21, 22, 23, 24, 25, 26, 27, 28, 29, 30, 31, 32, 33, 34, 35, 36, 37, 38, 39, 40, 41, 42, 43, 44, 45, 46, 47, 48, 49] (by decide +kernel) (by decide +kernel)
set_option maxRecDepth 20000 in
theorem gX5_debt_X5_tells : GoodIn wsX5_debt (wsV RX5 94 RX5 yX5_tells wsX5_tells) := goodIn_app (goodIn_of _ (by decide +kernel)) ggX5_debt_X5_tells
theorem dX5_debt_0 : decode cX5_debt 0 = .ok (.aload_n 0, 1) := by decide +kernel
theorem dX5_debt_1 : decode cX5_debt 1 = .ok (.iload_n 1, 1) := by decide +kernel
theorem dX5_debt_2 : decode cX5_debt 2 = .ok (.invokevirtual 180, 3) := by decide +kernel
theorem dX5_debt_5 : decode cX5_debt 5 = .ok (.ifCond .eq 26, 3) := by decide +kernel
theorem dX5_debt_8 : decode cX5_debt 8 = .ok (.iload_n 2, 1) := by decide +kernel
theorem dX5_debt_9 : decode cX5_debt 9 = .ok (.iconst 0, 1) := by decide +kernel
theorem dX5_debt_10 : decode cX5_debt 10 = .ok (.iconst 4, 1) := by decide +kernel
theorem dX5_debt_11 : decode cX5_debt 11 = .ok (.invokestatic 72, 3) := by decide +kernel
theorem dX5_debt_14 : decode cX5_debt 14 = .ok (.ifCond .eq 17, 3) := by decide +kernel
theorem dX5_debt_17 : decode cX5_debt 17 = .ok (.aload_n 0, 1) := by decide +kernel
theorem dX5_debt_18 : decode cX5_debt 18 = .ok (.aload_n 0, 1) := by decide +kernel
theorem dX5_debt_19 : decode cX5_debt 19 = .ok (.iload_n 1, 1) := by decide +kernel
theorem dX5_debt_20 : decode cX5_debt 20 = .ok (.iload_n 2, 1) := by decide +kernel
theorem dX5_debt_21 : decode cX5_debt 21 = .ok (.invokevirtual 164, 3) := by decide +kernel
theorem dX5_debt_24 : decode cX5_debt 24 = .ok (.iconst 1, 1) := by decide +kernel
theorem dX5_debt_25 : decode cX5_debt 25 = .ok (.invokevirtual 94, 3) := by decide +kernel
theorem dX5_debt_28 : decode cX5_debt 28 = .ok (.goto 4, 3) := by decide +kernel
theorem dX5_debt_31 : decode cX5_debt 31 = .ok (.iconst (-1), 1) := by decide +kernel
theorem dX5_debt_32 : decode cX5_debt 32 = .ok (.ireturn, 1) := by decide +kernel
set_option maxRecDepth 20000 in
theorem ggX5_law_X5_in : GoodIn wsX5_law wsX5_in := goodIn_r _ [5] (by decide +kernel) (by decide +kernel)
set_option maxRecDepth 20000 in
theorem gX5_law_X5_in : GoodIn wsX5_law (va_wsS RX5 72 yX5_in wsX5_in) := goodIn_app (goodIn_of _ (by decide +kernel)) ggX5_law_X5_in
theorem dX5_law_0 : decode cX5_law 0 = .ok (.iload_n 1, 1) := by decide +kernel
theorem dX5_law_1 : decode cX5_law 1 = .ok (.iconst 0, 1) := by decide +kernel
theorem dX5_law_2 : decode cX5_law 2 = .ok (.iconst 3, 1) := by decide +kernel
theorem dX5_law_3 : decode cX5_law 3 = .ok (.invokestatic 72, 3) := by decide +kernel
theorem dX5_law_6 : decode cX5_law 6 = .ok (.ifCond .ne 5, 3) := by decide +kernel
theorem dX5_law_9 : decode cX5_law 9 = .ok (.iconst (-1), 1) := by decide +kernel
theorem dX5_law_10 : decode cX5_law 10 = .ok (.ireturn, 1) := by decide +kernel
theorem dX5_law_11 : decode cX5_law 11 = .ok (.aload_n 0, 1) := by decide +kernel
theorem dX5_law_12 : decode cX5_law 12 = .ok (.getfield 146, 3) := by decide +kernel
theorem dX5_law_15 : decode cX5_law 15 = .ok (.istore_n 2, 1) := by decide +kernel
theorem dX5_law_16 : decode cX5_law 16 = .ok (.aload_n 0, 1) := by decide +kernel
theorem dX5_law_17 : decode cX5_law 17 = .ok (.iload_n 1, 1) := by decide +kernel
theorem dX5_law_18 : decode cX5_law 18 = .ok (.putfield 146, 3) := by decide +kernel
theorem dX5_law_21 : decode cX5_law 21 = .ok (.iload_n 2, 1) := by decide +kernel
theorem dX5_law_22 : decode cX5_law 22 = .ok (.ireturn, 1) := by decide +kernel
set_option maxRecDepth 20000 in
theorem ggX5_cards_X5_isOne : GoodIn wsX5_cards wsX5_isOne := goodIn_r _ [6, 7, 8, 9, 5, 10, 11, 12, 13, 14, 15, 16, 17, 18, 19, 20, 21, 22, 23, 24, 25, 26, 27, 28, 29, 30, 31, 32, 33, 34, 35, 36, 37, 38, 39, 40] (by decide +kernel) (by decide +kernel)
set_option maxRecDepth 20000 in
theorem gX5_cards_X5_isOne : GoodIn wsX5_cards (wsV RX5 155 RX5 yX5_isOne wsX5_isOne) := goodIn_app (goodIn_of _ (by decide +kernel)) ggX5_cards_X5_isOne
set_option maxRecDepth 20000 in
theorem ggX5_cards_X5_in : GoodIn wsX5_cards wsX5_in := goodIn_r _ [10] (by decide +kernel) (by decide +kernel)
set_option maxRecDepth 20000 in
theorem gX5_cards_X5_in : GoodIn wsX5_cards (va_wsS RX5 72 yX5_in wsX5_in) := goodIn_app (goodIn_of _ (by decide +kernel)) ggX5_cards_X5_in
theorem dX5_cards_0 : decode cX5_cards 0 = .ok (.aload_n 0, 1) := by decide +kernel
theorem dX5_cards_1 : decode cX5_cards 1 = .ok (.iload_n 1, 1) := by decide +kernel
theorem dX5_cards_2 : decode cX5_cards 2 = .ok (.invokevirtual 155, 3) := by decide +kernel
theorem dX5_cards_5 : decode cX5_cards 5 = .ok (.ifCond .eq 13, 3) := by decide +kernel
theorem dX5_cards_8 : decode cX5_cards 8 = .ok (.iload_n 2, 1) := by decide +kernel
theorem dX5_cards_9 : decode cX5_cards 9 = .ok (.iconst 0, 1) := by decide +kernel
theorem dX5_cards_10 : decode cX5_cards 10 = .ok (.bipush 99, 2) := by decide +kernel
theorem dX5_cards_12 : decode cX5_cards 12 = .ok (.invokestatic 72, 3) := by decide +kernel
theorem dX5_cards_15 : decode cX5_cards 15 = .ok (.ifCond .ne 5, 3) := by decide +kernel
theorem dX5_cards_18 : decode cX5_cards 18 = .ok (.iconst (-1), 1) := by decide +kernel
theorem dX5_cards_19 : decode cX5_cards 19 = .ok (.ireturn, 1) := by decide +kernel
theorem dX5_cards_20 : decode cX5_cards 20 = .ok (.aload_n 0, 1) := by decide +kernel
theorem dX5_cards_21 : decode cX5_cards 21 = .ok (.getfield 29, 3) := by decide +kernel
theorem dX5_cards_24 : decode cX5_cards 24 = .ok (.iconst 4, 1) := by decide +kernel
theorem dX5_cards_25 : decode cX5_cards 25 = .ok (.iload_n 1, 1) := by decide +kernel
theorem dX5_cards_26 : decode cX5_cards 26 = .ok (.imul, 1) := by decide +kernel
theorem dX5_cards_27 : decode cX5_cards 27 = .ok (.iconst 3, 1) := by decide +kernel
theorem dX5_cards_28 : decode cX5_cards 28 = .ok (.iadd, 1) := by decide +kernel
theorem dX5_cards_29 : decode cX5_cards 29 = .ok (.iaload, 1) := by decide +kernel
theorem dX5_cards_30 : decode cX5_cards 30 = .ok (.istore_n 3, 1) := by decide +kernel
theorem dX5_cards_31 : decode cX5_cards 31 = .ok (.aload_n 0, 1) := by decide +kernel
theorem dX5_cards_32 : decode cX5_cards 32 = .ok (.getfield 29, 3) := by decide +kernel
theorem dX5_cards_35 : decode cX5_cards 35 = .ok (.iconst 4, 1) := by decide +kernel
theorem dX5_cards_36 : decode cX5_cards 36 = .ok (.iload_n 1, 1) := by decide +kernel
theorem dX5_cards_37 : decode cX5_cards 37 = .ok (.imul, 1) := by decide +kernel
theorem dX5_cards_38 : decode cX5_cards 38 = .ok (.iconst 3, 1) := by decide +kernel
theorem dX5_cards_39 : decode cX5_cards 39 = .ok (.iadd, 1) := by decide +kernel
theorem dX5_cards_40 : decode cX5_cards 40 = .ok (.iload_n 2, 1) := by decide +kernel
theorem dX5_cards_41 : decode cX5_cards 41 = .ok (.iastore, 1) := by decide +kernel
theorem dX5_cards_42 : decode cX5_cards 42 = .ok (.iload_n 3, 1) := by decide +kernel
theorem dX5_cards_43 : decode cX5_cards 43 = .ok (.ireturn, 1) := by decide +kernel
set_option maxRecDepth 20000 in
theorem ggX5_habit_X5_isOne : GoodIn wsX5_habit wsX5_isOne := goodIn_r _ [6, 7, 8, 9, 5, 10, 21, 22, 23, 24, 25, 26, 27, 28, 29, 30, 31, 32, 33, 34, 35, 36, 37, 38, 39, 40, 41, 42, 43, 44, 45, 46, 47, 48, 49, 50] (by decide +kernel) (by decide +kernel)
set_option maxRecDepth 20000 in
theorem gX5_habit_X5_isOne : GoodIn wsX5_habit (wsV RX5 155 RX5 yX5_isOne wsX5_isOne) := goodIn_app (goodIn_of _ (by decide +kernel)) ggX5_habit_X5_isOne
set_option maxRecDepth 20000 in
theorem ggX5_habit_X5_isHour : GoodIn wsX5_habit wsX5_isHour := goodIn_r _ [13, 8, 9, 5, 10] (by decide +kernel) (by decide +kernel)
set_option maxRecDepth 20000 in
theorem gX5_habit_X5_isHour : GoodIn wsX5_habit (va_wsS RX5 183 yX5_isHour wsX5_isHour) := goodIn_app (goodIn_of _ (by decide +kernel)) ggX5_habit_X5_isHour
set_option maxRecDepth 20000 in
theorem ggX5_habit_X5_in : GoodIn wsX5_habit wsX5_in := goodIn_r _ [10] (by decide +kernel) (by decide +kernel)
set_option maxRecDepth 20000 in
theorem gX5_habit_X5_in : GoodIn wsX5_habit (va_wsS RX5 72 yX5_in wsX5_in) := goodIn_app (goodIn_of _ (by decide +kernel)) ggX5_habit_X5_in
set_option maxRecDepth 20000 in
theorem ggX5_habit_X5_isOut : GoodIn wsX5_habit wsX5_isOut := goodIn_r _ [17, 1, 18, 19, 5, 20, 21, 22, 23, 24, 25, 26, 27, 28, 29, 30, 31, 32, 33, 34, 35, 36, 37, 38, 39, 40, 41, 42, 43, 44, 45, 46, 47, 48, 49, 50] (by decide +kernel) (by decide +kernel)
set_option maxRecDepth 20000 in
theorem gX5_habit_X5_isOut : GoodIn wsX5_habit (wsV RX5 158 RX5 yX5_isOut wsX5_isOut) := goodIn_app (goodIn_of _ (by decide +kernel)) ggX5_habit_X5_isOut
theorem dX5_habit_0 : decode cX5_habit 0 = .ok (.aload_n 0, 1) := by decide +kernel
theorem dX5_habit_1 : decode cX5_habit 1 = .ok (.iload_n 1, 1) := by decide +kernel
theorem dX5_habit_2 : decode cX5_habit 2 = .ok (.invokevirtual 155, 3) := by decide +kernel
theorem dX5_habit_5 : decode cX5_habit 5 = .ok (.ifCond .eq 19, 3) := by decide +kernel
theorem dX5_habit_8 : decode cX5_habit 8 = .ok (.iload_n 2, 1) := by decide +kernel
theorem dX5_habit_9 : decode cX5_habit 9 = .ok (.invokestatic 183, 3) := by decide +kernel
theorem dX5_habit_12 : decode cX5_habit 12 = .ok (.ifCond .eq 12, 3) := by decide +kernel
theorem dX5_habit_15 : decode cX5_habit 15 = .ok (.iload_n 3, 1) := by decide +kernel
theorem dX5_habit_16 : decode cX5_habit 16 = .ok (.iconst 0, 1) := by decide +kernel
theorem dX5_habit_17 : decode cX5_habit 17 = .ok (.iconst 1, 1) := by decide +kernel
theorem dX5_habit_18 : decode cX5_habit 18 = .ok (.invokestatic 72, 3) := by decide +kernel
theorem dX5_habit_21 : decode cX5_habit 21 = .ok (.ifCond .ne 5, 3) := by decide +kernel
theorem dX5_habit_24 : decode cX5_habit 24 = .ok (.iconst (-1), 1) := by decide +kernel
theorem dX5_habit_25 : decode cX5_habit 25 = .ok (.ireturn, 1) := by decide +kernel
theorem dX5_habit_26 : decode cX5_habit 26 = .ok (.aload_n 0, 1) := by decide +kernel
theorem dX5_habit_27 : decode cX5_habit 27 = .ok (.iload_n 1, 1) := by decide +kernel
theorem dX5_habit_28 : decode cX5_habit 28 = .ok (.iload_n 2, 1) := by decide +kernel
theorem dX5_habit_29 : decode cX5_habit 29 = .ok (.invokevirtual 158, 3) := by decide +kernel
theorem dX5_habit_32 : decode cX5_habit 32 = .ok (.ifCond .eq 7, 3) := by decide +kernel
theorem dX5_habit_35 : decode cX5_habit 35 = .ok (.iconst 1, 1) := by decide +kernel
theorem dX5_habit_36 : decode cX5_habit 36 = .ok (.goto 4, 3) := by decide +kernel
theorem dX5_habit_39 : decode cX5_habit 39 = .ok (.iconst 0, 1) := by decide +kernel
theorem dX5_habit_40 : decode cX5_habit 40 = .ok (.istore 4, 2) := by decide +kernel
theorem dX5_habit_42 : decode cX5_habit 42 = .ok (.iload 4, 2) := by decide +kernel
theorem dX5_habit_44 : decode cX5_habit 44 = .ok (.iload_n 3, 1) := by decide +kernel
theorem dX5_habit_45 : decode cX5_habit 45 = .ok (.if_icmp .eq 19, 3) := by decide +kernel
theorem dX5_habit_48 : decode cX5_habit 48 = .ok (.aload_n 0, 1) := by decide +kernel
theorem dX5_habit_49 : decode cX5_habit 49 = .ok (.getfield 29, 3) := by decide +kernel
theorem dX5_habit_52 : decode cX5_habit 52 = .ok (.iconst 4, 1) := by decide +kernel
theorem dX5_habit_53 : decode cX5_habit 53 = .ok (.iload_n 1, 1) := by decide +kernel
theorem dX5_habit_54 : decode cX5_habit 54 = .ok (.imul, 1) := by decide +kernel
theorem dX5_habit_55 : decode cX5_habit 55 = .ok (.iconst 2, 1) := by decide +kernel
theorem dX5_habit_56 : decode cX5_habit 56 = .ok (.iadd, 1) := by decide +kernel
theorem dX5_habit_57 : decode cX5_habit 57 = .ok (.dup2, 1) := by decide +kernel
theorem dX5_habit_58 : decode cX5_habit 58 = .ok (.iaload, 1) := by decide +kernel
theorem dX5_habit_59 : decode cX5_habit 59 = .ok (.iconst 1, 1) := by decide +kernel
theorem dX5_habit_60 : decode cX5_habit 60 = .ok (.iload_n 2, 1) := by decide +kernel
theorem dX5_habit_61 : decode cX5_habit 61 = .ok (.ishl, 1) := by decide +kernel
theorem dX5_habit_62 : decode cX5_habit 62 = .ok (.ixor, 1) := by decide +kernel
theorem dX5_habit_63 : decode cX5_habit 63 = .ok (.iastore, 1) := by decide +kernel
theorem dX5_habit_64 : decode cX5_habit 64 = .ok (.iload 4, 2) := by decide +kernel
theorem dX5_habit_66 : decode cX5_habit 66 = .ok (.ireturn, 1) := by decide +kernel
set_option maxRecDepth 20000 in
theorem ggX5_isBare_X5_kind : GoodIn wsX5_isBare wsX5_kind := goodIn_r _ [5, 6, 18, 19, 20, 21, 22, 23, 24, 25, 26, 27, 28, 29, 30, 31, 32, 33, 34, 35, 36, 37, 38, 39, 40, 41, 42, 43, 44, 45, 46, 47] (by decide +kernel) (by decide +kernel)
set_option maxRecDepth 20000 in
theorem gX5_isBare_X5_kind : GoodIn wsX5_isBare (wsV RX5 152 RX5 yX5_kind wsX5_kind) := goodIn_app (goodIn_of _ (by decide +kernel)) ggX5_isBare_X5_kind
set_option maxRecDepth 20000 in
theorem ggX5_isBare_X5_isOut : GoodIn wsX5_isBare wsX5_isOut := goodIn_r _ [10, 6, 11, 12, 4, 13, 18, 19, 20, 21, 22, 23, 24, 25, 26, 27, 28, 29, 30, 31, 32, 33, 34, 35, 36, 37, 38, 39, 40, 41, 42, 43, 44, 45, 46, 47] (by decide +kernel) (by decide +kernel)
set_option maxRecDepth 20000 in
theorem gX5_isBare_X5_isOut : GoodIn wsX5_isBare (wsV RX5 158 RX5 yX5_isOut wsX5_isOut) := goodIn_app (goodIn_of _ (by decide +kernel)) ggX5_isBare_X5_isOut
set_option maxRecDepth 20000 in
theorem ggX5_isBare_X5_with : GoodIn wsX5_isBare wsX5_with := goodIn_r _ [17, 6, 18, 19, 20, 21, 22, 23, 24, 25, 26, 27, 28, 29, 30, 31, 32, 33, 34, 35, 36, 37, 38, 39, 40, 41, 42, 43, 44, 45, 46, 47] (by decide +kernel) (by decide +kernel)
set_option maxRecDepth 20000 in
theorem gX5_isBare_X5_with : GoodIn wsX5_isBare (wsV RX5 174 RX5 yX5_with wsX5_with) := goodIn_app (goodIn_of _ (by decide +kernel)) ggX5_isBare_X5_with
theorem dX5_isBare_0 : decode cX5_isBare 0 = .ok (.aload_n 0, 1) := by decide +kernel
theorem dX5_isBare_1 : decode cX5_isBare 1 = .ok (.iload_n 1, 1) := by decide +kernel
theorem dX5_isBare_2 : decode cX5_isBare 2 = .ok (.invokevirtual 152, 3) := by decide +kernel
theorem dX5_isBare_5 : decode cX5_isBare 5 = .ok (.tableswitch 85 2 4 #[27, 29, 57], 27) := by decide +kernel
theorem dX5_isBare_32 : decode cX5_isBare 32 = .ok (.iconst 0, 1) := by decide +kernel
theorem dX5_isBare_33 : decode cX5_isBare 33 = .ok (.ireturn, 1) := by decide +kernel
theorem dX5_isBare_34 : decode cX5_isBare 34 = .ok (.aload_n 0, 1) := by decide +kernel
theorem dX5_isBare_35 : decode cX5_isBare 35 = .ok (.iload_n 1, 1) := by decide +kernel
theorem dX5_isBare_36 : decode cX5_isBare 36 = .ok (.iload_n 2, 1) := by decide +kernel
theorem dX5_isBare_37 : decode cX5_isBare 37 = .ok (.invokevirtual 158, 3) := by decide +kernel
theorem dX5_isBare_40 : decode cX5_isBare 40 = .ok (.ifCond .eq 20, 3) := by decide +kernel
theorem dX5_isBare_43 : decode cX5_isBare 43 = .ok (.aload_n 0, 1) := by decide +kernel
theorem dX5_isBare_44 : decode cX5_isBare 44 = .ok (.aload_n 0, 1) := by decide +kernel
theorem dX5_isBare_45 : decode cX5_isBare 45 = .ok (.iload_n 1, 1) := by decide +kernel
theorem dX5_isBare_46 : decode cX5_isBare 46 = .ok (.invokevirtual 174, 3) := by decide +kernel
theorem dX5_isBare_49 : decode cX5_isBare 49 = .ok (.iload_n 2, 1) := by decide +kernel
theorem dX5_isBare_50 : decode cX5_isBare 50 = .ok (.invokevirtual 158, 3) := by decide +kernel
theorem dX5_isBare_53 : decode cX5_isBare 53 = .ok (.ifCond .eq 7, 3) := by decide +kernel
theorem dX5_isBare_56 : decode cX5_isBare 56 = .ok (.iconst 1, 1) := by decide +kernel
theorem dX5_isBare_57 : decode cX5_isBare 57 = .ok (.goto 4, 3) := by decide +kernel
theorem dX5_isBare_60 : decode cX5_isBare 60 = .ok (.iconst 0, 1) := by decide +kernel
theorem dX5_isBare_61 : decode cX5_isBare 61 = .ok (.ireturn, 1) := by decide +kernel
theorem dX5_isBare_62 : decode cX5_isBare 62 = .ok (.aload_n 0, 1) := by decide +kernel
theorem dX5_isBare_63 : decode cX5_isBare 63 = .ok (.iload_n 1, 1) := by decide +kernel
theorem dX5_isBare_64 : decode cX5_isBare 64 = .ok (.iload_n 2, 1) := by decide +kernel
theorem dX5_isBare_65 : decode cX5_isBare 65 = .ok (.invokevirtual 158, 3) := by decide +kernel
theorem dX5_isBare_68 : decode cX5_isBare 68 = .ok (.ifCond .ne 16, 3) := by decide +kernel
theorem dX5_isBare_71 : decode cX5_isBare 71 = .ok (.aload_n 0, 1) := by decide +kernel
theorem dX5_isBare_72 : decode cX5_isBare 72 = .ok (.aload_n 0, 1) := by decide +kernel
theorem dX5_isBare_73 : decode cX5_isBare 73 = .ok (.iload_n 1, 1) := by decide +kernel
theorem dX5_isBare_74 : decode cX5_isBare 74 = .ok (.invokevirtual 174, 3) := by decide +kernel
theorem dX5_isBare_77 : decode cX5_isBare 77 = .ok (.iload_n 2, 1) := by decide +kernel
theorem dX5_isBare_78 : decode cX5_isBare 78 = .ok (.invokevirtual 158, 3) := by decide +kernel
theorem dX5_isBare_81 : decode cX5_isBare 81 = .ok (.ifCond .eq 7, 3) := by decide +kernel
theorem dX5_isBare_84 : decode cX5_isBare 84 = .ok (.iconst 1, 1) := by decide +kernel
theorem dX5_isBare_85 : decode cX5_isBare 85 = .ok (.goto 4, 3) := by decide +kernel
theorem dX5_isBare_88 : decode cX5_isBare 88 = .ok (.iconst 0, 1) := by decide +kernel
theorem dX5_isBare_89 : decode cX5_isBare 89 = .ok (.ireturn, 1) := by decide +kernel
theorem dX5_isBare_90 : decode cX5_isBare 90 = .ok (.aload_n 0, 1) := by decide +kernel
theorem dX5_isBare_91 : decode cX5_isBare 91 = .ok (.iload_n 1, 1) := by decide +kernel
theorem dX5_isBare_92 : decode cX5_isBare 92 = .ok (.iload_n 2, 1) := by decide +kernel
theorem dX5_isBare_93 : decode cX5_isBare 93 = .ok (.invokevirtual 158, 3) := by decide +kernel
theorem dX5_isBare_96 : decode cX5_isBare 96 = .ok (.ireturn, 1) := by decide +kernel
set_option maxRecDepth 20000 in
theorem ggX5_isEmpty_X5_isBare : GoodIn wsX5_isEmpty wsX5_isBare := goodIn_r _ [6, 7, 8, 9, 5, 10, 11, 12, 13, 14, 15, 16, 17, 18, 19, 20, 21, 22, 27, 28, 29, 30, 31, 32, 33, 34, 35, 36, 37, 38, 39, 40, 41, 42, 43, 44, 45, 46, 47, 48, 49, 50, 51, 52, 53, 54, 55, 56] (by decide +kernel) (by decide +kernel)
set_option maxRecDepth 20000 in
theorem gX5_isEmpty_X5_isBare : GoodIn wsX5_isEmpty (wsV RX5 186 RX5 yX5_isBare wsX5_isBare) := goodIn_app (goodIn_of _ (by decide +kernel)) ggX5_isEmpty_X5_isBare
set_option maxRecDepth 20000 in
theorem ggX5_isEmpty_X5_isDogIn : GoodIn wsX5_isEmpty wsX5_isDogIn := goodIn_r _ [26, 7, 8, 9, 5, 10, 11, 27, 28, 29, 30, 31, 32, 33, 34, 35, 36, 37, 38, 39, 40, 41, 42, 43, 44, 45, 46, 47, 48, 49, 50, 51, 52, 53, 54, 55, 56] (by decide +kernel) (by decide +kernel)
set_option maxRecDepth 20000 in
theorem gX5_isEmpty_X5_isDogIn : GoodIn wsX5_isEmpty (wsV RX5 161 RX5 yX5_isDogIn wsX5_isDogIn) := goodIn_app (goodIn_of _ (by decide +kernel)) ggX5_isEmpty_X5_isDogIn
theorem dX5_isEmpty_0 : decode cX5_isEmpty 0 = .ok (.aload_n 0, 1) := by decide +kernel
theorem dX5_isEmpty_1 : decode cX5_isEmpty 1 = .ok (.iload_n 1, 1) := by decide +kernel
theorem dX5_isEmpty_2 : decode cX5_isEmpty 2 = .ok (.iload_n 2, 1) := by decide +kernel
theorem dX5_isEmpty_3 : decode cX5_isEmpty 3 = .ok (.invokevirtual 186, 3) := by decide +kernel
theorem dX5_isEmpty_6 : decode cX5_isEmpty 6 = .ok (.istore_n 3, 1) := by decide +kernel
theorem dX5_isEmpty_7 : decode cX5_isEmpty 7 = .ok (.aload_n 0, 1) := by decide +kernel
theorem dX5_isEmpty_8 : decode cX5_isEmpty 8 = .ok (.getfield 146, 3) := by decide +kernel
theorem dX5_isEmpty_11 : decode cX5_isEmpty 11 = .ok (.tableswitch 62 0 2 #[25, 27, 46], 25) := by decide +kernel
theorem dX5_isEmpty_36 : decode cX5_isEmpty 36 = .ok (.iload_n 3, 1) := by decide +kernel
theorem dX5_isEmpty_37 : decode cX5_isEmpty 37 = .ok (.ireturn, 1) := by decide +kernel
theorem dX5_isEmpty_38 : decode cX5_isEmpty 38 = .ok (.iload_n 3, 1) := by decide +kernel
theorem dX5_isEmpty_39 : decode cX5_isEmpty 39 = .ok (.ifCond .eq 16, 3) := by decide +kernel
theorem dX5_isEmpty_42 : decode cX5_isEmpty 42 = .ok (.aload_n 0, 1) := by decide +kernel
theorem dX5_isEmpty_43 : decode cX5_isEmpty 43 = .ok (.iload_n 1, 1) := by decide +kernel
theorem dX5_isEmpty_44 : decode cX5_isEmpty 44 = .ok (.iload_n 2, 1) := by decide +kernel
theorem dX5_isEmpty_45 : decode cX5_isEmpty 45 = .ok (.invokevirtual 161, 3) := by decide +kernel
theorem dX5_isEmpty_48 : decode cX5_isEmpty 48 = .ok (.ifCond .ne 7, 3) := by decide +kernel
theorem dX5_isEmpty_51 : decode cX5_isEmpty 51 = .ok (.iconst 1, 1) := by decide +kernel
theorem dX5_isEmpty_52 : decode cX5_isEmpty 52 = .ok (.goto 4, 3) := by decide +kernel
theorem dX5_isEmpty_55 : decode cX5_isEmpty 55 = .ok (.iconst 0, 1) := by decide +kernel
theorem dX5_isEmpty_56 : decode cX5_isEmpty 56 = .ok (.ireturn, 1) := by decide +kernel
theorem dX5_isEmpty_57 : decode cX5_isEmpty 57 = .ok (.iload_n 3, 1) := by decide +kernel
theorem dX5_isEmpty_58 : decode cX5_isEmpty 58 = .ok (.ifCond .eq 13, 3) := by decide +kernel
theorem dX5_isEmpty_61 : decode cX5_isEmpty 61 = .ok (.iload_n 2, 1) := by decide +kernel
theorem dX5_isEmpty_62 : decode cX5_isEmpty 62 = .ok (.bipush 8, 2) := by decide +kernel
theorem dX5_isEmpty_64 : decode cX5_isEmpty 64 = .ok (.if_icmp .lt 7, 3) := by decide +kernel
theorem dX5_isEmpty_67 : decode cX5_isEmpty 67 = .ok (.iconst 1, 1) := by decide +kernel
theorem dX5_isEmpty_68 : decode cX5_isEmpty 68 = .ok (.goto 4, 3) := by decide +kernel
theorem dX5_isEmpty_71 : decode cX5_isEmpty 71 = .ok (.iconst 0, 1) := by decide +kernel
theorem dX5_isEmpty_72 : decode cX5_isEmpty 72 = .ok (.ireturn, 1) := by decide +kernel
theorem dX5_isEmpty_73 : decode cX5_isEmpty 73 = .ok (.iload_n 3, 1) := by decide +kernel
theorem dX5_isEmpty_74 : decode cX5_isEmpty 74 = .ok (.ifCond .ne 7, 3) := by decide +kernel
theorem dX5_isEmpty_77 : decode cX5_isEmpty 77 = .ok (.iconst 1, 1) := by decide +kernel
theorem dX5_isEmpty_78 : decode cX5_isEmpty 78 = .ok (.goto 4, 3) := by decide +kernel
theorem dX5_isEmpty_81 : decode cX5_isEmpty 81 = .ok (.iconst 0, 1) := by decide +kernel
theorem dX5_isEmpty_82 : decode cX5_isEmpty 82 = .ok (.ireturn, 1) := by decide +kernel
set_option maxRecDepth 20000 in
theorem ggX5_empty_X5_isOne : GoodIn wsX5_empty wsX5_isOne := goodIn_r _ [5, 6, 7, 8, 4, 9, 39, 40, 41, 42, 43, 44, 45, 46, 47, 48, 49, 50, 51, 52, 53, 54, 55, 56, 57, 58, 59, 60, 61, 62, 63, 64, 65, 66, 67, 68] (by decide +kernel) (by decide +kernel)
set_option maxRecDepth 20000 in
theorem gX5_empty_X5_isOne : GoodIn wsX5_empty (wsV RX5 155 RX5 yX5_isOne wsX5_isOne) := goodIn_app (goodIn_of _ (by decide +kernel)) ggX5_empty_X5_isOne
set_option maxRecDepth 20000 in
theorem ggX5_empty_X5_isEmpty : GoodIn wsX5_empty wsX5_isEmpty := goodIn_r _ [13, 14, 15, 16, 17, 4, 18, 19, 20, 21, 22, 23, 24, 25, 26, 27, 28, 29, 30, 31, 32, 33, 34, 35, 36, 37, 38, 39, 40, 41, 42, 43, 44, 45, 46, 47, 48, 49, 50, 51, 52, 53, 54, 55, 56, 57, 58, 59, 60, 61, 62, 63, 64, 65, 66, 67, 68] (by decide +kernel) (by decide +kernel)
set_option maxRecDepth 20000 in
theorem gX5_empty_X5_isEmpty : GoodIn wsX5_empty (wsV RX5 189 RX5 yX5_isEmpty wsX5_isEmpty) := goodIn_app (goodIn_of _ (by decide +kernel)) ggX5_empty_X5_isEmpty
theorem dX5_empty_0 : decode cX5_empty 0 = .ok (.aload_n 0, 1) := by decide +kernel
theorem dX5_empty_1 : decode cX5_empty 1 = .ok (.iload_n 1, 1) := by decide +kernel
theorem dX5_empty_2 : decode cX5_empty 2 = .ok (.invokevirtual 155, 3) := by decide +kernel
theorem dX5_empty_5 : decode cX5_empty 5 = .ok (.ifCond .ne 5, 3) := by decide +kernel
theorem dX5_empty_8 : decode cX5_empty 8 = .ok (.iconst (-1), 1) := by decide +kernel
theorem dX5_empty_9 : decode cX5_empty 9 = .ok (.ireturn, 1) := by decide +kernel
theorem dX5_empty_10 : decode cX5_empty 10 = .ok (.iconst 0, 1) := by decide +kernel
theorem dX5_empty_11 : decode cX5_empty 11 = .ok (.istore_n 2, 1) := by decide +kernel
theorem dX5_empty_12 : decode cX5_empty 12 = .ok (.iconst 0, 1) := by decide +kernel
theorem dX5_empty_13 : decode cX5_empty 13 = .ok (.istore_n 3, 1) := by decide +kernel
theorem dX5_empty_14 : decode cX5_empty 14 = .ok (.iload_n 3, 1) := by decide +kernel
theorem dX5_empty_15 : decode cX5_empty 15 = .ok (.bipush 12, 2) := by decide +kernel
theorem dX5_empty_17 : decode cX5_empty 17 = .ok (.if_icmp .ge 28, 3) := by decide +kernel
theorem dX5_empty_20 : decode cX5_empty 20 = .ok (.iload_n 2, 1) := by decide +kernel
theorem dX5_empty_21 : decode cX5_empty 21 = .ok (.aload_n 0, 1) := by decide +kernel
theorem dX5_empty_22 : decode cX5_empty 22 = .ok (.iload_n 1, 1) := by decide +kernel
theorem dX5_empty_23 : decode cX5_empty 23 = .ok (.iload_n 3, 1) := by decide +kernel
theorem dX5_empty_24 : decode cX5_empty 24 = .ok (.invokevirtual 189, 3) := by decide +kernel
theorem dX5_empty_27 : decode cX5_empty 27 = .ok (.ifCond .eq 9, 3) := by decide +kernel
theorem dX5_empty_30 : decode cX5_empty 30 = .ok (.iconst 1, 1) := by decide +kernel
theorem dX5_empty_31 : decode cX5_empty 31 = .ok (.iload_n 3, 1) := by decide +kernel
theorem dX5_empty_32 : decode cX5_empty 32 = .ok (.ishl, 1) := by decide +kernel
theorem dX5_empty_33 : decode cX5_empty 33 = .ok (.goto 4, 3) := by decide +kernel
theorem dX5_empty_36 : decode cX5_empty 36 = .ok (.iconst 0, 1) := by decide +kernel
theorem dX5_empty_37 : decode cX5_empty 37 = .ok (.ior, 1) := by decide +kernel
theorem dX5_empty_38 : decode cX5_empty 38 = .ok (.istore_n 2, 1) := by decide +kernel
theorem dX5_empty_39 : decode cX5_empty 39 = .ok (.iinc 3 1, 3) := by decide +kernel
theorem dX5_empty_42 : decode cX5_empty 42 = .ok (.goto (-28), 3) := by decide +kernel
theorem dX5_empty_45 : decode cX5_empty 45 = .ok (.iload_n 2, 1) := by decide +kernel
theorem dX5_empty_46 : decode cX5_empty 46 = .ok (.ireturn, 1) := by decide +kernel
set_option maxRecDepth 20000 in
theorem ggX5_canPay_X5_debtAt : GoodIn wsX5_canPay wsX5_debtAt := goodIn_r _ [5, 6, 36, 37, 38, 39, 40, 41, 42, 43, 44, 45, 46, 47, 48, 49, 50, 51, 52, 53, 54, 55, 56, 57, 58, 59, 60, 61, 62, 63, 64, 65] (by decide +kernel) (by decide +kernel)
set_option maxRecDepth 20000 in
theorem gX5_canPay_X5_debtAt : GoodIn wsX5_canPay (wsV RX5 164 RX5 yX5_debtAt wsX5_debtAt) := goodIn_app (goodIn_of _ (by decide +kernel)) ggX5_canPay_X5_debtAt
set_option maxRecDepth 20000 in
theorem ggX5_canPay_X5_isOut : GoodIn wsX5_canPay wsX5_isOut := goodIn_r _ [10, 11, 12, 13, 4, 14, 36, 37, 38, 39, 40, 41, 42, 43, 44, 45, 46, 47, 48, 49, 50, 51, 52, 53, 54, 55, 56, 57, 58, 59, 60, 61, 62, 63, 64, 65] (by decide +kernel) (by decide +kernel)
set_option maxRecDepth 20000 in
theorem gX5_canPay_X5_isOut : GoodIn wsX5_canPay (wsV RX5 158 RX5 yX5_isOut wsX5_isOut) := goodIn_app (goodIn_of _ (by decide +kernel)) ggX5_canPay_X5_isOut
set_option maxRecDepth 20000 in
theorem ggX5_canPay_X5_isEmpty : GoodIn wsX5_canPay wsX5_isEmpty := goodIn_r _ [18, 19, 20, 21, 22, 4, 23, 24, 25, 26, 27, 11, 7, 8, 9, 10, 12, 13, 14, 28, 29, 30, 31, 32, 33, 34, 35, 36, 37, 38, 39, 40, 41, 42, 43, 44, 45, 46, 47, 48, 49, 50, 51, 52, 53, 54, 55, 56, 57, 58, 59, 60, 61, 62, 63, 64, 65] (by decide +kernel) (by decide +kernel)
set_option maxRecDepth 20000 in
theorem gX5_canPay_X5_isEmpty : GoodIn wsX5_canPay (wsV RX5 189 RX5 yX5_isEmpty wsX5_isEmpty) := goodIn_app (goodIn_of _ (by decide +kernel)) ggX5_canPay_X5_isEmpty
theorem dX5_canPay_0 : decode cX5_canPay 0 = .ok (.aload_n 0, 1) := by decide +kernel
theorem dX5_canPay_1 : decode cX5_canPay 1 = .ok (.aload_n 0, 1) := by decide +kernel
theorem dX5_canPay_2 : decode cX5_canPay 2 = .ok (.iload_n 1, 1) := by decide +kernel
theorem dX5_canPay_3 : decode cX5_canPay 3 = .ok (.iconst 0, 1) := by decide +kernel
theorem dX5_canPay_4 : decode cX5_canPay 4 = .ok (.invokevirtual 164, 3) := by decide +kernel
theorem dX5_canPay_7 : decode cX5_canPay 7 = .ok (.iload_n 2, 1) := by decide +kernel
theorem dX5_canPay_8 : decode cX5_canPay 8 = .ok (.invokevirtual 158, 3) := by decide +kernel
theorem dX5_canPay_11 : decode cX5_canPay 11 = .ok (.ifCond .eq 21, 3) := by decide +kernel
theorem dX5_canPay_14 : decode cX5_canPay 14 = .ok (.aload_n 0, 1) := by decide +kernel
theorem dX5_canPay_15 : decode cX5_canPay 15 = .ok (.aload_n 0, 1) := by decide +kernel
theorem dX5_canPay_16 : decode cX5_canPay 16 = .ok (.iload_n 1, 1) := by decide +kernel
theorem dX5_canPay_17 : decode cX5_canPay 17 = .ok (.iconst 1, 1) := by decide +kernel
theorem dX5_canPay_18 : decode cX5_canPay 18 = .ok (.invokevirtual 164, 3) := by decide +kernel
theorem dX5_canPay_21 : decode cX5_canPay 21 = .ok (.iload_n 2, 1) := by decide +kernel
theorem dX5_canPay_22 : decode cX5_canPay 22 = .ok (.invokevirtual 189, 3) := by decide +kernel
theorem dX5_canPay_25 : decode cX5_canPay 25 = .ok (.ifCond .eq 7, 3) := by decide +kernel
theorem dX5_canPay_28 : decode cX5_canPay 28 = .ok (.iconst 1, 1) := by decide +kernel
theorem dX5_canPay_29 : decode cX5_canPay 29 = .ok (.goto 4, 3) := by decide +kernel
theorem dX5_canPay_32 : decode cX5_canPay 32 = .ok (.iconst 0, 1) := by decide +kernel
theorem dX5_canPay_33 : decode cX5_canPay 33 = .ok (.ireturn, 1) := by decide +kernel
set_option maxRecDepth 20000 in
theorem ggX5_when_X5_isDebt : GoodIn wsX5_when wsX5_isDebt := goodIn_r _ [5, 6, 7, 8, 4, 9, 48, 49, 50, 51, 52, 53, 54, 55, 56, 57, 58, 59, 60, 61, 62, 63, 64, 65, 66, 67, 68, 69, 70, 71, 72, 73, 74, 75, 76, 77] (by decide +kernel) (by decide +kernel)
set_option maxRecDepth 20000 in
theorem gX5_when_X5_isDebt : GoodIn wsX5_when (wsV RX5 180 RX5 yX5_isDebt wsX5_isDebt) := goodIn_app (goodIn_of _ (by decide +kernel)) ggX5_when_X5_isDebt
set_option maxRecDepth 20000 in
theorem ggX5_when_X5_canPay : GoodIn wsX5_when wsX5_canPay := goodIn_r _ [13, 14, 15, 16, 4, 17, 18, 19, 20, 21, 22, 23, 24, 25, 26, 27, 28, 29, 30, 31, 32, 33, 34, 35, 36, 37, 38, 39, 40, 41, 42, 43, 44, 45, 46, 47, 48, 49, 50, 51, 52, 53, 54, 55, 56, 57, 58, 59, 60, 61, 62, 63, 64, 65, 66, 67, 68, 69, 70, 71, 72, 73, 74, 75, 76, 77] (by decide +kernel) (by decide +kernel)
set_option maxRecDepth 20000 in
theorem gX5_when_X5_canPay : GoodIn wsX5_when (wsV RX5 192 RX5 yX5_canPay wsX5_canPay) := goodIn_app (goodIn_of _ (by decide +kernel)) ggX5_when_X5_canPay
theorem dX5_when_0 : decode cX5_when 0 = .ok (.aload_n 0, 1) := by decide +kernel
theorem dX5_when_1 : decode cX5_when 1 = .ok (.iload_n 1, 1) := by decide +kernel
theorem dX5_when_2 : decode cX5_when 2 = .ok (.invokevirtual 180, 3) := by decide +kernel
theorem dX5_when_5 : decode cX5_when 5 = .ok (.ifCond .ne 5, 3) := by decide +kernel
theorem dX5_when_8 : decode cX5_when 8 = .ok (.iconst (-1), 1) := by decide +kernel
theorem dX5_when_9 : decode cX5_when 9 = .ok (.ireturn, 1) := by decide +kernel
theorem dX5_when_10 : decode cX5_when 10 = .ok (.iconst 0, 1) := by decide +kernel
theorem dX5_when_11 : decode cX5_when 11 = .ok (.istore_n 2, 1) := by decide +kernel
theorem dX5_when_12 : decode cX5_when 12 = .ok (.iconst 0, 1) := by decide +kernel
theorem dX5_when_13 : decode cX5_when 13 = .ok (.istore_n 3, 1) := by decide +kernel
theorem dX5_when_14 : decode cX5_when 14 = .ok (.iload_n 3, 1) := by decide +kernel
theorem dX5_when_15 : decode cX5_when 15 = .ok (.bipush 12, 2) := by decide +kernel
theorem dX5_when_17 : decode cX5_when 17 = .ok (.if_icmp .ge 28, 3) := by decide +kernel
theorem dX5_when_20 : decode cX5_when 20 = .ok (.iload_n 2, 1) := by decide +kernel
theorem dX5_when_21 : decode cX5_when 21 = .ok (.aload_n 0, 1) := by decide +kernel
theorem dX5_when_22 : decode cX5_when 22 = .ok (.iload_n 1, 1) := by decide +kernel
theorem dX5_when_23 : decode cX5_when 23 = .ok (.iload_n 3, 1) := by decide +kernel
theorem dX5_when_24 : decode cX5_when 24 = .ok (.invokevirtual 192, 3) := by decide +kernel
theorem dX5_when_27 : decode cX5_when 27 = .ok (.ifCond .eq 9, 3) := by decide +kernel
theorem dX5_when_30 : decode cX5_when 30 = .ok (.iconst 1, 1) := by decide +kernel
theorem dX5_when_31 : decode cX5_when 31 = .ok (.iload_n 3, 1) := by decide +kernel
theorem dX5_when_32 : decode cX5_when 32 = .ok (.ishl, 1) := by decide +kernel
theorem dX5_when_33 : decode cX5_when 33 = .ok (.goto 4, 3) := by decide +kernel
theorem dX5_when_36 : decode cX5_when 36 = .ok (.iconst 0, 1) := by decide +kernel
theorem dX5_when_37 : decode cX5_when 37 = .ok (.ior, 1) := by decide +kernel
theorem dX5_when_38 : decode cX5_when 38 = .ok (.istore_n 2, 1) := by decide +kernel
theorem dX5_when_39 : decode cX5_when 39 = .ok (.iinc 3 1, 3) := by decide +kernel
theorem dX5_when_42 : decode cX5_when 42 = .ok (.goto (-28), 3) := by decide +kernel
theorem dX5_when_45 : decode cX5_when 45 = .ok (.iload_n 2, 1) := by decide +kernel
theorem dX5_when_46 : decode cX5_when 46 = .ok (.ireturn, 1) := by decide +kernel
set_option maxRecDepth 20000 in
theorem ggX5_payable_X5_canPay : GoodIn wsX5_payable wsX5_canPay := goodIn_r _ [6, 7, 8, 9, 5, 10, 11, 12, 13, 14, 15, 16, 17, 18, 19, 20, 21, 22, 23, 24, 25, 26, 27, 28, 29, 30, 31, 32, 33, 34, 35, 36, 37, 38, 39, 40, 41, 42, 43, 44, 45, 46, 47, 48, 49, 50, 51, 52, 53, 54, 55, 56, 57, 58, 59, 60, 61, 62, 63, 64, 65, 66, 67, 68, 69, 70] (by decide +kernel) (by decide +kernel)
set_option maxRecDepth 20000 in
theorem gX5_payable_X5_canPay : GoodIn wsX5_payable (wsV RX5 192 RX5 yX5_canPay wsX5_canPay) := goodIn_app (goodIn_of _ (by decide +kernel)) ggX5_payable_X5_canPay
theorem dX5_payable_0 : decode cX5_payable 0 = .ok (.iconst 0, 1) := by decide +kernel
theorem dX5_payable_1 : decode cX5_payable 1 = .ok (.istore_n 2, 1) := by decide +kernel
theorem dX5_payable_2 : decode cX5_payable 2 = .ok (.iconst 0, 1) := by decide +kernel
theorem dX5_payable_3 : decode cX5_payable 3 = .ok (.istore_n 3, 1) := by decide +kernel
theorem dX5_payable_4 : decode cX5_payable 4 = .ok (.iload_n 3, 1) := by decide +kernel
theorem dX5_payable_5 : decode cX5_payable 5 = .ok (.aload_n 0, 1) := by decide +kernel
theorem dX5_payable_6 : decode cX5_payable 6 = .ok (.getfield 143, 3) := by decide +kernel
theorem dX5_payable_9 : decode cX5_payable 9 = .ok (.if_icmp .ge 28, 3) := by decide +kernel
theorem dX5_payable_12 : decode cX5_payable 12 = .ok (.iload_n 2, 1) := by decide +kernel
theorem dX5_payable_13 : decode cX5_payable 13 = .ok (.aload_n 0, 1) := by decide +kernel
theorem dX5_payable_14 : decode cX5_payable 14 = .ok (.iload_n 3, 1) := by decide +kernel
theorem dX5_payable_15 : decode cX5_payable 15 = .ok (.iload_n 1, 1) := by decide +kernel
theorem dX5_payable_16 : decode cX5_payable 16 = .ok (.invokevirtual 192, 3) := by decide +kernel
theorem dX5_payable_19 : decode cX5_payable 19 = .ok (.ifCond .eq 9, 3) := by decide +kernel
theorem dX5_payable_22 : decode cX5_payable 22 = .ok (.iconst 1, 1) := by decide +kernel
theorem dX5_payable_23 : decode cX5_payable 23 = .ok (.iload_n 3, 1) := by decide +kernel
theorem dX5_payable_24 : decode cX5_payable 24 = .ok (.ishl, 1) := by decide +kernel
theorem dX5_payable_25 : decode cX5_payable 25 = .ok (.goto 4, 3) := by decide +kernel
theorem dX5_payable_28 : decode cX5_payable 28 = .ok (.iconst 0, 1) := by decide +kernel
theorem dX5_payable_29 : decode cX5_payable 29 = .ok (.ior, 1) := by decide +kernel
theorem dX5_payable_30 : decode cX5_payable 30 = .ok (.istore_n 2, 1) := by decide +kernel
theorem dX5_payable_31 : decode cX5_payable 31 = .ok (.iinc 3 1, 3) := by decide +kernel
theorem dX5_payable_34 : decode cX5_payable 34 = .ok (.goto (-30), 3) := by decide +kernel
theorem dX5_payable_37 : decode cX5_payable 37 = .ok (.iload_n 2, 1) := by decide +kernel
theorem dX5_payable_38 : decode cX5_payable 38 = .ok (.ireturn, 1) := by decide +kernel
set_option maxRecDepth 20000 in
theorem ggX5_fits_X5_has : GoodIn wsX5_fits wsX5_has := goodIn_r _ [5] (by decide +kernel) (by decide +kernel)
set_option maxRecDepth 20000 in
theorem gX5_fits_X5_has : GoodIn wsX5_fits (va_wsS RX5 149 yX5_has wsX5_has) := goodIn_app (goodIn_of _ (by decide +kernel)) ggX5_fits_X5_has
set_option maxRecDepth 20000 in
theorem ggX5_fits_X5_debtAt : GoodIn wsX5_fits wsX5_debtAt := goodIn_r _ [9, 10, 11, 12, 13, 14, 15, 16, 17, 18, 19, 20, 21, 22, 23, 24, 25, 26, 27, 28, 29, 30, 31, 32, 33, 34, 35, 36, 37, 38, 39, 40] (by decide +kernel) (by decide +kernel)
set_option maxRecDepth 20000 in
theorem gX5_fits_X5_debtAt : GoodIn wsX5_fits (wsV RX5 164 RX5 yX5_debtAt wsX5_debtAt) := goodIn_app (goodIn_of _ (by decide +kernel)) ggX5_fits_X5_debtAt
theorem dX5_fits_0 : decode cX5_fits 0 = .ok (.iconst 0, 1) := by decide +kernel
theorem dX5_fits_1 : decode cX5_fits 1 = .ok (.istore_n 2, 1) := by decide +kernel
theorem dX5_fits_2 : decode cX5_fits 2 = .ok (.iconst 0, 1) := by decide +kernel
theorem dX5_fits_3 : decode cX5_fits 3 = .ok (.istore_n 3, 1) := by decide +kernel
theorem dX5_fits_4 : decode cX5_fits 4 = .ok (.iconst 1, 1) := by decide +kernel
theorem dX5_fits_5 : decode cX5_fits 5 = .ok (.istore 4, 2) := by decide +kernel
theorem dX5_fits_7 : decode cX5_fits 7 = .ok (.iconst 0, 1) := by decide +kernel
theorem dX5_fits_8 : decode cX5_fits 8 = .ok (.istore 5, 2) := by decide +kernel
theorem dX5_fits_10 : decode cX5_fits 10 = .ok (.iload 5, 2) := by decide +kernel
theorem dX5_fits_12 : decode cX5_fits 12 = .ok (.aload_n 0, 1) := by decide +kernel
theorem dX5_fits_13 : decode cX5_fits 13 = .ok (.getfield 143, 3) := by decide +kernel
theorem dX5_fits_16 : decode cX5_fits 16 = .ok (.if_icmp .ge 82, 3) := by decide +kernel
theorem dX5_fits_19 : decode cX5_fits 19 = .ok (.iload_n 1, 1) := by decide +kernel
theorem dX5_fits_20 : decode cX5_fits 20 = .ok (.iload 5, 2) := by decide +kernel
theorem dX5_fits_22 : decode cX5_fits 22 = .ok (.invokestatic 149, 3) := by decide +kernel
theorem dX5_fits_25 : decode cX5_fits 25 = .ok (.ifCond .eq 67, 3) := by decide +kernel
theorem dX5_fits_28 : decode cX5_fits 28 = .ok (.iload 4, 2) := by decide +kernel
theorem dX5_fits_30 : decode cX5_fits 30 = .ok (.ifCond .eq 35, 3) := by decide +kernel
theorem dX5_fits_33 : decode cX5_fits 33 = .ok (.iload_n 2, 1) := by decide +kernel
theorem dX5_fits_34 : decode cX5_fits 34 = .ok (.aload_n 0, 1) := by decide +kernel
theorem dX5_fits_35 : decode cX5_fits 35 = .ok (.iload 5, 2) := by decide +kernel
theorem dX5_fits_37 : decode cX5_fits 37 = .ok (.iconst 0, 1) := by decide +kernel
theorem dX5_fits_38 : decode cX5_fits 38 = .ok (.invokevirtual 164, 3) := by decide +kernel
theorem dX5_fits_41 : decode cX5_fits 41 = .ok (.invokestatic 149, 3) := by decide +kernel
theorem dX5_fits_44 : decode cX5_fits 44 = .ok (.ifCond .ne 21, 3) := by decide +kernel
theorem dX5_fits_47 : decode cX5_fits 47 = .ok (.iload_n 3, 1) := by decide +kernel
theorem dX5_fits_48 : decode cX5_fits 48 = .ok (.aload_n 0, 1) := by decide +kernel
theorem dX5_fits_49 : decode cX5_fits 49 = .ok (.iload 5, 2) := by decide +kernel
theorem dX5_fits_51 : decode cX5_fits 51 = .ok (.iconst 1, 1) := by decide +kernel
theorem dX5_fits_52 : decode cX5_fits 52 = .ok (.invokevirtual 164, 3) := by decide +kernel
theorem dX5_fits_55 : decode cX5_fits 55 = .ok (.invokestatic 149, 3) := by decide +kernel
theorem dX5_fits_58 : decode cX5_fits 58 = .ok (.ifCond .ne 7, 3) := by decide +kernel
theorem dX5_fits_61 : decode cX5_fits 61 = .ok (.iconst 1, 1) := by decide +kernel
theorem dX5_fits_62 : decode cX5_fits 62 = .ok (.goto 4, 3) := by decide +kernel
theorem dX5_fits_65 : decode cX5_fits 65 = .ok (.iconst 0, 1) := by decide +kernel
theorem dX5_fits_66 : decode cX5_fits 66 = .ok (.istore 4, 2) := by decide +kernel
theorem dX5_fits_68 : decode cX5_fits 68 = .ok (.iload_n 2, 1) := by decide +kernel
theorem dX5_fits_69 : decode cX5_fits 69 = .ok (.iconst 1, 1) := by decide +kernel
theorem dX5_fits_70 : decode cX5_fits 70 = .ok (.aload_n 0, 1) := by decide +kernel
theorem dX5_fits_71 : decode cX5_fits 71 = .ok (.iload 5, 2) := by decide +kernel
theorem dX5_fits_73 : decode cX5_fits 73 = .ok (.iconst 0, 1) := by decide +kernel
theorem dX5_fits_74 : decode cX5_fits 74 = .ok (.invokevirtual 164, 3) := by decide +kernel
theorem dX5_fits_77 : decode cX5_fits 77 = .ok (.ishl, 1) := by decide +kernel
theorem dX5_fits_78 : decode cX5_fits 78 = .ok (.ior, 1) := by decide +kernel
theorem dX5_fits_79 : decode cX5_fits 79 = .ok (.istore_n 2, 1) := by decide +kernel
theorem dX5_fits_80 : decode cX5_fits 80 = .ok (.iload_n 3, 1) := by decide +kernel
theorem dX5_fits_81 : decode cX5_fits 81 = .ok (.iconst 1, 1) := by decide +kernel
theorem dX5_fits_82 : decode cX5_fits 82 = .ok (.aload_n 0, 1) := by decide +kernel
theorem dX5_fits_83 : decode cX5_fits 83 = .ok (.iload 5, 2) := by decide +kernel
theorem dX5_fits_85 : decode cX5_fits 85 = .ok (.iconst 1, 1) := by decide +kernel
theorem dX5_fits_86 : decode cX5_fits 86 = .ok (.invokevirtual 164, 3) := by decide +kernel
theorem dX5_fits_89 : decode cX5_fits 89 = .ok (.ishl, 1) := by decide +kernel
theorem dX5_fits_90 : decode cX5_fits 90 = .ok (.ior, 1) := by decide +kernel
theorem dX5_fits_91 : decode cX5_fits 91 = .ok (.istore_n 3, 1) := by decide +kernel
theorem dX5_fits_92 : decode cX5_fits 92 = .ok (.iinc 5 1, 3) := by decide +kernel
theorem dX5_fits_95 : decode cX5_fits 95 = .ok (.goto (-85), 3) := by decide +kernel
theorem dX5_fits_98 : decode cX5_fits 98 = .ok (.iload 4, 2) := by decide +kernel
theorem dX5_fits_100 : decode cX5_fits 100 = .ok (.ireturn, 1) := by decide +kernel
set_option maxRecDepth 20000 in
theorem ggX5_atOnce_X5_payable : GoodIn wsX5_atOnce wsX5_payable := goodIn_r _ [5, 6, 7, 8, 9, 4, 10, 11, 12, 13, 14, 15, 16, 17, 18, 19, 20, 21, 22, 23, 24, 25, 26, 27, 28, 29, 30, 31, 32, 33, 34, 35, 36, 37, 38, 39, 40, 41, 42, 43, 44, 52, 53, 54, 55, 56, 57, 58, 59, 60, 61, 62, 63, 64, 65, 66, 67, 68, 69, 70, 71, 72, 73, 74, 75, 76, 77, 78, 79, 80, 81] (by decide +kernel) (by decide +kernel)
set_option maxRecDepth 20000 in
theorem gX5_atOnce_X5_payable : GoodIn wsX5_atOnce (wsV RX5 195 RX5 yX5_payable wsX5_payable) := goodIn_app (goodIn_of _ (by decide +kernel)) ggX5_atOnce_X5_payable
set_option maxRecDepth 20000 in
theorem ggX5_atOnce_X5_bits : GoodIn wsX5_atOnce wsX5_bits := goodIn_r _ [47] (by decide +kernel) (by decide +kernel)
set_option maxRecDepth 20000 in
theorem gX5_atOnce_X5_bits : GoodIn wsX5_atOnce (va_wsS RX5 177 yX5_bits wsX5_bits) := goodIn_app (goodIn_of _ (by decide +kernel)) ggX5_atOnce_X5_bits
set_option maxRecDepth 20000 in
theorem ggX5_atOnce_X5_fits : GoodIn wsX5_atOnce wsX5_fits := goodIn_r _ [51, 6, 21, 22, 4, 23, 11, 12, 13, 14, 15, 52, 53, 54, 55, 56, 57, 58, 59, 60, 61, 62, 63, 64, 65, 66, 67, 68, 69, 70, 71, 72, 73, 74, 75, 76, 77, 78, 79, 80, 81] (by decide +kernel) (by decide +kernel)
set_option maxRecDepth 20000 in
theorem gX5_atOnce_X5_fits : GoodIn wsX5_atOnce (wsV RX5 198 RX5 yX5_fits wsX5_fits) := goodIn_app (goodIn_of _ (by decide +kernel)) ggX5_atOnce_X5_fits
theorem dX5_atOnce_0 : decode cX5_atOnce 0 = .ok (.aload_n 0, 1) := by decide +kernel
theorem dX5_atOnce_1 : decode cX5_atOnce 1 = .ok (.iload_n 1, 1) := by decide +kernel
theorem dX5_atOnce_2 : decode cX5_atOnce 2 = .ok (.invokevirtual 195, 3) := by decide +kernel
theorem dX5_atOnce_5 : decode cX5_atOnce 5 = .ok (.istore_n 2, 1) := by decide +kernel
theorem dX5_atOnce_6 : decode cX5_atOnce 6 = .ok (.iconst 0, 1) := by decide +kernel
theorem dX5_atOnce_7 : decode cX5_atOnce 7 = .ok (.istore_n 3, 1) := by decide +kernel
theorem dX5_atOnce_8 : decode cX5_atOnce 8 = .ok (.iload_n 2, 1) := by decide +kernel
theorem dX5_atOnce_9 : decode cX5_atOnce 9 = .ok (.istore 4, 2) := by decide +kernel
theorem dX5_atOnce_11 : decode cX5_atOnce 11 = .ok (.iload 4, 2) := by decide +kernel
theorem dX5_atOnce_13 : decode cX5_atOnce 13 = .ok (.ifCond .le 42, 3) := by decide +kernel
theorem dX5_atOnce_16 : decode cX5_atOnce 16 = .ok (.iload 4, 2) := by decide +kernel
theorem dX5_atOnce_18 : decode cX5_atOnce 18 = .ok (.invokestatic 177, 3) := by decide +kernel
theorem dX5_atOnce_21 : decode cX5_atOnce 21 = .ok (.iload_n 3, 1) := by decide +kernel
theorem dX5_atOnce_22 : decode cX5_atOnce 22 = .ok (.if_icmp .le 20, 3) := by decide +kernel
theorem dX5_atOnce_25 : decode cX5_atOnce 25 = .ok (.aload_n 0, 1) := by decide +kernel
theorem dX5_atOnce_26 : decode cX5_atOnce 26 = .ok (.iload 4, 2) := by decide +kernel
theorem dX5_atOnce_28 : decode cX5_atOnce 28 = .ok (.invokevirtual 198, 3) := by decide +kernel
theorem dX5_atOnce_31 : decode cX5_atOnce 31 = .ok (.ifCond .eq 11, 3) := by decide +kernel
theorem dX5_atOnce_34 : decode cX5_atOnce 34 = .ok (.iload 4, 2) := by decide +kernel
theorem dX5_atOnce_36 : decode cX5_atOnce 36 = .ok (.invokestatic 177, 3) := by decide +kernel
theorem dX5_atOnce_39 : decode cX5_atOnce 39 = .ok (.goto 4, 3) := by decide +kernel
theorem dX5_atOnce_42 : decode cX5_atOnce 42 = .ok (.iload_n 3, 1) := by decide +kernel
theorem dX5_atOnce_43 : decode cX5_atOnce 43 = .ok (.istore_n 3, 1) := by decide +kernel
theorem dX5_atOnce_44 : decode cX5_atOnce 44 = .ok (.iload 4, 2) := by decide +kernel
theorem dX5_atOnce_46 : decode cX5_atOnce 46 = .ok (.iconst 1, 1) := by decide +kernel
theorem dX5_atOnce_47 : decode cX5_atOnce 47 = .ok (.isub, 1) := by decide +kernel
theorem dX5_atOnce_48 : decode cX5_atOnce 48 = .ok (.iload_n 2, 1) := by decide +kernel
theorem dX5_atOnce_49 : decode cX5_atOnce 49 = .ok (.iand, 1) := by decide +kernel
theorem dX5_atOnce_50 : decode cX5_atOnce 50 = .ok (.istore 4, 2) := by decide +kernel
theorem dX5_atOnce_52 : decode cX5_atOnce 52 = .ok (.goto (-41), 3) := by decide +kernel
theorem dX5_atOnce_55 : decode cX5_atOnce 55 = .ok (.iload_n 3, 1) := by decide +kernel
theorem dX5_atOnce_56 : decode cX5_atOnce 56 = .ok (.ireturn, 1) := by decide +kernel
set_option maxRecDepth 20000 in
theorem ggX5_hour_X5_isHour : GoodIn wsX5_hour wsX5_isHour := goodIn_r _ [4, 5, 6, 3, 7] (by decide +kernel) (by decide +kernel)
set_option maxRecDepth 20000 in
theorem gX5_hour_X5_isHour : GoodIn wsX5_hour (va_wsS RX5 183 yX5_isHour wsX5_isHour) := goodIn_app (goodIn_of _ (by decide +kernel)) ggX5_hour_X5_isHour
set_option maxRecDepth 20000 in
theorem ggX5_hour_X5_atOnce : GoodIn wsX5_hour wsX5_atOnce := goodIn_r _ [11, 12, 13, 14, 3, 15, 16, 17, 18, 19, 20, 21, 22, 23, 24, 25, 26, 27, 28, 29, 30, 31, 32, 33, 34, 35, 36, 37, 38, 39, 40, 41, 42, 43, 44, 45, 46, 47, 48, 49, 50, 51, 52, 53, 54, 55, 56, 57, 58, 59, 60, 61, 67, 68, 69, 70, 71, 72, 73, 74, 75, 76, 77, 78, 79, 80, 81, 82, 83, 84, 85, 86, 87, 88, 89, 90, 91, 92, 93, 94, 95, 96] (by decide +kernel) (by decide +kernel)
set_option maxRecDepth 20000 in
theorem gX5_hour_X5_atOnce : GoodIn wsX5_hour (wsV RX5 201 RX5 yX5_atOnce wsX5_atOnce) := goodIn_app (goodIn_of _ (by decide +kernel)) ggX5_hour_X5_atOnce
set_option maxRecDepth 20000 in
theorem ggX5_hour_X5_payable : GoodIn wsX5_hour wsX5_payable := goodIn_r _ [15, 16, 17, 18, 19, 3, 20, 21, 22, 23, 24, 25, 26, 27, 28, 29, 30, 31, 32, 33, 34, 35, 36, 37, 38, 39, 40, 41, 42, 43, 44, 45, 46, 47, 48, 49, 50, 51, 52, 53, 54, 67, 68, 69, 70, 71, 72, 73, 74, 75, 76, 77, 78, 79, 80, 81, 82, 83, 84, 85, 86, 87, 88, 89, 90, 91, 92, 93, 94, 95, 96] (by decide +kernel) (by decide +kernel)
set_option maxRecDepth 20000 in
theorem gX5_hour_X5_payable : GoodIn wsX5_hour (wsV RX5 195 RX5 yX5_payable wsX5_payable) := goodIn_app (goodIn_of _ (by decide +kernel)) ggX5_hour_X5_payable
set_option maxRecDepth 20000 in
theorem ggX5_hour_X5_tells : GoodIn wsX5_hour wsX5_tells := goodIn_r _ [65, 66, 67, 68, 69, 70, 71, 72, 73, 74, 75, 76, 77, 78, 79, 80, 81, 82, 83, 84, 85, 86, 87, 88, 89, 90, 91, 92, 93, 94, 95, 96] (by decide +kernel) (by decide +kernel)
set_option maxRecDepth 20000 in
theorem gX5_hour_X5_tells : GoodIn wsX5_hour (wsV RX5 94 RX5 yX5_tells wsX5_tells) := goodIn_app (goodIn_of _ (by decide +kernel)) ggX5_hour_X5_tells
theorem dX5_hour_0 : decode cX5_hour 0 = .ok (.iload_n 1, 1) := by decide +kernel
theorem dX5_hour_1 : decode cX5_hour 1 = .ok (.invokestatic 183, 3) := by decide +kernel
theorem dX5_hour_4 : decode cX5_hour 4 = .ok (.ifCond .eq 20, 3) := by decide +kernel
theorem dX5_hour_7 : decode cX5_hour 7 = .ok (.aload_n 0, 1) := by decide +kernel
theorem dX5_hour_8 : decode cX5_hour 8 = .ok (.aload_n 0, 1) := by decide +kernel
theorem dX5_hour_9 : decode cX5_hour 9 = .ok (.iload_n 1, 1) := by decide +kernel
theorem dX5_hour_10 : decode cX5_hour 10 = .ok (.invokevirtual 201, 3) := by decide +kernel
theorem dX5_hour_13 : decode cX5_hour 13 = .ok (.aload_n 0, 1) := by decide +kernel
theorem dX5_hour_14 : decode cX5_hour 14 = .ok (.iload_n 1, 1) := by decide +kernel
theorem dX5_hour_15 : decode cX5_hour 15 = .ok (.invokevirtual 195, 3) := by decide +kernel
theorem dX5_hour_18 : decode cX5_hour 18 = .ok (.invokevirtual 94, 3) := by decide +kernel
theorem dX5_hour_21 : decode cX5_hour 21 = .ok (.goto 4, 3) := by decide +kernel
theorem dX5_hour_24 : decode cX5_hour 24 = .ok (.iconst (-1), 1) := by decide +kernel
theorem dX5_hour_25 : decode cX5_hour 25 = .ok (.ireturn, 1) := by decide +kernel
set_option maxRecDepth 20000 in
theorem ggX5_needRound_X5_meets : GoodIn wsX5_needRound wsX5_meets := goodIn_r _ [8, 9, 10, 22, 23, 24, 25, 26, 27, 28, 29, 30, 31, 32, 33, 34, 35, 36, 37, 38, 39, 40, 41, 42, 43, 44, 45, 46, 47, 48, 49, 50, 51] (by decide +kernel) (by decide +kernel)
set_option maxRecDepth 20000 in
theorem gX5_needRound_X5_meets : GoodIn wsX5_needRound (wsV RX5 86 RX5 yX5_meets wsX5_meets) := goodIn_app (goodIn_of _ (by decide +kernel)) ggX5_needRound_X5_meets
set_option maxRecDepth 20000 in
theorem ggX5_needRound_X5_rowAt : GoodIn wsX5_needRound wsX5_rowAt := goodIn_r _ [14, 15, 22, 23, 24, 25, 26, 27, 28, 29, 30, 31, 32, 33, 34, 35, 36, 37, 38, 39, 40, 41, 42, 43, 44, 45, 46, 47, 48, 49, 50, 51] (by decide +kernel) (by decide +kernel)
set_option maxRecDepth 20000 in
theorem gX5_needRound_X5_rowAt : GoodIn wsX5_needRound (wsV RX5 90 RX5 yX5_rowAt wsX5_rowAt) := goodIn_app (goodIn_of _ (by decide +kernel)) ggX5_needRound_X5_rowAt
set_option maxRecDepth 20000 in
theorem ggX5_needRound_X5_isHour : GoodIn wsX5_needRound wsX5_isHour := goodIn_r _ [18, 19, 20, 7, 21] (by decide +kernel) (by decide +kernel)
set_option maxRecDepth 20000 in
theorem gX5_needRound_X5_isHour : GoodIn wsX5_needRound (va_wsS RX5 183 yX5_isHour wsX5_isHour) := goodIn_app (goodIn_of _ (by decide +kernel)) ggX5_needRound_X5_isHour
theorem dX5_needRound_0 : decode cX5_needRound 0 = .ok (.aload_n 0, 1) := by decide +kernel
theorem dX5_needRound_1 : decode cX5_needRound 1 = .ok (.getfield 13, 3) := by decide +kernel
theorem dX5_needRound_4 : decode cX5_needRound 4 = .ok (.iload_n 1, 1) := by decide +kernel
theorem dX5_needRound_5 : decode cX5_needRound 5 = .ok (.iaload, 1) := by decide +kernel
theorem dX5_needRound_6 : decode cX5_needRound 6 = .ok (.ifCond .ge 9, 3) := by decide +kernel
theorem dX5_needRound_9 : decode cX5_needRound 9 = .ok (.aload_n 0, 1) := by decide +kernel
theorem dX5_needRound_10 : decode cX5_needRound 10 = .ok (.iconst 1, 1) := by decide +kernel
theorem dX5_needRound_11 : decode cX5_needRound 11 = .ok (.invokevirtual 86, 3) := by decide +kernel
theorem dX5_needRound_14 : decode cX5_needRound 14 = .ok (.ireturn, 1) := by decide +kernel
theorem dX5_needRound_15 : decode cX5_needRound 15 = .ok (.aload_n 0, 1) := by decide +kernel
theorem dX5_needRound_16 : decode cX5_needRound 16 = .ok (.getfield 13, 3) := by decide +kernel
theorem dX5_needRound_19 : decode cX5_needRound 19 = .ok (.iload_n 1, 1) := by decide +kernel
theorem dX5_needRound_20 : decode cX5_needRound 20 = .ok (.iaload, 1) := by decide +kernel
theorem dX5_needRound_21 : decode cX5_needRound 21 = .ok (.aload_n 0, 1) := by decide +kernel
theorem dX5_needRound_22 : decode cX5_needRound 22 = .ok (.getfield 143, 3) := by decide +kernel
theorem dX5_needRound_25 : decode cX5_needRound 25 = .ok (.if_icmp .eq 9, 3) := by decide +kernel
theorem dX5_needRound_28 : decode cX5_needRound 28 = .ok (.aload_n 0, 1) := by decide +kernel
theorem dX5_needRound_29 : decode cX5_needRound 29 = .ok (.iconst 5, 1) := by decide +kernel
theorem dX5_needRound_30 : decode cX5_needRound 30 = .ok (.invokevirtual 86, 3) := by decide +kernel
theorem dX5_needRound_33 : decode cX5_needRound 33 = .ok (.ireturn, 1) := by decide +kernel
theorem dX5_needRound_34 : decode cX5_needRound 34 = .ok (.iconst 1, 1) := by decide +kernel
theorem dX5_needRound_35 : decode cX5_needRound 35 = .ok (.istore_n 2, 1) := by decide +kernel
theorem dX5_needRound_36 : decode cX5_needRound 36 = .ok (.iconst 0, 1) := by decide +kernel
theorem dX5_needRound_37 : decode cX5_needRound 37 = .ok (.istore_n 3, 1) := by decide +kernel
theorem dX5_needRound_38 : decode cX5_needRound 38 = .ok (.iload_n 3, 1) := by decide +kernel
theorem dX5_needRound_39 : decode cX5_needRound 39 = .ok (.aload_n 0, 1) := by decide +kernel
theorem dX5_needRound_40 : decode cX5_needRound 40 = .ok (.getfield 143, 3) := by decide +kernel
theorem dX5_needRound_43 : decode cX5_needRound 43 = .ok (.if_icmp .ge 42, 3) := by decide +kernel
theorem dX5_needRound_46 : decode cX5_needRound 46 = .ok (.iload_n 2, 1) := by decide +kernel
theorem dX5_needRound_47 : decode cX5_needRound 47 = .ok (.ifCond .eq 30, 3) := by decide +kernel
theorem dX5_needRound_50 : decode cX5_needRound 50 = .ok (.aload_n 0, 1) := by decide +kernel
theorem dX5_needRound_51 : decode cX5_needRound 51 = .ok (.iload_n 1, 1) := by decide +kernel
theorem dX5_needRound_52 : decode cX5_needRound 52 = .ok (.iload_n 3, 1) := by decide +kernel
theorem dX5_needRound_53 : decode cX5_needRound 53 = .ok (.invokevirtual 90, 3) := by decide +kernel
theorem dX5_needRound_56 : decode cX5_needRound 56 = .ok (.invokestatic 183, 3) := by decide +kernel
theorem dX5_needRound_59 : decode cX5_needRound 59 = .ok (.ifCond .ne 14, 3) := by decide +kernel
theorem dX5_needRound_62 : decode cX5_needRound 62 = .ok (.aload_n 0, 1) := by decide +kernel
theorem dX5_needRound_63 : decode cX5_needRound 63 = .ok (.iload_n 1, 1) := by decide +kernel
theorem dX5_needRound_64 : decode cX5_needRound 64 = .ok (.iload_n 3, 1) := by decide +kernel
theorem dX5_needRound_65 : decode cX5_needRound 65 = .ok (.invokevirtual 90, 3) := by decide +kernel
theorem dX5_needRound_68 : decode cX5_needRound 68 = .ok (.bipush (-9), 2) := by decide +kernel
theorem dX5_needRound_70 : decode cX5_needRound 70 = .ok (.if_icmp .ne 7, 3) := by decide +kernel
theorem dX5_needRound_73 : decode cX5_needRound 73 = .ok (.iconst 1, 1) := by decide +kernel
theorem dX5_needRound_74 : decode cX5_needRound 74 = .ok (.goto 4, 3) := by decide +kernel
theorem dX5_needRound_77 : decode cX5_needRound 77 = .ok (.iconst 0, 1) := by decide +kernel
theorem dX5_needRound_78 : decode cX5_needRound 78 = .ok (.istore_n 2, 1) := by decide +kernel
theorem dX5_needRound_79 : decode cX5_needRound 79 = .ok (.iinc 3 1, 3) := by decide +kernel
theorem dX5_needRound_82 : decode cX5_needRound 82 = .ok (.goto (-44), 3) := by decide +kernel
theorem dX5_needRound_85 : decode cX5_needRound 85 = .ok (.iload_n 2, 1) := by decide +kernel
theorem dX5_needRound_86 : decode cX5_needRound 86 = .ok (.ifCond .ne 9, 3) := by decide +kernel
theorem dX5_needRound_89 : decode cX5_needRound 89 = .ok (.aload_n 0, 1) := by decide +kernel
theorem dX5_needRound_90 : decode cX5_needRound 90 = .ok (.iconst 3, 1) := by decide +kernel
theorem dX5_needRound_91 : decode cX5_needRound 91 = .ok (.invokevirtual 86, 3) := by decide +kernel
theorem dX5_needRound_94 : decode cX5_needRound 94 = .ok (.ireturn, 1) := by decide +kernel
theorem dX5_needRound_95 : decode cX5_needRound 95 = .ok (.iconst 0, 1) := by decide +kernel
theorem dX5_needRound_96 : decode cX5_needRound 96 = .ok (.istore_n 3, 1) := by decide +kernel
theorem dX5_needRound_97 : decode cX5_needRound 97 = .ok (.iload_n 3, 1) := by decide +kernel
theorem dX5_needRound_98 : decode cX5_needRound 98 = .ok (.aload_n 0, 1) := by decide +kernel
theorem dX5_needRound_99 : decode cX5_needRound 99 = .ok (.getfield 143, 3) := by decide +kernel
theorem dX5_needRound_102 : decode cX5_needRound 102 = .ok (.if_icmp .ge 21, 3) := by decide +kernel
theorem dX5_needRound_105 : decode cX5_needRound 105 = .ok (.aload_n 0, 1) := by decide +kernel
theorem dX5_needRound_106 : decode cX5_needRound 106 = .ok (.getfield 41, 3) := by decide +kernel
theorem dX5_needRound_109 : decode cX5_needRound 109 = .ok (.iload_n 3, 1) := by decide +kernel
theorem dX5_needRound_110 : decode cX5_needRound 110 = .ok (.aload_n 0, 1) := by decide +kernel
theorem dX5_needRound_111 : decode cX5_needRound 111 = .ok (.iload_n 1, 1) := by decide +kernel
theorem dX5_needRound_112 : decode cX5_needRound 112 = .ok (.iload_n 3, 1) := by decide +kernel
theorem dX5_needRound_113 : decode cX5_needRound 113 = .ok (.invokevirtual 90, 3) := by decide +kernel
theorem dX5_needRound_116 : decode cX5_needRound 116 = .ok (.iastore, 1) := by decide +kernel
theorem dX5_needRound_117 : decode cX5_needRound 117 = .ok (.iinc 3 1, 3) := by decide +kernel
theorem dX5_needRound_120 : decode cX5_needRound 120 = .ok (.goto (-23), 3) := by decide +kernel
theorem dX5_needRound_123 : decode cX5_needRound 123 = .ok (.iconst 0, 1) := by decide +kernel
theorem dX5_needRound_124 : decode cX5_needRound 124 = .ok (.ireturn, 1) := by decide +kernel
set_option maxRecDepth 20000 in
theorem ggX5_amiss_X5_canPay : GoodIn wsX5_amiss wsX5_canPay := goodIn_r _ [8, 9, 10, 11, 7, 12, 13, 14, 15, 16, 17, 18, 19, 20, 21, 22, 23, 24, 25, 26, 27, 28, 29, 30, 31, 32, 33, 34, 35, 36, 37, 38, 39, 40, 41, 42, 43, 44, 45, 46, 47, 48, 49, 50, 51, 52, 53, 54, 55, 56, 57, 58, 59, 60, 61, 62, 63, 64, 65, 66, 67, 68, 69, 70, 71, 72] (by decide +kernel) (by decide +kernel)
set_option maxRecDepth 20000 in
theorem gX5_amiss_X5_canPay : GoodIn wsX5_amiss (wsV RX5 192 RX5 yX5_canPay wsX5_canPay) := goodIn_app (goodIn_of _ (by decide +kernel)) ggX5_amiss_X5_canPay
set_option maxRecDepth 20000 in
theorem ggX5_amiss_X5_debtAt : GoodIn wsX5_amiss wsX5_debtAt := goodIn_r _ [12, 13, 43, 44, 45, 46, 47, 48, 49, 50, 51, 52, 53, 54, 55, 56, 57, 58, 59, 60, 61, 62, 63, 64, 65, 66, 67, 68, 69, 70, 71, 72] (by decide +kernel) (by decide +kernel)
set_option maxRecDepth 20000 in
theorem gX5_amiss_X5_debtAt : GoodIn wsX5_amiss (wsV RX5 164 RX5 yX5_debtAt wsX5_debtAt) := goodIn_app (goodIn_of _ (by decide +kernel)) ggX5_amiss_X5_debtAt
theorem dX5_amiss_0 : decode cX5_amiss 0 = .ok (.iconst 0, 1) := by decide +kernel
theorem dX5_amiss_1 : decode cX5_amiss 1 = .ok (.istore_n 1, 1) := by decide +kernel
theorem dX5_amiss_2 : decode cX5_amiss 2 = .ok (.iload_n 1, 1) := by decide +kernel
theorem dX5_amiss_3 : decode cX5_amiss 3 = .ok (.aload_n 0, 1) := by decide +kernel
theorem dX5_amiss_4 : decode cX5_amiss 4 = .ok (.getfield 143, 3) := by decide +kernel
theorem dX5_amiss_7 : decode cX5_amiss 7 = .ok (.if_icmp .ge 162, 3) := by decide +kernel
theorem dX5_amiss_10 : decode cX5_amiss 10 = .ok (.aload_n 0, 1) := by decide +kernel
theorem dX5_amiss_11 : decode cX5_amiss 11 = .ok (.iload_n 1, 1) := by decide +kernel
theorem dX5_amiss_12 : decode cX5_amiss 12 = .ok (.putfield 204, 3) := by decide +kernel
theorem dX5_amiss_15 : decode cX5_amiss 15 = .ok (.aload_n 0, 1) := by decide +kernel
theorem dX5_amiss_16 : decode cX5_amiss 16 = .ok (.getfield 41, 3) := by decide +kernel
theorem dX5_amiss_19 : decode cX5_amiss 19 = .ok (.iload_n 1, 1) := by decide +kernel
theorem dX5_amiss_20 : decode cX5_amiss 20 = .ok (.iaload, 1) := by decide +kernel
theorem dX5_amiss_21 : decode cX5_amiss 21 = .ok (.bipush (-9), 2) := by decide +kernel
theorem dX5_amiss_23 : decode cX5_amiss 23 = .ok (.if_icmp .eq 140, 3) := by decide +kernel
theorem dX5_amiss_26 : decode cX5_amiss 26 = .ok (.aload_n 0, 1) := by decide +kernel
theorem dX5_amiss_27 : decode cX5_amiss 27 = .ok (.iload_n 1, 1) := by decide +kernel
theorem dX5_amiss_28 : decode cX5_amiss 28 = .ok (.aload_n 0, 1) := by decide +kernel
theorem dX5_amiss_29 : decode cX5_amiss 29 = .ok (.getfield 41, 3) := by decide +kernel
theorem dX5_amiss_32 : decode cX5_amiss 32 = .ok (.iload_n 1, 1) := by decide +kernel
theorem dX5_amiss_33 : decode cX5_amiss 33 = .ok (.iaload, 1) := by decide +kernel
theorem dX5_amiss_34 : decode cX5_amiss 34 = .ok (.invokevirtual 192, 3) := by decide +kernel
theorem dX5_amiss_37 : decode cX5_amiss 37 = .ok (.ifCond .ne 5, 3) := by decide +kernel
theorem dX5_amiss_40 : decode cX5_amiss 40 = .ok (.iconst 1, 1) := by decide +kernel
theorem dX5_amiss_41 : decode cX5_amiss 41 = .ok (.ireturn, 1) := by decide +kernel
theorem dX5_amiss_42 : decode cX5_amiss 42 = .ok (.iconst 0, 1) := by decide +kernel
theorem dX5_amiss_43 : decode cX5_amiss 43 = .ok (.istore_n 2, 1) := by decide +kernel
theorem dX5_amiss_44 : decode cX5_amiss 44 = .ok (.iconst 0, 1) := by decide +kernel
theorem dX5_amiss_45 : decode cX5_amiss 45 = .ok (.istore_n 3, 1) := by decide +kernel
theorem dX5_amiss_46 : decode cX5_amiss 46 = .ok (.iconst 0, 1) := by decide +kernel
theorem dX5_amiss_47 : decode cX5_amiss 47 = .ok (.istore 4, 2) := by decide +kernel
theorem dX5_amiss_49 : decode cX5_amiss 49 = .ok (.iload 4, 2) := by decide +kernel
theorem dX5_amiss_51 : decode cX5_amiss 51 = .ok (.iload_n 1, 1) := by decide +kernel
theorem dX5_amiss_52 : decode cX5_amiss 52 = .ok (.if_icmp .ge 93, 3) := by decide +kernel
theorem dX5_amiss_55 : decode cX5_amiss 55 = .ok (.iload_n 2, 1) := by decide +kernel
theorem dX5_amiss_56 : decode cX5_amiss 56 = .ok (.ifCond .ne 35, 3) := by decide +kernel
theorem dX5_amiss_59 : decode cX5_amiss 59 = .ok (.aload_n 0, 1) := by decide +kernel
theorem dX5_amiss_60 : decode cX5_amiss 60 = .ok (.getfield 41, 3) := by decide +kernel
theorem dX5_amiss_63 : decode cX5_amiss 63 = .ok (.iload 4, 2) := by decide +kernel
theorem dX5_amiss_65 : decode cX5_amiss 65 = .ok (.iaload, 1) := by decide +kernel
theorem dX5_amiss_66 : decode cX5_amiss 66 = .ok (.aload_n 0, 1) := by decide +kernel
theorem dX5_amiss_67 : decode cX5_amiss 67 = .ok (.getfield 41, 3) := by decide +kernel
theorem dX5_amiss_70 : decode cX5_amiss 70 = .ok (.iload_n 1, 1) := by decide +kernel
theorem dX5_amiss_71 : decode cX5_amiss 71 = .ok (.iaload, 1) := by decide +kernel
theorem dX5_amiss_72 : decode cX5_amiss 72 = .ok (.if_icmp .ne 23, 3) := by decide +kernel
theorem dX5_amiss_75 : decode cX5_amiss 75 = .ok (.aload_n 0, 1) := by decide +kernel
theorem dX5_amiss_76 : decode cX5_amiss 76 = .ok (.iload 4, 2) := by decide +kernel
theorem dX5_amiss_78 : decode cX5_amiss 78 = .ok (.iconst 0, 1) := by decide +kernel
theorem dX5_amiss_79 : decode cX5_amiss 79 = .ok (.invokevirtual 164, 3) := by decide +kernel
theorem dX5_amiss_82 : decode cX5_amiss 82 = .ok (.aload_n 0, 1) := by decide +kernel
theorem dX5_amiss_83 : decode cX5_amiss 83 = .ok (.iload_n 1, 1) := by decide +kernel
theorem dX5_amiss_84 : decode cX5_amiss 84 = .ok (.iconst 0, 1) := by decide +kernel
theorem dX5_amiss_85 : decode cX5_amiss 85 = .ok (.invokevirtual 164, 3) := by decide +kernel
theorem dX5_amiss_88 : decode cX5_amiss 88 = .ok (.if_icmp .ne 7, 3) := by decide +kernel
theorem dX5_amiss_91 : decode cX5_amiss 91 = .ok (.iconst 1, 1) := by decide +kernel
theorem dX5_amiss_92 : decode cX5_amiss 92 = .ok (.goto 4, 3) := by decide +kernel
theorem dX5_amiss_95 : decode cX5_amiss 95 = .ok (.iconst 0, 1) := by decide +kernel
theorem dX5_amiss_96 : decode cX5_amiss 96 = .ok (.istore_n 2, 1) := by decide +kernel
theorem dX5_amiss_97 : decode cX5_amiss 97 = .ok (.iload_n 3, 1) := by decide +kernel
theorem dX5_amiss_98 : decode cX5_amiss 98 = .ok (.ifCond .ne 35, 3) := by decide +kernel
theorem dX5_amiss_101 : decode cX5_amiss 101 = .ok (.aload_n 0, 1) := by decide +kernel
theorem dX5_amiss_102 : decode cX5_amiss 102 = .ok (.getfield 41, 3) := by decide +kernel
theorem dX5_amiss_105 : decode cX5_amiss 105 = .ok (.iload 4, 2) := by decide +kernel
theorem dX5_amiss_107 : decode cX5_amiss 107 = .ok (.iaload, 1) := by decide +kernel
theorem dX5_amiss_108 : decode cX5_amiss 108 = .ok (.aload_n 0, 1) := by decide +kernel
theorem dX5_amiss_109 : decode cX5_amiss 109 = .ok (.getfield 41, 3) := by decide +kernel
theorem dX5_amiss_112 : decode cX5_amiss 112 = .ok (.iload_n 1, 1) := by decide +kernel
theorem dX5_amiss_113 : decode cX5_amiss 113 = .ok (.iaload, 1) := by decide +kernel
theorem dX5_amiss_114 : decode cX5_amiss 114 = .ok (.if_icmp .ne 23, 3) := by decide +kernel
theorem dX5_amiss_117 : decode cX5_amiss 117 = .ok (.aload_n 0, 1) := by decide +kernel
theorem dX5_amiss_118 : decode cX5_amiss 118 = .ok (.iload 4, 2) := by decide +kernel
theorem dX5_amiss_120 : decode cX5_amiss 120 = .ok (.iconst 1, 1) := by decide +kernel
theorem dX5_amiss_121 : decode cX5_amiss 121 = .ok (.invokevirtual 164, 3) := by decide +kernel
theorem dX5_amiss_124 : decode cX5_amiss 124 = .ok (.aload_n 0, 1) := by decide +kernel
theorem dX5_amiss_125 : decode cX5_amiss 125 = .ok (.iload_n 1, 1) := by decide +kernel
