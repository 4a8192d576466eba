set_option maxRecDepth 20000 in
theorem ggX0_init_J7_fill_53178 : GoodIn wsX0_init wsJ7_fill_53178 := goodIn_r _ [13] (by decide +kernel) (by decide +kernel)
set_option maxRecDepth 20000 in
theorem gX0_init_J7_fill_53178 : GoodIn wsX0_init (va_wsS RX0 24 yJ7_fill_53178 wsJ7_fill_53178) := goodIn_app (goodIn_of _ (by decide +kernel)) ggX0_init_J7_fill_53178
theorem dX0_init_0 : decode cX0_init 0 = .ok (.aload_n 0, 1) := by decide +kernel
theorem dX0_init_1 : decode cX0_init 1 = .ok (.invokespecial 3, 3) := by decide +kernel
theorem dX0_init_4 : decode cX0_init 4 = .ok (.aload_n 0, 1) := by decide +kernel
theorem dX0_init_5 : decode cX0_init 5 = .ok (.bipush 8, 2) := by decide +kernel
theorem dX0_init_7 : decode cX0_init 7 = .ok (.newarray .int, 2) := by decide +kernel
theorem dX0_init_9 : decode cX0_init 9 = .ok (.putfield 9, 3) := by decide +kernel
theorem dX0_init_12 : decode cX0_init 12 = .ok (.aload_n 0, 1) := by decide +kernel
theorem dX0_init_13 : decode cX0_init 13 = .ok (.iconst 3, 1) := by decide +kernel
theorem dX0_init_14 : decode cX0_init 14 = .ok (.bipush 8, 2) := by decide +kernel
theorem dX0_init_16 : decode cX0_init 16 = .ok (.multianewarray 15 2, 4) := by decide +kernel
theorem dX0_init_20 : decode cX0_init 20 = .ok (.putfield 17, 3) := by decide +kernel
theorem dX0_init_23 : decode cX0_init 23 = .ok (.aload_n 0, 1) := by decide +kernel
theorem dX0_init_24 : decode cX0_init 24 = .ok (.iconst 3, 1) := by decide +kernel
theorem dX0_init_25 : decode cX0_init 25 = .ok (.newarray .boolean, 2) := by decide +kernel
theorem dX0_init_27 : decode cX0_init 27 = .ok (.putfield 20, 3) := by decide +kernel
theorem dX0_init_30 : decode cX0_init 30 = .ok (.aload_n 0, 1) := by decide +kernel
theorem dX0_init_31 : decode cX0_init 31 = .ok (.getfield 9, 3) := by decide +kernel
theorem dX0_init_34 : decode cX0_init 34 = .ok (.bipush (-9), 2) := by decide +kernel
theorem dX0_init_36 : decode cX0_init 36 = .ok (.invokestatic 24, 3) := by decide +kernel
theorem dX0_init_39 : decode cX0_init 39 = .ok (.return_, 1) := by decide +kernel
set_option maxRecDepth 20000 in
theorem ggX0_forget_J7_fill_53178 : GoodIn wsX0_forget wsJ7_fill_53178 := goodIn_r _ [6] (by decide +kernel) (by decide +kernel)
set_option maxRecDepth 20000 in
theorem gX0_forget_J7_fill_53178 : GoodIn wsX0_forget (va_wsS RX0 24 yJ7_fill_53178 wsJ7_fill_53178) := goodIn_app (goodIn_of _ (by decide +kernel)) ggX0_forget_J7_fill_53178
theorem dX0_forget_0 : decode cX0_forget 0 = .ok (.aload_n 0, 1) := by decide +kernel
theorem dX0_forget_1 : decode cX0_forget 1 = .ok (.getfield 9, 3) := by decide +kernel
theorem dX0_forget_4 : decode cX0_forget 4 = .ok (.bipush (-9), 2) := by decide +kernel
theorem dX0_forget_6 : decode cX0_forget 6 = .ok (.invokestatic 24, 3) := by decide +kernel
theorem dX0_forget_9 : decode cX0_forget 9 = .ok (.iconst 0, 1) := by decide +kernel
theorem dX0_forget_10 : decode cX0_forget 10 = .ok (.istore_n 1, 1) := by decide +kernel
theorem dX0_forget_11 : decode cX0_forget 11 = .ok (.iload_n 1, 1) := by decide +kernel
theorem dX0_forget_12 : decode cX0_forget 12 = .ok (.iconst 3, 1) := by decide +kernel
theorem dX0_forget_13 : decode cX0_forget 13 = .ok (.if_icmp .ge 16, 3) := by decide +kernel
theorem dX0_forget_16 : decode cX0_forget 16 = .ok (.aload_n 0, 1) := by decide +kernel
theorem dX0_forget_17 : decode cX0_forget 17 = .ok (.getfield 20, 3) := by decide +kernel
theorem dX0_forget_20 : decode cX0_forget 20 = .ok (.iload_n 1, 1) := by decide +kernel
theorem dX0_forget_21 : decode cX0_forget 21 = .ok (.iconst 0, 1) := by decide +kernel
theorem dX0_forget_22 : decode cX0_forget 22 = .ok (.bastore, 1) := by decide +kernel
theorem dX0_forget_23 : decode cX0_forget 23 = .ok (.iinc 1 1, 3) := by decide +kernel
theorem dX0_forget_26 : decode cX0_forget 26 = .ok (.goto (-15), 3) := by decide +kernel
theorem dX0_forget_29 : decode cX0_forget 29 = .ok (.return_, 1) := by decide +kernel
theorem dX0_isPaid_0 : decode cX0_isPaid 0 = .ok (.aload_n 0, 1) := by decide +kernel
theorem dX0_isPaid_1 : decode cX0_isPaid 1 = .ok (.getfield 9, 3) := by decide +kernel
theorem dX0_isPaid_4 : decode cX0_isPaid 4 = .ok (.iload_n 1, 1) := by decide +kernel
theorem dX0_isPaid_5 : decode cX0_isPaid 5 = .ok (.iaload, 1) := by decide +kernel
theorem dX0_isPaid_6 : decode cX0_isPaid 6 = .ok (.bipush (-9), 2) := by decide +kernel
theorem dX0_isPaid_8 : decode cX0_isPaid 8 = .ok (.if_icmp .eq 7, 3) := by decide +kernel
theorem dX0_isPaid_11 : decode cX0_isPaid 11 = .ok (.iconst 1, 1) := by decide +kernel
theorem dX0_isPaid_12 : decode cX0_isPaid 12 = .ok (.goto 4, 3) := by decide +kernel
theorem dX0_isPaid_15 : decode cX0_isPaid 15 = .ok (.iconst 0, 1) := by decide +kernel
theorem dX0_isPaid_16 : decode cX0_isPaid 16 = .ok (.ireturn, 1) := by decide +kernel
set_option maxRecDepth 20000 in
theorem ggX0_howManyPaid_X0_isPaid : GoodIn wsX0_howManyPaid wsX0_isPaid := goodIn_r _ [5, 6, 7, 8, 9] (by decide +kernel) (by decide +kernel)
set_option maxRecDepth 20000 in
theorem gX0_howManyPaid_X0_isPaid : GoodIn wsX0_howManyPaid (wsV RX0 30 RX0 yX0_isPaid wsX0_isPaid) := goodIn_app (goodIn_of _ (by decide +kernel)) ggX0_howManyPaid_X0_isPaid
theorem dX0_howManyPaid_0 : decode cX0_howManyPaid 0 = .ok (.iconst 0, 1) := by decide +kernel
theorem dX0_howManyPaid_1 : decode cX0_howManyPaid 1 = .ok (.istore_n 2, 1) := by decide +kernel
theorem dX0_howManyPaid_2 : decode cX0_howManyPaid 2 = .ok (.iconst 0, 1) := by decide +kernel
theorem dX0_howManyPaid_3 : decode cX0_howManyPaid 3 = .ok (.istore_n 3, 1) := by decide +kernel
theorem dX0_howManyPaid_4 : decode cX0_howManyPaid 4 = .ok (.iload_n 3, 1) := by decide +kernel
theorem dX0_howManyPaid_5 : decode cX0_howManyPaid 5 = .ok (.iload_n 1, 1) := by decide +kernel
theorem dX0_howManyPaid_6 : decode cX0_howManyPaid 6 = .ok (.if_icmp .ge 20, 3) := by decide +kernel
theorem dX0_howManyPaid_9 : decode cX0_howManyPaid 9 = .ok (.aload_n 0, 1) := by decide +kernel
theorem dX0_howManyPaid_10 : decode cX0_howManyPaid 10 = .ok (.iload_n 3, 1) := by decide +kernel
theorem dX0_howManyPaid_11 : decode cX0_howManyPaid 11 = .ok (.invokevirtual 30, 3) := by decide +kernel
theorem dX0_howManyPaid_14 : decode cX0_howManyPaid 14 = .ok (.ifCond .eq 6, 3) := by decide +kernel
theorem dX0_howManyPaid_17 : decode cX0_howManyPaid 17 = .ok (.iinc 2 1, 3) := by decide +kernel
theorem dX0_howManyPaid_20 : decode cX0_howManyPaid 20 = .ok (.iinc 3 1, 3) := by decide +kernel
theorem dX0_howManyPaid_23 : decode cX0_howManyPaid 23 = .ok (.goto (-19), 3) := by decide +kernel
theorem dX0_howManyPaid_26 : decode cX0_howManyPaid 26 = .ok (.iload_n 2, 1) := by decide +kernel
theorem dX0_howManyPaid_27 : decode cX0_howManyPaid 27 = .ok (.ireturn, 1) := by decide +kernel
theorem dX0_howManyKept_0 : decode cX0_howManyKept 0 = .ok (.iconst 0, 1) := by decide +kernel
theorem dX0_howManyKept_1 : decode cX0_howManyKept 1 = .ok (.istore_n 1, 1) := by decide +kernel
theorem dX0_howManyKept_2 : decode cX0_howManyKept 2 = .ok (.aload_n 0, 1) := by decide +kernel
theorem dX0_howManyKept_3 : decode cX0_howManyKept 3 = .ok (.getfield 20, 3) := by decide +kernel
theorem dX0_howManyKept_6 : decode cX0_howManyKept 6 = .ok (.astore_n 2, 1) := by decide +kernel
theorem dX0_howManyKept_7 : decode cX0_howManyKept 7 = .ok (.aload_n 2, 1) := by decide +kernel
theorem dX0_howManyKept_8 : decode cX0_howManyKept 8 = .ok (.arraylength, 1) := by decide +kernel
theorem dX0_howManyKept_9 : decode cX0_howManyKept 9 = .ok (.istore_n 3, 1) := by decide +kernel
theorem dX0_howManyKept_10 : decode cX0_howManyKept 10 = .ok (.iconst 0, 1) := by decide +kernel
theorem dX0_howManyKept_11 : decode cX0_howManyKept 11 = .ok (.istore 4, 2) := by decide +kernel
theorem dX0_howManyKept_13 : decode cX0_howManyKept 13 = .ok (.iload 4, 2) := by decide +kernel
theorem dX0_howManyKept_15 : decode cX0_howManyKept 15 = .ok (.iload_n 3, 1) := by decide +kernel
theorem dX0_howManyKept_16 : decode cX0_howManyKept 16 = .ok (.if_icmp .ge 23, 3) := by decide +kernel
theorem dX0_howManyKept_19 : decode cX0_howManyKept 19 = .ok (.aload_n 2, 1) := by decide +kernel
theorem dX0_howManyKept_20 : decode cX0_howManyKept 20 = .ok (.iload 4, 2) := by decide +kernel
theorem dX0_howManyKept_22 : decode cX0_howManyKept 22 = .ok (.baload, 1) := by decide +kernel
theorem dX0_howManyKept_23 : decode cX0_howManyKept 23 = .ok (.istore 5, 2) := by decide +kernel
theorem dX0_howManyKept_25 : decode cX0_howManyKept 25 = .ok (.iload 5, 2) := by decide +kernel
theorem dX0_howManyKept_27 : decode cX0_howManyKept 27 = .ok (.ifCond .eq 6, 3) := by decide +kernel
theorem dX0_howManyKept_30 : decode cX0_howManyKept 30 = .ok (.iinc 1 1, 3) := by decide +kernel
theorem dX0_howManyKept_33 : decode cX0_howManyKept 33 = .ok (.iinc 4 1, 3) := by decide +kernel
theorem dX0_howManyKept_36 : decode cX0_howManyKept 36 = .ok (.goto (-23), 3) := by decide +kernel
theorem dX0_howManyKept_39 : decode cX0_howManyKept 39 = .ok (.iload_n 1, 1) := by decide +kernel
theorem dX0_howManyKept_40 : decode cX0_howManyKept 40 = .ok (.ireturn, 1) := by decide +kernel
theorem dX0_store_0 : decode cX0_store 0 = .ok (.aload_n 0, 1) := by decide +kernel
theorem dX0_store_1 : decode cX0_store 1 = .ok (.getfield 9, 3) := by decide +kernel
theorem dX0_store_4 : decode cX0_store 4 = .ok (.iconst 0, 1) := by decide +kernel
theorem dX0_store_5 : decode cX0_store 5 = .ok (.aload_n 0, 1) := by decide +kernel
theorem dX0_store_6 : decode cX0_store 6 = .ok (.getfield 17, 3) := by decide +kernel
theorem dX0_store_9 : decode cX0_store 9 = .ok (.iload_n 1, 1) := by decide +kernel
theorem dX0_store_10 : decode cX0_store 10 = .ok (.aaload, 1) := by decide +kernel
theorem dX0_store_11 : decode cX0_store 11 = .ok (.iconst 0, 1) := by decide +kernel
theorem dX0_store_12 : decode cX0_store 12 = .ok (.bipush 8, 2) := by decide +kernel
theorem dX0_store_14 : decode cX0_store 14 = .ok (.invokestatic 34, 3) := by decide +kernel
theorem dX0_store_17 : decode cX0_store 17 = .ok (.aload_n 0, 1) := by decide +kernel
theorem dX0_store_18 : decode cX0_store 18 = .ok (.getfield 20, 3) := by decide +kernel
theorem dX0_store_21 : decode cX0_store 21 = .ok (.iload_n 1, 1) := by decide +kernel
theorem dX0_store_22 : decode cX0_store 22 = .ok (.iconst 1, 1) := by decide +kernel
theorem dX0_store_23 : decode cX0_store 23 = .ok (.bastore, 1) := by decide +kernel
theorem dX0_store_24 : decode cX0_store 24 = .ok (.return_, 1) := by decide +kernel
theorem dX0_restore_0 : decode cX0_restore 0 = .ok (.aload_n 0, 1) := by decide +kernel
theorem dX0_restore_1 : decode cX0_restore 1 = .ok (.getfield 17, 3) := by decide +kernel
theorem dX0_restore_4 : decode cX0_restore 4 = .ok (.iload_n 1, 1) := by decide +kernel
theorem dX0_restore_5 : decode cX0_restore 5 = .ok (.aaload, 1) := by decide +kernel
theorem dX0_restore_6 : decode cX0_restore 6 = .ok (.iconst 0, 1) := by decide +kernel
theorem dX0_restore_7 : decode cX0_restore 7 = .ok (.aload_n 0, 1) := by decide +kernel
theorem dX0_restore_8 : decode cX0_restore 8 = .ok (.getfield 9, 3) := by decide +kernel
theorem dX0_restore_11 : decode cX0_restore 11 = .ok (.iconst 0, 1) := by decide +kernel
theorem dX0_restore_12 : decode cX0_restore 12 = .ok (.bipush 8, 2) := by decide +kernel
theorem dX0_restore_14 : decode cX0_restore 14 = .ok (.invokestatic 34, 3) := by decide +kernel
theorem dX0_restore_17 : decode cX0_restore 17 = .ok (.return_, 1) := by decide +kernel
set_option maxRecDepth 20000 in
theorem ggX1_init_X3_init : GoodIn wsX1_init wsX3_init := goodIn_r _ [14, 15, 2, 3, 16, 17, 18, 19, 20, 21, 22, 23, 24, 25, 26, 27, 33, 34, 35, 36, 37, 38, 39, 40, 41, 42, 43] (by decide +kernel) (by decide +kernel)
set_option maxRecDepth 20000 in
theorem gX1_init_X3_init_n28 : GoodIn wsX1_init (wsX3_init) := ggX1_init_X3_init
theorem dX1_init_0 : decode cX1_init 0 = .ok (.aload_n 0, 1) := by decide +kernel
theorem dX1_init_1 : decode cX1_init 1 = .ok (.invokespecial 3, 3) := by decide +kernel
theorem dX1_init_4 : decode cX1_init 4 = .ok (.aload_n 0, 1) := by decide +kernel
theorem dX1_init_5 : decode cX1_init 5 = .ok (.iconst 0, 1) := by decide +kernel
theorem dX1_init_6 : decode cX1_init 6 = .ok (.newarray .byte, 2) := by decide +kernel
theorem dX1_init_8 : decode cX1_init 8 = .ok (.putfield 9, 3) := by decide +kernel
theorem dX1_init_11 : decode cX1_init 11 = .ok (.aload_n 0, 1) := by decide +kernel
theorem dX1_init_12 : decode cX1_init 12 = .ok (.iconst 0, 1) := by decide +kernel
theorem dX1_init_13 : decode cX1_init 13 = .ok (.putfield 15, 3) := by decide +kernel
theorem dX1_init_16 : decode cX1_init 16 = .ok (.aload_n 0, 1) := by decide +kernel
theorem dX1_init_17 : decode cX1_init 17 = .ok (.iconst 0, 1) := by decide +kernel
theorem dX1_init_18 : decode cX1_init 18 = .ok (.putfield 19, 3) := by decide +kernel
theorem dX1_init_21 : decode cX1_init 21 = .ok (.aload_n 0, 1) := by decide +kernel
theorem dX1_init_22 : decode cX1_init 22 = .ok (.iconst 0, 1) := by decide +kernel
theorem dX1_init_23 : decode cX1_init 23 = .ok (.putfield 22, 3) := by decide +kernel
theorem dX1_init_26 : decode cX1_init 26 = .ok (.aload_n 0, 1) := by decide +kernel
theorem dX1_init_27 : decode cX1_init 27 = .ok (.new 26, 3) := by decide +kernel
theorem dX1_init_30 : decode cX1_init 30 = .ok (.dup, 1) := by decide +kernel
theorem dX1_init_31 : decode cX1_init 31 = .ok (.invokespecial 28, 3) := by decide +kernel
theorem dX1_init_34 : decode cX1_init 34 = .ok (.putfield 29, 3) := by decide +kernel
theorem dX1_init_37 : decode cX1_init 37 = .ok (.return_, 1) := by decide +kernel
theorem dX1_handOver_0 : decode cX1_handOver 0 = .ok (.aload_n 0, 1) := by decide +kernel
theorem dX1_handOver_1 : decode cX1_handOver 1 = .ok (.getfield 29, 3) := by decide +kernel
theorem dX1_handOver_4 : decode cX1_handOver 4 = .ok (.astore_n 2, 1) := by decide +kernel
theorem dX1_handOver_5 : decode cX1_handOver 5 = .ok (.aload_n 0, 1) := by decide +kernel
theorem dX1_handOver_6 : decode cX1_handOver 6 = .ok (.aload_n 1, 1) := by decide +kernel
theorem dX1_handOver_7 : decode cX1_handOver 7 = .ok (.putfield 29, 3) := by decide +kernel
theorem dX1_handOver_10 : decode cX1_handOver 10 = .ok (.aload_n 2, 1) := by decide +kernel
theorem dX1_handOver_11 : decode cX1_handOver 11 = .ok (.areturn, 1) := by decide +kernel
set_option maxRecDepth 20000 in
theorem ggX1_read_X3_clear : GoodIn wsX1_read wsX3_clear := goodIn_r _ [14, 15, 16, 17, 87, 88, 89, 90, 91, 92, 93, 94, 95, 96, 97] (by decide +kernel) (by decide +kernel)
set_option maxRecDepth 20000 in
theorem gX1_read_X3_clear : GoodIn wsX1_read (wsV RX1 39 RX3 yX3_clear wsX3_clear) := goodIn_app (goodIn_of _ (by decide +kernel)) ggX1_read_X3_clear
set_option maxRecDepth 20000 in
theorem ggX1_read_X1_isNext : GoodIn wsX1_read wsX1_isNext := goodIn_r _ [22, 7, 6, 1, 82, 83, 84, 85, 86] (by decide +kernel) (by decide +kernel)
set_option maxRecDepth 20000 in
theorem gX1_read_X1_isNext : GoodIn wsX1_read (wsV RX1 42 RX1 yX1_isNext wsX1_isNext) := goodIn_app (goodIn_of _ (by decide +kernel)) ggX1_read_X1_isNext
set_option maxRecDepth 20000 in
theorem ggX1_read_X1_readPerson : GoodIn wsX1_read wsX1_readPerson := goodIn_r _ [26, 9, 27, 8, 7, 6, 28, 29, 30, 21, 31, 32, 18, 19, 20, 22, 1, 33, 34, 35, 36, 37, 38, 39, 13, 40, 15, 41, 42, 43, 44, 45, 46, 47, 48, 49, 50, 51, 52, 53, 54, 55, 56, 57, 58, 59, 60, 61, 62, 63, 64, 65, 66, 67, 68, 82, 83, 84, 85, 86, 87, 88, 89, 90, 91, 92, 93, 94, 95, 96, 97] (by decide +kernel) (by decide +kernel)
set_option maxRecDepth 20000 in
theorem gX1_read_X1_readPerson : GoodIn wsX1_read (wsV RX1 46 RX1 yX1_readPerson wsX1_readPerson) := goodIn_app (goodIn_of _ (by decide +kernel)) ggX1_read_X1_readPerson
set_option maxRecDepth 20000 in
theorem ggX1_read_X1_readDebt : GoodIn wsX1_read wsX1_readDebt := goodIn_r _ [72, 9, 73, 8, 7, 33, 34, 35, 21, 36, 6, 1, 37, 38, 39, 13, 40, 15, 57, 58, 59, 60, 18, 19, 20, 22, 45, 46, 47, 48, 49, 50, 51, 52, 53, 54, 55, 56, 74, 75, 76, 77, 16, 78, 79, 80, 81, 82, 83, 84, 85, 86, 87, 88, 89, 90, 91, 92, 93, 94, 95, 96, 97] (by decide +kernel) (by decide +kernel)
set_option maxRecDepth 20000 in
theorem gX1_read_X1_readDebt : GoodIn wsX1_read (wsV RX1 49 RX1 yX1_readDebt wsX1_readDebt) := goodIn_app (goodIn_of _ (by decide +kernel)) ggX1_read_X1_readDebt
theorem dX1_read_0 : decode cX1_read 0 = .ok (.aload_n 0, 1) := by decide +kernel
theorem dX1_read_1 : decode cX1_read 1 = .ok (.aload_n 1, 1) := by decide +kernel
theorem dX1_read_2 : decode cX1_read 2 = .ok (.putfield 9, 3) := by decide +kernel
theorem dX1_read_5 : decode cX1_read 5 = .ok (.aload_n 0, 1) := by decide +kernel
theorem dX1_read_6 : decode cX1_read 6 = .ok (.iload_n 2, 1) := by decide +kernel
theorem dX1_read_7 : decode cX1_read 7 = .ok (.aload_n 1, 1) := by decide +kernel
theorem dX1_read_8 : decode cX1_read 8 = .ok (.arraylength, 1) := by decide +kernel
theorem dX1_read_9 : decode cX1_read 9 = .ok (.invokestatic 33, 3) := by decide +kernel
theorem dX1_read_12 : decode cX1_read 12 = .ok (.putfield 15, 3) := by decide +kernel
theorem dX1_read_15 : decode cX1_read 15 = .ok (.aload_n 0, 1) := by decide +kernel
theorem dX1_read_16 : decode cX1_read 16 = .ok (.iconst 0, 1) := by decide +kernel
theorem dX1_read_17 : decode cX1_read 17 = .ok (.putfield 19, 3) := by decide +kernel
theorem dX1_read_20 : decode cX1_read 20 = .ok (.aload_n 0, 1) := by decide +kernel
theorem dX1_read_21 : decode cX1_read 21 = .ok (.iconst 0, 1) := by decide +kernel
theorem dX1_read_22 : decode cX1_read 22 = .ok (.putfield 22, 3) := by decide +kernel
theorem dX1_read_25 : decode cX1_read 25 = .ok (.aload_n 0, 1) := by decide +kernel
theorem dX1_read_26 : decode cX1_read 26 = .ok (.getfield 29, 3) := by decide +kernel
theorem dX1_read_29 : decode cX1_read 29 = .ok (.invokevirtual 39, 3) := by decide +kernel
theorem dX1_read_32 : decode cX1_read 32 = .ok (.iconst 0, 1) := by decide +kernel
theorem dX1_read_33 : decode cX1_read 33 = .ok (.istore_n 3, 1) := by decide +kernel
theorem dX1_read_34 : decode cX1_read 34 = .ok (.iload_n 3, 1) := by decide +kernel
theorem dX1_read_35 : decode cX1_read 35 = .ok (.aload_n 0, 1) := by decide +kernel
theorem dX1_read_36 : decode cX1_read 36 = .ok (.getfield 15, 3) := by decide +kernel
theorem dX1_read_39 : decode cX1_read 39 = .ok (.if_icmp .ge 86, 3) := by decide +kernel
theorem dX1_read_42 : decode cX1_read 42 = .ok (.aload_n 0, 1) := by decide +kernel
theorem dX1_read_43 : decode cX1_read 43 = .ok (.getfield 19, 3) := by decide +kernel
theorem dX1_read_46 : decode cX1_read 46 = .ok (.aload_n 0, 1) := by decide +kernel
theorem dX1_read_47 : decode cX1_read 47 = .ok (.getfield 15, 3) := by decide +kernel
theorem dX1_read_50 : decode cX1_read 50 = .ok (.if_icmp .ge 75, 3) := by decide +kernel
theorem dX1_read_53 : decode cX1_read 53 = .ok (.aload_n 0, 1) := by decide +kernel
theorem dX1_read_54 : decode cX1_read 54 = .ok (.getfield 22, 3) := by decide +kernel
theorem dX1_read_57 : decode cX1_read 57 = .ok (.ifCond .ne 68, 3) := by decide +kernel
theorem dX1_read_60 : decode cX1_read 60 = .ok (.aload_n 0, 1) := by decide +kernel
theorem dX1_read_61 : decode cX1_read 61 = .ok (.bipush 32, 2) := by decide +kernel
theorem dX1_read_63 : decode cX1_read 63 = .ok (.invokevirtual 42, 3) := by decide +kernel
theorem dX1_read_66 : decode cX1_read 66 = .ok (.ifCond .eq 16, 3) := by decide +kernel
theorem dX1_read_69 : decode cX1_read 69 = .ok (.aload_n 0, 1) := by decide +kernel
theorem dX1_read_70 : decode cX1_read 70 = .ok (.dup, 1) := by decide +kernel
theorem dX1_read_71 : decode cX1_read 71 = .ok (.getfield 19, 3) := by decide +kernel
theorem dX1_read_74 : decode cX1_read 74 = .ok (.iconst 1, 1) := by decide +kernel
theorem dX1_read_75 : decode cX1_read 75 = .ok (.iadd, 1) := by decide +kernel
theorem dX1_read_76 : decode cX1_read 76 = .ok (.putfield 19, 3) := by decide +kernel
theorem dX1_read_79 : decode cX1_read 79 = .ok (.goto 40, 3) := by decide +kernel
theorem dX1_read_82 : decode cX1_read 82 = .ok (.aload_n 0, 1) := by decide +kernel
theorem dX1_read_83 : decode cX1_read 83 = .ok (.bipush 112, 2) := by decide +kernel
theorem dX1_read_85 : decode cX1_read 85 = .ok (.invokevirtual 42, 3) := by decide +kernel
theorem dX1_read_88 : decode cX1_read 88 = .ok (.ifCond .eq 10, 3) := by decide +kernel
theorem dX1_read_91 : decode cX1_read 91 = .ok (.aload_n 0, 1) := by decide +kernel
theorem dX1_read_92 : decode cX1_read 92 = .ok (.invokevirtual 46, 3) := by decide +kernel
theorem dX1_read_95 : decode cX1_read 95 = .ok (.goto 24, 3) := by decide +kernel
theorem dX1_read_98 : decode cX1_read 98 = .ok (.aload_n 0, 1) := by decide +kernel
theorem dX1_read_99 : decode cX1_read 99 = .ok (.bipush 100, 2) := by decide +kernel
theorem dX1_read_101 : decode cX1_read 101 = .ok (.invokevirtual 42, 3) := by decide +kernel
theorem dX1_read_104 : decode cX1_read 104 = .ok (.ifCond .eq 10, 3) := by decide +kernel
theorem dX1_read_107 : decode cX1_read 107 = .ok (.aload_n 0, 1) := by decide +kernel
theorem dX1_read_108 : decode cX1_read 108 = .ok (.invokevirtual 49, 3) := by decide +kernel
theorem dX1_read_111 : decode cX1_read 111 = .ok (.goto 8, 3) := by decide +kernel
theorem dX1_read_114 : decode cX1_read 114 = .ok (.aload_n 0, 1) := by decide +kernel
theorem dX1_read_115 : decode cX1_read 115 = .ok (.iconst 1, 1) := by decide +kernel
theorem dX1_read_116 : decode cX1_read 116 = .ok (.putfield 22, 3) := by decide +kernel
theorem dX1_read_119 : decode cX1_read 119 = .ok (.iinc 3 1, 3) := by decide +kernel
theorem dX1_read_122 : decode cX1_read 122 = .ok (.goto (-88), 3) := by decide +kernel
theorem dX1_read_125 : decode cX1_read 125 = .ok (.aload_n 0, 1) := by decide +kernel
theorem dX1_read_126 : decode cX1_read 126 = .ok (.getfield 22, 3) := by decide +kernel
theorem dX1_read_129 : decode cX1_read 129 = .ok (.ifCond .eq 10, 3) := by decide +kernel
theorem dX1_read_132 : decode cX1_read 132 = .ok (.aload_n 0, 1) := by decide +kernel
theorem dX1_read_133 : decode cX1_read 133 = .ok (.getfield 19, 3) := by decide +kernel
theorem dX1_read_136 : decode cX1_read 136 = .ok (.goto 5, 3) := by decide +kernel
theorem dX1_read_139 : decode cX1_read 139 = .ok (.bipush (-9), 2) := by decide +kernel
theorem dX1_read_141 : decode cX1_read 141 = .ok (.ireturn, 1) := by decide +kernel
set_option maxRecDepth 20000 in
theorem ggX1_readPerson_X1_readHouseSign : GoodIn wsX1_readPerson wsX1_readHouseSign := goodIn_r _ [10, 11, 3, 4, 12, 13, 14, 9, 15, 5, 16, 55, 56, 57, 58, 59] (by decide +kernel) (by decide +kernel)
set_option maxRecDepth 20000 in
theorem gX1_readPerson_X1_readHouseSign : GoodIn wsX1_readPerson (wsV RX1 55 RX1 yX1_readHouseSign wsX1_readHouseSign) := goodIn_app (goodIn_of _ (by decide +kernel)) ggX1_readPerson_X1_readHouseSign
set_option maxRecDepth 20000 in
theorem ggX1_readPerson_X1_readLetter : GoodIn wsX1_readPerson wsX1_readLetter := goodIn_r _ [20, 3, 4, 5, 16, 1, 21, 22, 23, 24, 25, 26, 55, 56, 57, 58, 59, 60, 61, 62, 63, 64, 65, 66, 67, 68, 69, 70] (by decide +kernel) (by decide +kernel)
set_option maxRecDepth 20000 in
theorem gX1_readPerson_X1_readLetter : GoodIn wsX1_readPerson (wsV RX1 59 RX1 yX1_readLetter wsX1_readLetter) := goodIn_app (goodIn_of _ (by decide +kernel)) ggX1_readPerson_X1_readLetter
set_option maxRecDepth 20000 in
theorem ggX1_readPerson_X1_isNext : GoodIn wsX1_readPerson wsX1_isNext := goodIn_r _ [15, 4, 5, 16, 55, 56, 57, 58, 59] (by decide +kernel) (by decide +kernel)
set_option maxRecDepth 20000 in
theorem gX1_readPerson_X1_isNext : GoodIn wsX1_readPerson (wsV RX1 42 RX1 yX1_isNext wsX1_isNext) := goodIn_app (goodIn_of _ (by decide +kernel)) ggX1_readPerson_X1_isNext
set_option maxRecDepth 20000 in
theorem ggX1_readPerson_X1_readSpan : GoodIn wsX1_readPerson wsX1_readSpan := goodIn_r _ [30, 3, 31, 32, 33, 9, 34, 35, 36, 37, 38, 16, 4, 39, 40, 41, 42, 5, 43, 44, 45, 46, 12, 13, 14, 15, 55, 56, 57, 58, 59] (by decide +kernel) (by decide +kernel)
set_option maxRecDepth 20000 in
theorem gX1_readPerson_X1_readSpan : GoodIn wsX1_readPerson (wsV RX1 63 RX1 yX1_readSpan wsX1_readSpan) := goodIn_app (goodIn_of _ (by decide +kernel)) ggX1_readPerson_X1_readSpan
set_option maxRecDepth 20000 in
theorem ggX1_readPerson_X3_addPerson : GoodIn wsX1_readPerson wsX3_addPerson := goodIn_r _ [50, 26, 51, 52, 53, 54, 60, 61, 62, 63, 64, 65, 66, 67, 68, 69, 70] (by decide +kernel) (by decide +kernel)
set_option maxRecDepth 20000 in
theorem gX1_readPerson_X3_addPerson : GoodIn wsX1_readPerson (wsV RX1 66 RX3 yX3_addPerson wsX3_addPerson) := goodIn_app (goodIn_of _ (by decide +kernel)) ggX1_readPerson_X3_addPerson
theorem dX1_readPerson_0 : decode cX1_readPerson 0 = .ok (.aload_n 0, 1) := by decide +kernel
theorem dX1_readPerson_1 : decode cX1_readPerson 1 = .ok (.getfield 29, 3) := by decide +kernel
theorem dX1_readPerson_4 : decode cX1_readPerson 4 = .ok (.getfield 52, 3) := by decide +kernel
theorem dX1_readPerson_7 : decode cX1_readPerson 7 = .ok (.bipush 6, 2) := by decide +kernel
theorem dX1_readPerson_9 : decode cX1_readPerson 9 = .ok (.if_icmp .lt 9, 3) := by decide +kernel
theorem dX1_readPerson_12 : decode cX1_readPerson 12 = .ok (.aload_n 0, 1) := by decide +kernel
theorem dX1_readPerson_13 : decode cX1_readPerson 13 = .ok (.iconst 1, 1) := by decide +kernel
theorem dX1_readPerson_14 : decode cX1_readPerson 14 = .ok (.putfield 22, 3) := by decide +kernel
theorem dX1_readPerson_17 : decode cX1_readPerson 17 = .ok (.return_, 1) := by decide +kernel
theorem dX1_readPerson_18 : decode cX1_readPerson 18 = .ok (.aload_n 0, 1) := by decide +kernel
theorem dX1_readPerson_19 : decode cX1_readPerson 19 = .ok (.dup, 1) := by decide +kernel
theorem dX1_readPerson_20 : decode cX1_readPerson 20 = .ok (.getfield 19, 3) := by decide +kernel
theorem dX1_readPerson_23 : decode cX1_readPerson 23 = .ok (.iconst 1, 1) := by decide +kernel
theorem dX1_readPerson_24 : decode cX1_readPerson 24 = .ok (.iadd, 1) := by decide +kernel
theorem dX1_readPerson_25 : decode cX1_readPerson 25 = .ok (.putfield 19, 3) := by decide +kernel
theorem dX1_readPerson_28 : decode cX1_readPerson 28 = .ok (.aload_n 0, 1) := by decide +kernel
theorem dX1_readPerson_29 : decode cX1_readPerson 29 = .ok (.invokevirtual 55, 3) := by decide +kernel
theorem dX1_readPerson_32 : decode cX1_readPerson 32 = .ok (.istore_n 1, 1) := by decide +kernel
theorem dX1_readPerson_33 : decode cX1_readPerson 33 = .ok (.bipush (-9), 2) := by decide +kernel
theorem dX1_readPerson_35 : decode cX1_readPerson 35 = .ok (.istore_n 2, 1) := by decide +kernel
theorem dX1_readPerson_36 : decode cX1_readPerson 36 = .ok (.aload_n 0, 1) := by decide +kernel
theorem dX1_readPerson_37 : decode cX1_readPerson 37 = .ok (.getfield 22, 3) := by decide +kernel
theorem dX1_readPerson_40 : decode cX1_readPerson 40 = .ok (.ifCond .ne 20, 3) := by decide +kernel
theorem dX1_readPerson_43 : decode cX1_readPerson 43 = .ok (.iload_n 1, 1) := by decide +kernel
theorem dX1_readPerson_44 : decode cX1_readPerson 44 = .ok (.iconst 3, 1) := by decide +kernel
theorem dX1_readPerson_45 : decode cX1_readPerson 45 = .ok (.if_icmp .eq 8, 3) := by decide +kernel
theorem dX1_readPerson_48 : decode cX1_readPerson 48 = .ok (.iload_n 1, 1) := by decide +kernel
theorem dX1_readPerson_49 : decode cX1_readPerson 49 = .ok (.iconst 4, 1) := by decide +kernel
theorem dX1_readPerson_50 : decode cX1_readPerson 50 = .ok (.if_icmp .ne 10, 3) := by decide +kernel
theorem dX1_readPerson_53 : decode cX1_readPerson 53 = .ok (.aload_n 0, 1) := by decide +kernel
theorem dX1_readPerson_54 : decode cX1_readPerson 54 = .ok (.bipush (-9), 2) := by decide +kernel
theorem dX1_readPerson_56 : decode cX1_readPerson 56 = .ok (.invokevirtual 59, 3) := by decide +kernel
theorem dX1_readPerson_59 : decode cX1_readPerson 59 = .ok (.istore_n 2, 1) := by decide +kernel
theorem dX1_readPerson_60 : decode cX1_readPerson 60 = .ok (.iconst 0, 1) := by decide +kernel
theorem dX1_readPerson_61 : decode cX1_readPerson 61 = .ok (.istore_n 3, 1) := by decide +kernel
theorem dX1_readPerson_62 : decode cX1_readPerson 62 = .ok (.iconst 0, 1) := by decide +kernel
theorem dX1_readPerson_63 : decode cX1_readPerson 63 = .ok (.istore 4, 2) := by decide +kernel
theorem dX1_readPerson_65 : decode cX1_readPerson 65 = .ok (.iload 4, 2) := by decide +kernel
theorem dX1_readPerson_67 : decode cX1_readPerson 67 = .ok (.aload_n 0, 1) := by decide +kernel
theorem dX1_readPerson_68 : decode cX1_readPerson 68 = .ok (.getfield 15, 3) := by decide +kernel
theorem dX1_readPerson_71 : decode cX1_readPerson 71 = .ok (.if_icmp .ge 42, 3) := by decide +kernel
theorem dX1_readPerson_74 : decode cX1_readPerson 74 = .ok (.aload_n 0, 1) := by decide +kernel
theorem dX1_readPerson_75 : decode cX1_readPerson 75 = .ok (.getfield 22, 3) := by decide +kernel
theorem dX1_readPerson_78 : decode cX1_readPerson 78 = .ok (.ifCond .ne 35, 3) := by decide +kernel
theorem dX1_readPerson_81 : decode cX1_readPerson 81 = .ok (.aload_n 0, 1) := by decide +kernel
theorem dX1_readPerson_82 : decode cX1_readPerson 82 = .ok (.bipush 97, 2) := by decide +kernel
theorem dX1_readPerson_84 : decode cX1_readPerson 84 = .ok (.invokevirtual 42, 3) := by decide +kernel
theorem dX1_readPerson_87 : decode cX1_readPerson 87 = .ok (.ifCond .eq 26, 3) := by decide +kernel
theorem dX1_readPerson_90 : decode cX1_readPerson 90 = .ok (.aload_n 0, 1) := by decide +kernel
theorem dX1_readPerson_91 : decode cX1_readPerson 91 = .ok (.dup, 1) := by decide +kernel
theorem dX1_readPerson_92 : decode cX1_readPerson 92 = .ok (.getfield 19, 3) := by decide +kernel
theorem dX1_readPerson_95 : decode cX1_readPerson 95 = .ok (.iconst 1, 1) := by decide +kernel
theorem dX1_readPerson_96 : decode cX1_readPerson 96 = .ok (.iadd, 1) := by decide +kernel
theorem dX1_readPerson_97 : decode cX1_readPerson 97 = .ok (.putfield 19, 3) := by decide +kernel
theorem dX1_readPerson_100 : decode cX1_readPerson 100 = .ok (.iload_n 3, 1) := by decide +kernel
theorem dX1_readPerson_101 : decode cX1_readPerson 101 = .ok (.aload_n 0, 1) := by decide +kernel
theorem dX1_readPerson_102 : decode cX1_readPerson 102 = .ok (.invokevirtual 63, 3) := by decide +kernel
theorem dX1_readPerson_105 : decode cX1_readPerson 105 = .ok (.ior, 1) := by decide +kernel
theorem dX1_readPerson_106 : decode cX1_readPerson 106 = .ok (.istore_n 3, 1) := by decide +kernel
theorem dX1_readPerson_107 : decode cX1_readPerson 107 = .ok (.iinc 4 1, 3) := by decide +kernel
theorem dX1_readPerson_110 : decode cX1_readPerson 110 = .ok (.goto (-45), 3) := by decide +kernel
theorem dX1_readPerson_113 : decode cX1_readPerson 113 = .ok (.aload_n 0, 1) := by decide +kernel
theorem dX1_readPerson_114 : decode cX1_readPerson 114 = .ok (.getfield 22, 3) := by decide +kernel
theorem dX1_readPerson_117 : decode cX1_readPerson 117 = .ok (.ifCond .ne 13, 3) := by decide +kernel
theorem dX1_readPerson_120 : decode cX1_readPerson 120 = .ok (.aload_n 0, 1) := by decide +kernel
theorem dX1_readPerson_121 : decode cX1_readPerson 121 = .ok (.getfield 29, 3) := by decide +kernel
theorem dX1_readPerson_124 : decode cX1_readPerson 124 = .ok (.iload_n 1, 1) := by decide +kernel
theorem dX1_readPerson_125 : decode cX1_readPerson 125 = .ok (.iload_n 2, 1) := by decide +kernel
theorem dX1_readPerson_126 : decode cX1_readPerson 126 = .ok (.iload_n 3, 1) := by decide +kernel
theorem dX1_readPerson_127 : decode cX1_readPerson 127 = .ok (.invokevirtual 66, 3) := by decide +kernel
theorem dX1_readPerson_130 : decode cX1_readPerson 130 = .ok (.return_, 1) := by decide +kernel
set_option maxRecDepth 20000 in
theorem ggX1_readSpan_X1_readNumber : GoodIn wsX1_readSpan wsX1_readNumber := goodIn_r _ [6, 1, 7, 8, 9, 5, 10, 11, 12, 13, 14, 15, 16, 17, 26, 27, 28, 29, 30] (by decide +kernel) (by decide +kernel)
set_option maxRecDepth 20000 in
theorem gX1_readSpan_X1_readNumber : GoodIn wsX1_readSpan (wsV RX1 70 RX1 yX1_readNumber wsX1_readNumber) := goodIn_app (goodIn_of _ (by decide +kernel)) ggX1_readSpan_X1_readNumber
set_option maxRecDepth 20000 in
theorem ggX1_readSpan_X1_readSign : GoodIn wsX1_readSpan wsX1_readSign := goodIn_r _ [21, 1, 12, 22, 23, 24, 5, 25, 17, 11, 26, 27, 28, 29, 30] (by decide +kernel) (by decide +kernel)
set_option maxRecDepth 20000 in
theorem gX1_readSpan_X1_readSign : GoodIn wsX1_readSpan (wsV RX1 73 RX1 yX1_readSign wsX1_readSign) := goodIn_app (goodIn_of _ (by decide +kernel)) ggX1_readSpan_X1_readSign
theorem dX1_readSpan_0 : decode cX1_readSpan 0 = .ok (.aload_n 0, 1) := by decide +kernel
theorem dX1_readSpan_1 : decode cX1_readSpan 1 = .ok (.iconst 0, 1) := by decide +kernel
theorem dX1_readSpan_2 : decode cX1_readSpan 2 = .ok (.bipush 11, 2) := by decide +kernel
theorem dX1_readSpan_4 : decode cX1_readSpan 4 = .ok (.invokevirtual 70, 3) := by decide +kernel
theorem dX1_readSpan_7 : decode cX1_readSpan 7 = .ok (.istore_n 1, 1) := by decide +kernel
theorem dX1_readSpan_8 : decode cX1_readSpan 8 = .ok (.aload_n 0, 1) := by decide +kernel
theorem dX1_readSpan_9 : decode cX1_readSpan 9 = .ok (.bipush 45, 2) := by decide +kernel
theorem dX1_readSpan_11 : decode cX1_readSpan 11 = .ok (.invokevirtual 73, 3) := by decide +kernel
theorem dX1_readSpan_14 : decode cX1_readSpan 14 = .ok (.aload_n 0, 1) := by decide +kernel
theorem dX1_readSpan_15 : decode cX1_readSpan 15 = .ok (.iload_n 1, 1) := by decide +kernel
theorem dX1_readSpan_16 : decode cX1_readSpan 16 = .ok (.bipush 11, 2) := by decide +kernel
theorem dX1_readSpan_18 : decode cX1_readSpan 18 = .ok (.invokevirtual 70, 3) := by decide +kernel
theorem dX1_readSpan_21 : decode cX1_readSpan 21 = .ok (.istore_n 2, 1) := by decide +kernel
theorem dX1_readSpan_22 : decode cX1_readSpan 22 = .ok (.iconst 0, 1) := by decide +kernel
theorem dX1_readSpan_23 : decode cX1_readSpan 23 = .ok (.istore_n 3, 1) := by decide +kernel
theorem dX1_readSpan_24 : decode cX1_readSpan 24 = .ok (.iload_n 1, 1) := by decide +kernel
theorem dX1_readSpan_25 : decode cX1_readSpan 25 = .ok (.istore 4, 2) := by decide +kernel
theorem dX1_readSpan_27 : decode cX1_readSpan 27 = .ok (.iload 4, 2) := by decide +kernel
theorem dX1_readSpan_29 : decode cX1_readSpan 29 = .ok (.iload_n 2, 1) := by decide +kernel
theorem dX1_readSpan_30 : decode cX1_readSpan 30 = .ok (.if_icmp .gt 23, 3) := by decide +kernel
theorem dX1_readSpan_33 : decode cX1_readSpan 33 = .ok (.aload_n 0, 1) := by decide +kernel
theorem dX1_readSpan_34 : decode cX1_readSpan 34 = .ok (.getfield 22, 3) := by decide +kernel
theorem dX1_readSpan_37 : decode cX1_readSpan 37 = .ok (.ifCond .ne 16, 3) := by decide +kernel
theorem dX1_readSpan_40 : decode cX1_readSpan 40 = .ok (.iload_n 3, 1) := by decide +kernel
theorem dX1_readSpan_41 : decode cX1_readSpan 41 = .ok (.iconst 1, 1) := by decide +kernel
theorem dX1_readSpan_42 : decode cX1_readSpan 42 = .ok (.iload 4, 2) := by decide +kernel
theorem dX1_readSpan_44 : decode cX1_readSpan 44 = .ok (.ishl, 1) := by decide +kernel
theorem dX1_readSpan_45 : decode cX1_readSpan 45 = .ok (.ior, 1) := by decide +kernel
theorem dX1_readSpan_46 : decode cX1_readSpan 46 = .ok (.istore_n 3, 1) := by decide +kernel
theorem dX1_readSpan_47 : decode cX1_readSpan 47 = .ok (.iinc 4 1, 3) := by decide +kernel
theorem dX1_readSpan_50 : decode cX1_readSpan 50 = .ok (.goto (-23), 3) := by decide +kernel
theorem dX1_readSpan_53 : decode cX1_readSpan 53 = .ok (.iload_n 3, 1) := by decide +kernel
theorem dX1_readSpan_54 : decode cX1_readSpan 54 = .ok (.ireturn, 1) := by decide +kernel
set_option maxRecDepth 20000 in
theorem ggX1_readDebt_X1_readLetter : GoodIn wsX1_readDebt wsX1_readLetter := goodIn_r _ [9, 3, 4, 10, 11, 1, 12, 13, 14, 15, 16, 17, 47, 48, 49, 50, 51, 52, 53, 54, 55, 56, 57, 58, 59, 60, 61, 62] (by decide +kernel) (by decide +kernel)
set_option maxRecDepth 20000 in
theorem gX1_readDebt_X1_readLetter : GoodIn wsX1_readDebt (wsV RX1 59 RX1 yX1_readLetter wsX1_readLetter) := goodIn_app (goodIn_of _ (by decide +kernel)) ggX1_readDebt_X1_readLetter
set_option maxRecDepth 20000 in
theorem ggX1_readDebt_X1_readSign : GoodIn wsX1_readDebt wsX1_readSign := goodIn_r _ [21, 3, 4, 22, 23, 24, 8, 25, 10, 11, 47, 48, 49, 50, 51] (by decide +kernel) (by decide +kernel)
set_option maxRecDepth 20000 in
theorem gX1_readDebt_X1_readSign : GoodIn wsX1_readDebt (wsV RX1 73 RX1 yX1_readSign wsX1_readSign) := goodIn_app (goodIn_of _ (by decide +kernel)) ggX1_readDebt_X1_readSign
set_option maxRecDepth 20000 in
theorem ggX1_readDebt_X1_readNumber : GoodIn wsX1_readDebt wsX1_readNumber := goodIn_r _ [29, 3, 30, 31, 32, 8, 33, 11, 4, 34, 35, 36, 37, 10, 47, 48, 49, 50, 51] (by decide +kernel) (by decide +kernel)
set_option maxRecDepth 20000 in
theorem gX1_readDebt_X1_readNumber : GoodIn wsX1_readDebt (wsV RX1 70 RX1 yX1_readNumber wsX1_readNumber) := goodIn_app (goodIn_of _ (by decide +kernel)) ggX1_readDebt_X1_readNumber
set_option maxRecDepth 20000 in
theorem ggX1_readDebt_X1_readFigure : GoodIn wsX1_readDebt wsX1_readFigure := goodIn_r _ [33, 3, 11, 4, 34, 35, 36, 8, 37, 10, 47, 48, 49, 50, 51] (by decide +kernel) (by decide +kernel)
set_option maxRecDepth 20000 in
theorem gX1_readDebt_X1_readFigure : GoodIn wsX1_readDebt (wsV RX1 80 RX1 yX1_readFigure wsX1_readFigure) := goodIn_app (goodIn_of _ (by decide +kernel)) ggX1_readDebt_X1_readFigure
set_option maxRecDepth 20000 in
theorem ggX1_readDebt_X3_addDebt : GoodIn wsX1_readDebt wsX3_addDebt := goodIn_r _ [41, 42, 43, 44, 45, 46, 52, 53, 54, 55, 56, 57, 58, 59, 60, 61, 62] (by decide +kernel) (by decide +kernel)
set_option maxRecDepth 20000 in
theorem gX1_readDebt_X3_addDebt : GoodIn wsX1_readDebt (wsV RX1 83 RX3 yX3_addDebt wsX3_addDebt) := goodIn_app (goodIn_of _ (by decide +kernel)) ggX1_readDebt_X3_addDebt
theorem dX1_readDebt_0 : decode cX1_readDebt 0 = .ok (.aload_n 0, 1) := by decide +kernel
theorem dX1_readDebt_1 : decode cX1_readDebt 1 = .ok (.getfield 29, 3) := by decide +kernel
theorem dX1_readDebt_4 : decode cX1_readDebt 4 = .ok (.getfield 77, 3) := by decide +kernel
theorem dX1_readDebt_7 : decode cX1_readDebt 7 = .ok (.bipush 8, 2) := by decide +kernel
theorem dX1_readDebt_9 : decode cX1_readDebt 9 = .ok (.if_icmp .lt 9, 3) := by decide +kernel
theorem dX1_readDebt_12 : decode cX1_readDebt 12 = .ok (.aload_n 0, 1) := by decide +kernel
theorem dX1_readDebt_13 : decode cX1_readDebt 13 = .ok (.iconst 1, 1) := by decide +kernel
theorem dX1_readDebt_14 : decode cX1_readDebt 14 = .ok (.putfield 22, 3) := by decide +kernel
theorem dX1_readDebt_17 : decode cX1_readDebt 17 = .ok (.return_, 1) := by decide +kernel
theorem dX1_readDebt_18 : decode cX1_readDebt 18 = .ok (.aload_n 0, 1) := by decide +kernel
theorem dX1_readDebt_19 : decode cX1_readDebt 19 = .ok (.dup, 1) := by decide +kernel
theorem dX1_readDebt_20 : decode cX1_readDebt 20 = .ok (.getfield 19, 3) := by decide +kernel
theorem dX1_readDebt_23 : decode cX1_readDebt 23 = .ok (.iconst 1, 1) := by decide +kernel
theorem dX1_readDebt_24 : decode cX1_readDebt 24 = .ok (.iadd, 1) := by decide +kernel
theorem dX1_readDebt_25 : decode cX1_readDebt 25 = .ok (.putfield 19, 3) := by decide +kernel
theorem dX1_readDebt_28 : decode cX1_readDebt 28 = .ok (.aload_n 0, 1) := by decide +kernel
theorem dX1_readDebt_29 : decode cX1_readDebt 29 = .ok (.bipush (-9), 2) := by decide +kernel
theorem dX1_readDebt_31 : decode cX1_readDebt 31 = .ok (.invokevirtual 59, 3) := by decide +kernel
theorem dX1_readDebt_34 : decode cX1_readDebt 34 = .ok (.istore_n 1, 1) := by decide +kernel
theorem dX1_readDebt_35 : decode cX1_readDebt 35 = .ok (.aload_n 0, 1) := by decide +kernel
theorem dX1_readDebt_36 : decode cX1_readDebt 36 = .ok (.iload_n 1, 1) := by decide +kernel
theorem dX1_readDebt_37 : decode cX1_readDebt 37 = .ok (.invokevirtual 59, 3) := by decide +kernel
theorem dX1_readDebt_40 : decode cX1_readDebt 40 = .ok (.istore_n 2, 1) := by decide +kernel
theorem dX1_readDebt_41 : decode cX1_readDebt 41 = .ok (.aload_n 0, 1) := by decide +kernel
theorem dX1_readDebt_42 : decode cX1_readDebt 42 = .ok (.bipush 58, 2) := by decide +kernel
theorem dX1_readDebt_44 : decode cX1_readDebt 44 = .ok (.invokevirtual 73, 3) := by decide +kernel
theorem dX1_readDebt_47 : decode cX1_readDebt 47 = .ok (.aload_n 0, 1) := by decide +kernel
theorem dX1_readDebt_48 : decode cX1_readDebt 48 = .ok (.iconst 1, 1) := by decide +kernel
theorem dX1_readDebt_49 : decode cX1_readDebt 49 = .ok (.bipush 99, 2) := by decide +kernel
theorem dX1_readDebt_51 : decode cX1_readDebt 51 = .ok (.invokevirtual 70, 3) := by decide +kernel
theorem dX1_readDebt_54 : decode cX1_readDebt 54 = .ok (.istore_n 3, 1) := by decide +kernel
theorem dX1_readDebt_55 : decode cX1_readDebt 55 = .ok (.aload_n 0, 1) := by decide +kernel
theorem dX1_readDebt_56 : decode cX1_readDebt 56 = .ok (.bipush 58, 2) := by decide +kernel
theorem dX1_readDebt_58 : decode cX1_readDebt 58 = .ok (.invokevirtual 73, 3) := by decide +kernel
theorem dX1_readDebt_61 : decode cX1_readDebt 61 = .ok (.aload_n 0, 1) := by decide +kernel
theorem dX1_readDebt_62 : decode cX1_readDebt 62 = .ok (.invokevirtual 80, 3) := by decide +kernel
theorem dX1_readDebt_65 : decode cX1_readDebt 65 = .ok (.istore 4, 2) := by decide +kernel
theorem dX1_readDebt_67 : decode cX1_readDebt 67 = .ok (.aload_n 0, 1) := by decide +kernel
theorem dX1_readDebt_68 : decode cX1_readDebt 68 = .ok (.getfield 22, 3) := by decide +kernel
theorem dX1_readDebt_71 : decode cX1_readDebt 71 = .ok (.ifCond .ne 15, 3) := by decide +kernel
theorem dX1_readDebt_74 : decode cX1_readDebt 74 = .ok (.aload_n 0, 1) := by decide +kernel
theorem dX1_readDebt_75 : decode cX1_readDebt 75 = .ok (.getfield 29, 3) := by decide +kernel
theorem dX1_readDebt_78 : decode cX1_readDebt 78 = .ok (.iload_n 1, 1) := by decide +kernel
theorem dX1_readDebt_79 : decode cX1_readDebt 79 = .ok (.iload_n 2, 1) := by decide +kernel
theorem dX1_readDebt_80 : decode cX1_readDebt 80 = .ok (.iload_n 3, 1) := by decide +kernel
theorem dX1_readDebt_81 : decode cX1_readDebt 81 = .ok (.iload 4, 2) := by decide +kernel
theorem dX1_readDebt_83 : decode cX1_readDebt 83 = .ok (.invokevirtual 83, 3) := by decide +kernel
theorem dX1_readDebt_86 : decode cX1_readDebt 86 = .ok (.return_, 1) := by decide +kernel
theorem dX1_isNext_0 : decode cX1_isNext 0 = .ok (.aload_n 0, 1) := by decide +kernel
theorem dX1_isNext_1 : decode cX1_isNext 1 = .ok (.getfield 19, 3) := by decide +kernel
theorem dX1_isNext_4 : decode cX1_isNext 4 = .ok (.aload_n 0, 1) := by decide +kernel
theorem dX1_isNext_5 : decode cX1_isNext 5 = .ok (.getfield 15, 3) := by decide +kernel
theorem dX1_isNext_8 : decode cX1_isNext 8 = .ok (.if_icmp .ge 20, 3) := by decide +kernel
theorem dX1_isNext_11 : decode cX1_isNext 11 = .ok (.aload_n 0, 1) := by decide +kernel
theorem dX1_isNext_12 : decode cX1_isNext 12 = .ok (.getfield 9, 3) := by decide +kernel
theorem dX1_isNext_15 : decode cX1_isNext 15 = .ok (.aload_n 0, 1) := by decide +kernel
theorem dX1_isNext_16 : decode cX1_isNext 16 = .ok (.getfield 19, 3) := by decide +kernel
theorem dX1_isNext_19 : decode cX1_isNext 19 = .ok (.baload, 1) := by decide +kernel
theorem dX1_isNext_20 : decode cX1_isNext 20 = .ok (.iload_n 1, 1) := by decide +kernel
theorem dX1_isNext_21 : decode cX1_isNext 21 = .ok (.if_icmp .ne 7, 3) := by decide +kernel
theorem dX1_isNext_24 : decode cX1_isNext 24 = .ok (.iconst 1, 1) := by decide +kernel
theorem dX1_isNext_25 : decode cX1_isNext 25 = .ok (.goto 4, 3) := by decide +kernel
theorem dX1_isNext_28 : decode cX1_isNext 28 = .ok (.iconst 0, 1) := by decide +kernel
theorem dX1_isNext_29 : decode cX1_isNext 29 = .ok (.ireturn, 1) := by decide +kernel
theorem dX1_isFigureNext_0 : decode cX1_isFigureNext 0 = .ok (.aload_n 0, 1) := by decide +kernel
theorem dX1_isFigureNext_1 : decode cX1_isFigureNext 1 = .ok (.getfield 19, 3) := by decide +kernel
theorem dX1_isFigureNext_4 : decode cX1_isFigureNext 4 = .ok (.aload_n 0, 1) := by decide +kernel
theorem dX1_isFigureNext_5 : decode cX1_isFigureNext 5 = .ok (.getfield 15, 3) := by decide +kernel
theorem dX1_isFigureNext_8 : decode cX1_isFigureNext 8 = .ok (.if_icmp .ge 35, 3) := by decide +kernel
theorem dX1_isFigureNext_11 : decode cX1_isFigureNext 11 = .ok (.aload_n 0, 1) := by decide +kernel
theorem dX1_isFigureNext_12 : decode cX1_isFigureNext 12 = .ok (.getfield 9, 3) := by decide +kernel
theorem dX1_isFigureNext_15 : decode cX1_isFigureNext 15 = .ok (.aload_n 0, 1) := by decide +kernel
theorem dX1_isFigureNext_16 : decode cX1_isFigureNext 16 = .ok (.getfield 19, 3) := by decide +kernel
theorem dX1_isFigureNext_19 : decode cX1_isFigureNext 19 = .ok (.baload, 1) := by decide +kernel
theorem dX1_isFigureNext_20 : decode cX1_isFigureNext 20 = .ok (.bipush 48, 2) := by decide +kernel
theorem dX1_isFigureNext_22 : decode cX1_isFigureNext 22 = .ok (.if_icmp .lt 21, 3) := by decide +kernel
theorem dX1_isFigureNext_25 : decode cX1_isFigureNext 25 = .ok (.aload_n 0, 1) := by decide +kernel
theorem dX1_isFigureNext_26 : decode cX1_isFigureNext 26 = .ok (.getfield 9, 3) := by decide +kernel
theorem dX1_isFigureNext_29 : decode cX1_isFigureNext 29 = .ok (.aload_n 0, 1) := by decide +kernel
theorem dX1_isFigureNext_30 : decode cX1_isFigureNext 30 = .ok (.getfield 19, 3) := by decide +kernel
theorem dX1_isFigureNext_33 : decode cX1_isFigureNext 33 = .ok (.baload, 1) := by decide +kernel
theorem dX1_isFigureNext_34 : decode cX1_isFigureNext 34 = .ok (.bipush 57, 2) := by decide +kernel
theorem dX1_isFigureNext_36 : decode cX1_isFigureNext 36 = .ok (.if_icmp .gt 7, 3) := by decide +kernel
theorem dX1_isFigureNext_39 : decode cX1_isFigureNext 39 = .ok (.iconst 1, 1) := by decide +kernel
theorem dX1_isFigureNext_40 : decode cX1_isFigureNext 40 = .ok (.goto 4, 3) := by decide +kernel
theorem dX1_isFigureNext_43 : decode cX1_isFigureNext 43 = .ok (.iconst 0, 1) := by decide +kernel
theorem dX1_isFigureNext_44 : decode cX1_isFigureNext 44 = .ok (.ireturn, 1) := by decide +kernel
set_option maxRecDepth 20000 in
theorem ggX1_readSign_X1_isNext : GoodIn wsX1_readSign wsX1_isNext := goodIn_r _ [7, 2, 8, 9, 10, 11, 12, 13, 14] (by decide +kernel) (by decide +kernel)
set_option maxRecDepth 20000 in
theorem gX1_readSign_X1_isNext : GoodIn wsX1_readSign (wsV RX1 42 RX1 yX1_isNext wsX1_isNext) := goodIn_app (goodIn_of _ (by decide +kernel)) ggX1_readSign_X1_isNext
theorem dX1_readSign_0 : decode cX1_readSign 0 = .ok (.aload_n 0, 1) := by decide +kernel
theorem dX1_readSign_1 : decode cX1_readSign 1 = .ok (.getfield 22, 3) := by decide +kernel
theorem dX1_readSign_4 : decode cX1_readSign 4 = .ok (.ifCond .ne 24, 3) := by decide +kernel
theorem dX1_readSign_7 : decode cX1_readSign 7 = .ok (.aload_n 0, 1) := by decide +kernel
theorem dX1_readSign_8 : decode cX1_readSign 8 = .ok (.iload_n 1, 1) := by decide +kernel
theorem dX1_readSign_9 : decode cX1_readSign 9 = .ok (.invokevirtual 42, 3) := by decide +kernel
theorem dX1_readSign_12 : decode cX1_readSign 12 = .ok (.ifCond .eq 16, 3) := by decide +kernel
theorem dX1_readSign_15 : decode cX1_readSign 15 = .ok (.aload_n 0, 1) := by decide +kernel
theorem dX1_readSign_16 : decode cX1_readSign 16 = .ok (.dup, 1) := by decide +kernel
theorem dX1_readSign_17 : decode cX1_readSign 17 = .ok (.getfield 19, 3) := by decide +kernel
theorem dX1_readSign_20 : decode cX1_readSign 20 = .ok (.iconst 1, 1) := by decide +kernel
theorem dX1_readSign_21 : decode cX1_readSign 21 = .ok (.iadd, 1) := by decide +kernel
theorem dX1_readSign_22 : decode cX1_readSign 22 = .ok (.putfield 19, 3) := by decide +kernel
theorem dX1_readSign_25 : decode cX1_readSign 25 = .ok (.goto 8, 3) := by decide +kernel
theorem dX1_readSign_28 : decode cX1_readSign 28 = .ok (.aload_n 0, 1) := by decide +kernel
theorem dX1_readSign_29 : decode cX1_readSign 29 = .ok (.iconst 1, 1) := by decide +kernel
theorem dX1_readSign_30 : decode cX1_readSign 30 = .ok (.putfield 22, 3) := by decide +kernel
theorem dX1_readSign_33 : decode cX1_readSign 33 = .ok (.return_, 1) := by decide +kernel
set_option maxRecDepth 20000 in
theorem ggX1_readHouseSign_X1_isNext : GoodIn wsX1_readHouseSign wsX1_isNext := goodIn_r _ [8, 3, 9, 10, 11, 12, 13, 14, 15] (by decide +kernel) (by decide +kernel)
set_option maxRecDepth 20000 in
theorem gX1_readHouseSign_X1_isNext : GoodIn wsX1_readHouseSign (wsV RX1 42 RX1 yX1_isNext wsX1_isNext) := goodIn_app (goodIn_of _ (by decide +kernel)) ggX1_readHouseSign_X1_isNext
theorem dX1_readHouseSign_0 : decode cX1_readHouseSign 0 = .ok (.iconst 0, 1) := by decide +kernel
theorem dX1_readHouseSign_1 : decode cX1_readHouseSign 1 = .ok (.istore_n 1, 1) := by decide +kernel
theorem dX1_readHouseSign_2 : decode cX1_readHouseSign 2 = .ok (.iload_n 1, 1) := by decide +kernel
theorem dX1_readHouseSign_3 : decode cX1_readHouseSign 3 = .ok (.getstatic 87, 3) := by decide +kernel
theorem dX1_readHouseSign_6 : decode cX1_readHouseSign 6 = .ok (.arraylength, 1) := by decide +kernel
theorem dX1_readHouseSign_7 : decode cX1_readHouseSign 7 = .ok (.if_icmp .ge 40, 3) := by decide +kernel
theorem dX1_readHouseSign_10 : decode cX1_readHouseSign 10 = .ok (.aload_n 0, 1) := by decide +kernel
theorem dX1_readHouseSign_11 : decode cX1_readHouseSign 11 = .ok (.getfield 22, 3) := by decide +kernel
theorem dX1_readHouseSign_14 : decode cX1_readHouseSign 14 = .ok (.ifCond .ne 33, 3) := by decide +kernel
theorem dX1_readHouseSign_17 : decode cX1_readHouseSign 17 = .ok (.aload_n 0, 1) := by decide +kernel
theorem dX1_readHouseSign_18 : decode cX1_readHouseSign 18 = .ok (.getstatic 87, 3) := by decide +kernel
theorem dX1_readHouseSign_21 : decode cX1_readHouseSign 21 = .ok (.iload_n 1, 1) := by decide +kernel
theorem dX1_readHouseSign_22 : decode cX1_readHouseSign 22 = .ok (.baload, 1) := by decide +kernel
theorem dX1_readHouseSign_23 : decode cX1_readHouseSign 23 = .ok (.invokevirtual 42, 3) := by decide +kernel
theorem dX1_readHouseSign_26 : decode cX1_readHouseSign 26 = .ok (.ifCond .eq 15, 3) := by decide +kernel
theorem dX1_readHouseSign_29 : decode cX1_readHouseSign 29 = .ok (.aload_n 0, 1) := by decide +kernel
theorem dX1_readHouseSign_30 : decode cX1_readHouseSign 30 = .ok (.dup, 1) := by decide +kernel
theorem dX1_readHouseSign_31 : decode cX1_readHouseSign 31 = .ok (.getfield 19, 3) := by decide +kernel
theorem dX1_readHouseSign_34 : decode cX1_readHouseSign 34 = .ok (.iconst 1, 1) := by decide +kernel
theorem dX1_readHouseSign_35 : decode cX1_readHouseSign 35 = .ok (.iadd, 1) := by decide +kernel
theorem dX1_readHouseSign_36 : decode cX1_readHouseSign 36 = .ok (.putfield 19, 3) := by decide +kernel
theorem dX1_readHouseSign_39 : decode cX1_readHouseSign 39 = .ok (.iload_n 1, 1) := by decide +kernel
theorem dX1_readHouseSign_40 : decode cX1_readHouseSign 40 = .ok (.ireturn, 1) := by decide +kernel
theorem dX1_readHouseSign_41 : decode cX1_readHouseSign 41 = .ok (.iinc 1 1, 3) := by decide +kernel
theorem dX1_readHouseSign_44 : decode cX1_readHouseSign 44 = .ok (.goto (-42), 3) := by decide +kernel
theorem dX1_readHouseSign_47 : decode cX1_readHouseSign 47 = .ok (.aload_n 0, 1) := by decide +kernel
theorem dX1_readHouseSign_48 : decode cX1_readHouseSign 48 = .ok (.iconst 1, 1) := by decide +kernel
theorem dX1_readHouseSign_49 : decode cX1_readHouseSign 49 = .ok (.putfield 22, 3) := by decide +kernel
theorem dX1_readHouseSign_52 : decode cX1_readHouseSign 52 = .ok (.iconst 0, 1) := by decide +kernel
theorem dX1_readHouseSign_53 : decode cX1_readHouseSign 53 = .ok (.ireturn, 1) := by decide +kernel
set_option maxRecDepth 20000 in
theorem ggX1_readLetter_X3_isPerson : GoodIn wsX1_readLetter wsX3_isPerson := goodIn_r _ [10, 11, 17, 18, 19, 20, 21, 22, 23, 24, 25, 26, 27] (by decide +kernel) (by decide +kernel)
set_option maxRecDepth 20000 in
theorem gX1_readLetter_X3_isPerson : GoodIn wsX1_readLetter (wsV RX1 90 RX3 yX3_isPerson wsX3_isPerson) := goodIn_app (goodIn_of _ (by decide +kernel)) ggX1_readLetter_X3_isPerson
theorem dX1_readLetter_0 : decode cX1_readLetter 0 = .ok (.aload_n 0, 1) := by decide +kernel
theorem dX1_readLetter_1 : decode cX1_readLetter 1 = .ok (.getfield 22, 3) := by decide +kernel
theorem dX1_readLetter_4 : decode cX1_readLetter 4 = .ok (.ifCond .ne 55, 3) := by decide +kernel
theorem dX1_readLetter_7 : decode cX1_readLetter 7 = .ok (.aload_n 0, 1) := by decide +kernel
theorem dX1_readLetter_8 : decode cX1_readLetter 8 = .ok (.getfield 19, 3) := by decide +kernel
theorem dX1_readLetter_11 : decode cX1_readLetter 11 = .ok (.aload_n 0, 1) := by decide +kernel
theorem dX1_readLetter_12 : decode cX1_readLetter 12 = .ok (.getfield 15, 3) := by decide +kernel
theorem dX1_readLetter_15 : decode cX1_readLetter 15 = .ok (.if_icmp .ge 44, 3) := by decide +kernel
theorem dX1_readLetter_18 : decode cX1_readLetter 18 = .ok (.aload_n 0, 1) := by decide +kernel
theorem dX1_readLetter_19 : decode cX1_readLetter 19 = .ok (.getfield 9, 3) := by decide +kernel
theorem dX1_readLetter_22 : decode cX1_readLetter 22 = .ok (.aload_n 0, 1) := by decide +kernel
theorem dX1_readLetter_23 : decode cX1_readLetter 23 = .ok (.getfield 19, 3) := by decide +kernel
theorem dX1_readLetter_26 : decode cX1_readLetter 26 = .ok (.baload, 1) := by decide +kernel
theorem dX1_readLetter_27 : decode cX1_readLetter 27 = .ok (.bipush 65, 2) := by decide +kernel
theorem dX1_readLetter_29 : decode cX1_readLetter 29 = .ok (.isub, 1) := by decide +kernel
theorem dX1_readLetter_30 : decode cX1_readLetter 30 = .ok (.istore_n 2, 1) := by decide +kernel
theorem dX1_readLetter_31 : decode cX1_readLetter 31 = .ok (.aload_n 0, 1) := by decide +kernel
theorem dX1_readLetter_32 : decode cX1_readLetter 32 = .ok (.getfield 29, 3) := by decide +kernel
theorem dX1_readLetter_35 : decode cX1_readLetter 35 = .ok (.iload_n 2, 1) := by decide +kernel
theorem dX1_readLetter_36 : decode cX1_readLetter 36 = .ok (.invokevirtual 90, 3) := by decide +kernel
theorem dX1_readLetter_39 : decode cX1_readLetter 39 = .ok (.ifCond .eq 20, 3) := by decide +kernel
theorem dX1_readLetter_42 : decode cX1_readLetter 42 = .ok (.iload_n 2, 1) := by decide +kernel
theorem dX1_readLetter_43 : decode cX1_readLetter 43 = .ok (.iload_n 1, 1) := by decide +kernel
theorem dX1_readLetter_44 : decode cX1_readLetter 44 = .ok (.if_icmp .eq 15, 3) := by decide +kernel
theorem dX1_readLetter_47 : decode cX1_readLetter 47 = .ok (.aload_n 0, 1) := by decide +kernel
theorem dX1_readLetter_48 : decode cX1_readLetter 48 = .ok (.dup, 1) := by decide +kernel
theorem dX1_readLetter_49 : decode cX1_readLetter 49 = .ok (.getfield 19, 3) := by decide +kernel
theorem dX1_readLetter_52 : decode cX1_readLetter 52 = .ok (.iconst 1, 1) := by decide +kernel
theorem dX1_readLetter_53 : decode cX1_readLetter 53 = .ok (.iadd, 1) := by decide +kernel
theorem dX1_readLetter_54 : decode cX1_readLetter 54 = .ok (.putfield 19, 3) := by decide +kernel
theorem dX1_readLetter_57 : decode cX1_readLetter 57 = .ok (.iload_n 2, 1) := by decide +kernel
theorem dX1_readLetter_58 : decode cX1_readLetter 58 = .ok (.ireturn, 1) := by decide +kernel
theorem dX1_readLetter_59 : decode cX1_readLetter 59 = .ok (.aload_n 0, 1) := by decide +kernel
theorem dX1_readLetter_60 : decode cX1_readLetter 60 = .ok (.iconst 1, 1) := by decide +kernel
theorem dX1_readLetter_61 : decode cX1_readLetter 61 = .ok (.putfield 22, 3) := by decide +kernel
theorem dX1_readLetter_64 : decode cX1_readLetter 64 = .ok (.iconst 0, 1) := by decide +kernel
theorem dX1_readLetter_65 : decode cX1_readLetter 65 = .ok (.ireturn, 1) := by decide +kernel
set_option maxRecDepth 20000 in
theorem ggX1_readFigure_X1_isFigureNext : GoodIn wsX1_readFigure wsX1_isFigureNext := goodIn_r _ [8, 3, 9, 2, 10, 11, 12, 13, 14] (by decide +kernel) (by decide +kernel)
set_option maxRecDepth 20000 in
theorem gX1_readFigure_X1_isFigureNext : GoodIn wsX1_readFigure (wsV RX1 93 RX1 yX1_isFigureNext wsX1_isFigureNext) := goodIn_app (goodIn_of _ (by decide +kernel)) ggX1_readFigure_X1_isFigureNext
theorem dX1_readFigure_0 : decode cX1_readFigure 0 = .ok (.aload_n 0, 1) := by decide +kernel
theorem dX1_readFigure_1 : decode cX1_readFigure 1 = .ok (.getfield 22, 3) := by decide +kernel
theorem dX1_readFigure_4 : decode cX1_readFigure 4 = .ok (.ifCond .ne 10, 3) := by decide +kernel
theorem dX1_readFigure_7 : decode cX1_readFigure 7 = .ok (.aload_n 0, 1) := by decide +kernel
theorem dX1_readFigure_8 : decode cX1_readFigure 8 = .ok (.invokevirtual 93, 3) := by decide +kernel
theorem dX1_readFigure_11 : decode cX1_readFigure 11 = .ok (.ifCond .ne 10, 3) := by decide +kernel
theorem dX1_readFigure_14 : decode cX1_readFigure 14 = .ok (.aload_n 0, 1) := by decide +kernel
theorem dX1_readFigure_15 : decode cX1_readFigure 15 = .ok (.iconst 1, 1) := by decide +kernel
theorem dX1_readFigure_16 : decode cX1_readFigure 16 = .ok (.putfield 22, 3) := by decide +kernel
theorem dX1_readFigure_19 : decode cX1_readFigure 19 = .ok (.iconst 0, 1) := by decide +kernel
theorem dX1_readFigure_20 : decode cX1_readFigure 20 = .ok (.ireturn, 1) := by decide +kernel
theorem dX1_readFigure_21 : decode cX1_readFigure 21 = .ok (.aload_n 0, 1) := by decide +kernel
theorem dX1_readFigure_22 : decode cX1_readFigure 22 = .ok (.getfield 9, 3) := by decide +kernel
theorem dX1_readFigure_25 : decode cX1_readFigure 25 = .ok (.aload_n 0, 1) := by decide +kernel
theorem dX1_readFigure_26 : decode cX1_readFigure 26 = .ok (.getfield 19, 3) := by decide +kernel
theorem dX1_readFigure_29 : decode cX1_readFigure 29 = .ok (.baload, 1) := by decide +kernel
theorem dX1_readFigure_30 : decode cX1_readFigure 30 = .ok (.bipush 48, 2) := by decide +kernel
theorem dX1_readFigure_32 : decode cX1_readFigure 32 = .ok (.isub, 1) := by decide +kernel
theorem dX1_readFigure_33 : decode cX1_readFigure 33 = .ok (.istore_n 1, 1) := by decide +kernel
theorem dX1_readFigure_34 : decode cX1_readFigure 34 = .ok (.aload_n 0, 1) := by decide +kernel
theorem dX1_readFigure_35 : decode cX1_readFigure 35 = .ok (.dup, 1) := by decide +kernel
theorem dX1_readFigure_36 : decode cX1_readFigure 36 = .ok (.getfield 19, 3) := by decide +kernel
theorem dX1_readFigure_39 : decode cX1_readFigure 39 = .ok (.iconst 1, 1) := by decide +kernel
theorem dX1_readFigure_40 : decode cX1_readFigure 40 = .ok (.iadd, 1) := by decide +kernel
theorem dX1_readFigure_41 : decode cX1_readFigure 41 = .ok (.putfield 19, 3) := by decide +kernel
theorem dX1_readFigure_44 : decode cX1_readFigure 44 = .ok (.iload_n 1, 1) := by decide +kernel
theorem dX1_readFigure_45 : decode cX1_readFigure 45 = .ok (.ireturn, 1) := by decide +kernel
set_option maxRecDepth 20000 in
theorem ggX1_readNumber_X1_readFigure : GoodIn wsX1_readNumber wsX1_readFigure := goodIn_r _ [6, 1, 7, 8, 9, 10, 11, 5, 12, 13, 14, 15, 16, 17, 18] (by decide +kernel) (by decide +kernel)
set_option maxRecDepth 20000 in
theorem gX1_readNumber_X1_readFigure : GoodIn wsX1_readNumber (wsV RX1 80 RX1 yX1_readFigure wsX1_readFigure) := goodIn_app (goodIn_of _ (by decide +kernel)) ggX1_readNumber_X1_readFigure
set_option maxRecDepth 20000 in
theorem ggX1_readNumber_X1_isFigureNext : GoodIn wsX1_readNumber wsX1_isFigureNext := goodIn_r _ [12, 8, 13, 7, 14, 15, 16, 17, 18] (by decide +kernel) (by decide +kernel)
set_option maxRecDepth 20000 in
theorem gX1_readNumber_X1_isFigureNext : GoodIn wsX1_readNumber (wsV RX1 93 RX1 yX1_isFigureNext wsX1_isFigureNext) := goodIn_app (goodIn_of _ (by decide +kernel)) ggX1_readNumber_X1_isFigureNext
theorem dX1_readNumber_0 : decode cX1_readNumber 0 = .ok (.aload_n 0, 1) := by decide +kernel
theorem dX1_readNumber_1 : decode cX1_readNumber 1 = .ok (.invokevirtual 80, 3) := by decide +kernel
theorem dX1_readNumber_4 : decode cX1_readNumber 4 = .ok (.istore_n 3, 1) := by decide +kernel
theorem dX1_readNumber_5 : decode cX1_readNumber 5 = .ok (.aload_n 0, 1) := by decide +kernel
theorem dX1_readNumber_6 : decode cX1_readNumber 6 = .ok (.getfield 22, 3) := by decide +kernel
theorem dX1_readNumber_9 : decode cX1_readNumber 9 = .ok (.ifCond .ne 20, 3) := by decide +kernel
theorem dX1_readNumber_12 : decode cX1_readNumber 12 = .ok (.aload_n 0, 1) := by decide +kernel
theorem dX1_readNumber_13 : decode cX1_readNumber 13 = .ok (.invokevirtual 93, 3) := by decide +kernel
theorem dX1_readNumber_16 : decode cX1_readNumber 16 = .ok (.ifCond .eq 13, 3) := by decide +kernel
theorem dX1_readNumber_19 : decode cX1_readNumber 19 = .ok (.bipush 10, 2) := by decide +kernel
theorem dX1_readNumber_21 : decode cX1_readNumber 21 = .ok (.iload_n 3, 1) := by decide +kernel
theorem dX1_readNumber_22 : decode cX1_readNumber 22 = .ok (.imul, 1) := by decide +kernel
theorem dX1_readNumber_23 : decode cX1_readNumber 23 = .ok (.aload_n 0, 1) := by decide +kernel
theorem dX1_readNumber_24 : decode cX1_readNumber 24 = .ok (.invokevirtual 80, 3) := by decide +kernel
theorem dX1_readNumber_27 : decode cX1_readNumber 27 = .ok (.iadd, 1) := by decide +kernel
theorem dX1_readNumber_28 : decode cX1_readNumber 28 = .ok (.istore_n 3, 1) := by decide +kernel
theorem dX1_readNumber_29 : decode cX1_readNumber 29 = .ok (.iload_n 3, 1) := by decide +kernel
theorem dX1_readNumber_30 : decode cX1_readNumber 30 = .ok (.iload_n 1, 1) := by decide +kernel
theorem dX1_readNumber_31 : decode cX1_readNumber 31 = .ok (.if_icmp .lt 8, 3) := by decide +kernel
theorem dX1_readNumber_34 : decode cX1_readNumber 34 = .ok (.iload_n 3, 1) := by decide +kernel
theorem dX1_readNumber_35 : decode cX1_readNumber 35 = .ok (.iload_n 2, 1) := by decide +kernel
theorem dX1_readNumber_36 : decode cX1_readNumber 36 = .ok (.if_icmp .le 8, 3) := by decide +kernel
theorem dX1_readNumber_39 : decode cX1_readNumber 39 = .ok (.aload_n 0, 1) := by decide +kernel
theorem dX1_readNumber_40 : decode cX1_readNumber 40 = .ok (.iconst 1, 1) := by decide +kernel
theorem dX1_readNumber_41 : decode cX1_readNumber 41 = .ok (.putfield 22, 3) := by decide +kernel
theorem dX1_readNumber_44 : decode cX1_readNumber 44 = .ok (.iload_n 3, 1) := by decide +kernel
theorem dX1_readNumber_45 : decode cX1_readNumber 45 = .ok (.ireturn, 1) := by decide +kernel
theorem dX2_init_0 : decode cX2_init 0 = .ok (.aload_n 0, 1) := by decide +kernel
theorem dX2_init_1 : decode cX2_init 1 = .ok (.invokespecial 3, 3) := by decide +kernel
theorem dX2_init_4 : decode cX2_init 4 = .ok (.aload_n 0, 1) := by decide +kernel
theorem dX2_init_5 : decode cX2_init 5 = .ok (.iconst 0, 1) := by decide +kernel
theorem dX2_init_6 : decode cX2_init 6 = .ok (.putfield 9, 3) := by decide +kernel
theorem dX2_init_9 : decode cX2_init 9 = .ok (.aload_n 0, 1) := by decide +kernel
theorem dX2_init_10 : decode cX2_init 10 = .ok (.iconst 0, 1) := by decide +kernel
theorem dX2_init_11 : decode cX2_init 11 = .ok (.putfield 15, 3) := by decide +kernel
theorem dX2_init_14 : decode cX2_init 14 = .ok (.aload_n 0, 1) := by decide +kernel
theorem dX2_init_15 : decode cX2_init 15 = .ok (.sipush 256, 3) := by decide +kernel
theorem dX2_init_18 : decode cX2_init 18 = .ok (.newarray .boolean, 2) := by decide +kernel
theorem dX2_init_20 : decode cX2_init 20 = .ok (.putfield 18, 3) := by decide +kernel
theorem dX2_init_23 : decode cX2_init 23 = .ok (.aload_n 0, 1) := by decide +kernel
theorem dX2_init_24 : decode cX2_init 24 = .ok (.sipush 256, 3) := by decide +kernel
theorem dX2_init_27 : decode cX2_init 27 = .ok (.newarray .int, 2) := by decide +kernel
theorem dX2_init_29 : decode cX2_init 29 = .ok (.putfield 22, 3) := by decide +kernel
theorem dX2_init_32 : decode cX2_init 32 = .ok (.aload_n 0, 1) := by decide +kernel
theorem dX2_init_33 : decode cX2_init 33 = .ok (.bipush 12, 2) := by decide +kernel
theorem dX2_init_35 : decode cX2_init 35 = .ok (.newarray .int, 2) := by decide +kernel
theorem dX2_init_37 : decode cX2_init 37 = .ok (.putfield 26, 3) := by decide +kernel
theorem dX2_init_40 : decode cX2_init 40 = .ok (.aload_n 0, 1) := by decide +kernel
theorem dX2_init_41 : decode cX2_init 41 = .ok (.bipush 13, 2) := by decide +kernel
theorem dX2_init_43 : decode cX2_init 43 = .ok (.sipush 256, 3) := by decide +kernel
theorem dX2_init_46 : decode cX2_init 46 = .ok (.multianewarray 29 2, 4) := by decide +kernel
theorem dX2_init_50 : decode cX2_init 50 = .ok (.putfield 31, 3) := by decide +kernel
theorem dX2_init_53 : decode cX2_init 53 = .ok (.aload_n 0, 1) := by decide +kernel
theorem dX2_init_54 : decode cX2_init 54 = .ok (.sipush 256, 3) := by decide +kernel
theorem dX2_init_57 : decode cX2_init 57 = .ok (.newarray .int, 2) := by decide +kernel
theorem dX2_init_59 : decode cX2_init 59 = .ok (.putfield 34, 3) := by decide +kernel
theorem dX2_init_62 : decode cX2_init 62 = .ok (.aload_n 0, 1) := by decide +kernel
theorem dX2_init_63 : decode cX2_init 63 = .ok (.sipush 256, 3) := by decide +kernel
theorem dX2_init_66 : decode cX2_init 66 = .ok (.newarray .long, 2) := by decide +kernel
theorem dX2_init_68 : decode cX2_init 68 = .ok (.putfield 37, 3) := by decide +kernel
theorem dX2_init_71 : decode cX2_init 71 = .ok (.aload_n 0, 1) := by decide +kernel
theorem dX2_init_72 : decode cX2_init 72 = .ok (.bipush 8, 2) := by decide +kernel
theorem dX2_init_74 : decode cX2_init 74 = .ok (.newarray .int, 2) := by decide +kernel
theorem dX2_init_76 : decode cX2_init 76 = .ok (.putfield 41, 3) := by decide +kernel
theorem dX2_init_79 : decode cX2_init 79 = .ok (.aload_n 0, 1) := by decide +kernel
theorem dX2_init_80 : decode cX2_init 80 = .ok (.iconst 0, 1) := by decide +kernel
theorem dX2_init_81 : decode cX2_init 81 = .ok (.putfield 44, 3) := by decide +kernel
theorem dX2_init_84 : decode cX2_init 84 = .ok (.aload_n 0, 1) := by decide +kernel
theorem dX2_init_85 : decode cX2_init 85 = .ok (.bipush (-9), 2) := by decide +kernel
theorem dX2_init_87 : decode cX2_init 87 = .ok (.putfield 47, 3) := by decide +kernel
theorem dX2_init_90 : decode cX2_init 90 = .ok (.aload_n 0, 1) := by decide +kernel
theorem dX2_init_91 : decode cX2_init 91 = .ok (.bipush (-9), 2) := by decide +kernel
theorem dX2_init_93 : decode cX2_init 93 = .ok (.putfield 50, 3) := by decide +kernel
theorem dX2_init_96 : decode cX2_init 96 = .ok (.aload_n 0, 1) := by decide +kernel
theorem dX2_init_97 : decode cX2_init 97 = .ok (.getfield 18, 3) := by decide +kernel
theorem dX2_init_100 : decode cX2_init 100 = .ok (.iconst 0, 1) := by decide +kernel
theorem dX2_init_101 : decode cX2_init 101 = .ok (.iconst 1, 1) := by decide +kernel
theorem dX2_init_102 : decode cX2_init 102 = .ok (.bastore, 1) := by decide +kernel
theorem dX2_init_103 : decode cX2_init 103 = .ok (.return_, 1) := by decide +kernel
set_option maxRecDepth 20000 in
theorem ggX2_learn_X3_clash : GoodIn wsX2_learn wsX3_clash := goodIn_r _ [11, 12, 13, 14, 15, 16, 17, 18, 19, 20, 21, 22, 23, 24] (by decide +kernel) (by decide +kernel)
set_option maxRecDepth 20000 in
theorem gX2_learn_X3_clash : GoodIn wsX2_learn (wsV RX2 56 RX3 yX3_clash wsX3_clash) := goodIn_app (goodIn_of _ (by decide +kernel)) ggX2_learn_X3_clash
theorem dX2_learn_0 : decode cX2_learn 0 = .ok (.aload_n 0, 1) := by decide +kernel
theorem dX2_learn_1 : decode cX2_learn 1 = .ok (.aload_n 1, 1) := by decide +kernel
theorem dX2_learn_2 : decode cX2_learn 2 = .ok (.getfield 53, 3) := by decide +kernel
theorem dX2_learn_5 : decode cX2_learn 5 = .ok (.putfield 9, 3) := by decide +kernel
theorem dX2_learn_8 : decode cX2_learn 8 = .ok (.aload_n 0, 1) := by decide +kernel
theorem dX2_learn_9 : decode cX2_learn 9 = .ok (.iconst 1, 1) := by decide +kernel
theorem dX2_learn_10 : decode cX2_learn 10 = .ok (.aload_n 0, 1) := by decide +kernel
theorem dX2_learn_11 : decode cX2_learn 11 = .ok (.getfield 9, 3) := by decide +kernel
theorem dX2_learn_14 : decode cX2_learn 14 = .ok (.ishl, 1) := by decide +kernel
theorem dX2_learn_15 : decode cX2_learn 15 = .ok (.iconst 1, 1) := by decide +kernel
theorem dX2_learn_16 : decode cX2_learn 16 = .ok (.isub, 1) := by decide +kernel
theorem dX2_learn_17 : decode cX2_learn 17 = .ok (.putfield 15, 3) := by decide +kernel
theorem dX2_learn_20 : decode cX2_learn 20 = .ok (.iconst 0, 1) := by decide +kernel
theorem dX2_learn_21 : decode cX2_learn 21 = .ok (.istore_n 2, 1) := by decide +kernel
theorem dX2_learn_22 : decode cX2_learn 22 = .ok (.iload_n 2, 1) := by decide +kernel
theorem dX2_learn_23 : decode cX2_learn 23 = .ok (.aload_n 0, 1) := by decide +kernel
theorem dX2_learn_24 : decode cX2_learn 24 = .ok (.getfield 9, 3) := by decide +kernel
theorem dX2_learn_27 : decode cX2_learn 27 = .ok (.if_icmp .ge 120, 3) := by decide +kernel
theorem dX2_learn_30 : decode cX2_learn 30 = .ok (.iconst 0, 1) := by decide +kernel
theorem dX2_learn_31 : decode cX2_learn 31 = .ok (.istore_n 3, 1) := by decide +kernel
theorem dX2_learn_32 : decode cX2_learn 32 = .ok (.iconst 0, 1) := by decide +kernel
theorem dX2_learn_33 : decode cX2_learn 33 = .ok (.istore 4, 2) := by decide +kernel
theorem dX2_learn_35 : decode cX2_learn 35 = .ok (.iload 4, 2) := by decide +kernel
theorem dX2_learn_37 : decode cX2_learn 37 = .ok (.iload_n 2, 1) := by decide +kernel
theorem dX2_learn_38 : decode cX2_learn 38 = .ok (.if_icmp .ge 26, 3) := by decide +kernel
theorem dX2_learn_41 : decode cX2_learn 41 = .ok (.aload_n 1, 1) := by decide +kernel
theorem dX2_learn_42 : decode cX2_learn 42 = .ok (.iload_n 2, 1) := by decide +kernel
theorem dX2_learn_43 : decode cX2_learn 43 = .ok (.iload 4, 2) := by decide +kernel
theorem dX2_learn_45 : decode cX2_learn 45 = .ok (.invokevirtual 56, 3) := by decide +kernel
theorem dX2_learn_48 : decode cX2_learn 48 = .ok (.ifCond .eq 10, 3) := by decide +kernel
theorem dX2_learn_51 : decode cX2_learn 51 = .ok (.iload_n 3, 1) := by decide +kernel
theorem dX2_learn_52 : decode cX2_learn 52 = .ok (.iconst 1, 1) := by decide +kernel
theorem dX2_learn_53 : decode cX2_learn 53 = .ok (.iload 4, 2) := by decide +kernel
theorem dX2_learn_55 : decode cX2_learn 55 = .ok (.ishl, 1) := by decide +kernel
theorem dX2_learn_56 : decode cX2_learn 56 = .ok (.ior, 1) := by decide +kernel
theorem dX2_learn_57 : decode cX2_learn 57 = .ok (.istore_n 3, 1) := by decide +kernel
theorem dX2_learn_58 : decode cX2_learn 58 = .ok (.iinc 4 1, 3) := by decide +kernel
theorem dX2_learn_61 : decode cX2_learn 61 = .ok (.goto (-26), 3) := by decide +kernel
theorem dX2_learn_64 : decode cX2_learn 64 = .ok (.iconst 1, 1) := by decide +kernel
theorem dX2_learn_65 : decode cX2_learn 65 = .ok (.iload_n 2, 1) := by decide +kernel
theorem dX2_learn_66 : decode cX2_learn 66 = .ok (.ishl, 1) := by decide +kernel
theorem dX2_learn_67 : decode cX2_learn 67 = .ok (.istore 4, 2) := by decide +kernel
theorem dX2_learn_69 : decode cX2_learn 69 = .ok (.iconst 0, 1) := by decide +kernel
theorem dX2_learn_70 : decode cX2_learn 70 = .ok (.istore 5, 2) := by decide +kernel
theorem dX2_learn_72 : decode cX2_learn 72 = .ok (.iload 5, 2) := by decide +kernel
theorem dX2_learn_74 : decode cX2_learn 74 = .ok (.iload 4, 2) := by decide +kernel
theorem dX2_learn_76 : decode cX2_learn 76 = .ok (.if_icmp .ge 65, 3) := by decide +kernel
theorem dX2_learn_79 : decode cX2_learn 79 = .ok (.aload_n 0, 1) := by decide +kernel
theorem dX2_learn_80 : decode cX2_learn 80 = .ok (.getfield 18, 3) := by decide +kernel
theorem dX2_learn_83 : decode cX2_learn 83 = .ok (.iload 4, 2) := by decide +kernel
theorem dX2_learn_85 : decode cX2_learn 85 = .ok (.iload 5, 2) := by decide +kernel
theorem dX2_learn_87 : decode cX2_learn 87 = .ok (.ior, 1) := by decide +kernel
theorem dX2_learn_88 : decode cX2_learn 88 = .ok (.aload_n 0, 1) := by decide +kernel
theorem dX2_learn_89 : decode cX2_learn 89 = .ok (.getfield 18, 3) := by decide +kernel
theorem dX2_learn_92 : decode cX2_learn 92 = .ok (.iload 5, 2) := by decide +kernel
theorem dX2_learn_94 : decode cX2_learn 94 = .ok (.baload, 1) := by decide +kernel
theorem dX2_learn_95 : decode cX2_learn 95 = .ok (.ifCond .eq 14, 3) := by decide +kernel
theorem dX2_learn_98 : decode cX2_learn 98 = .ok (.iload 5, 2) := by decide +kernel
theorem dX2_learn_100 : decode cX2_learn 100 = .ok (.iload_n 3, 1) := by decide +kernel
theorem dX2_learn_101 : decode cX2_learn 101 = .ok (.iand, 1) := by decide +kernel
theorem dX2_learn_102 : decode cX2_learn 102 = .ok (.ifCond .ne 7, 3) := by decide +kernel
theorem dX2_learn_105 : decode cX2_learn 105 = .ok (.iconst 1, 1) := by decide +kernel
theorem dX2_learn_106 : decode cX2_learn 106 = .ok (.goto 4, 3) := by decide +kernel
theorem dX2_learn_109 : decode cX2_learn 109 = .ok (.iconst 0, 1) := by decide +kernel
theorem dX2_learn_110 : decode cX2_learn 110 = .ok (.bastore, 1) := by decide +kernel
theorem dX2_learn_111 : decode cX2_learn 111 = .ok (.aload_n 0, 1) := by decide +kernel
theorem dX2_learn_112 : decode cX2_learn 112 = .ok (.getfield 22, 3) := by decide +kernel
theorem dX2_learn_115 : decode cX2_learn 115 = .ok (.iload 4, 2) := by decide +kernel
theorem dX2_learn_117 : decode cX2_learn 117 = .ok (.iload 5, 2) := by decide +kernel
theorem dX2_learn_119 : decode cX2_learn 119 = .ok (.ior, 1) := by decide +kernel
theorem dX2_learn_120 : decode cX2_learn 120 = .ok (.aload_n 0, 1) := by decide +kernel
theorem dX2_learn_121 : decode cX2_learn 121 = .ok (.getfield 22, 3) := by decide +kernel
theorem dX2_learn_124 : decode cX2_learn 124 = .ok (.iload 5, 2) := by decide +kernel
theorem dX2_learn_126 : decode cX2_learn 126 = .ok (.iaload, 1) := by decide +kernel
theorem dX2_learn_127 : decode cX2_learn 127 = .ok (.aload_n 1, 1) := by decide +kernel
theorem dX2_learn_128 : decode cX2_learn 128 = .ok (.getfield 60, 3) := by decide +kernel
theorem dX2_learn_131 : decode cX2_learn 131 = .ok (.iload_n 2, 1) := by decide +kernel
theorem dX2_learn_132 : decode cX2_learn 132 = .ok (.iaload, 1) := by decide +kernel
theorem dX2_learn_133 : decode cX2_learn 133 = .ok (.iadd, 1) := by decide +kernel
theorem dX2_learn_134 : decode cX2_learn 134 = .ok (.iastore, 1) := by decide +kernel
theorem dX2_learn_135 : decode cX2_learn 135 = .ok (.iinc 5 1, 3) := by decide +kernel
theorem dX2_learn_138 : decode cX2_learn 138 = .ok (.goto (-66), 3) := by decide +kernel
theorem dX2_learn_141 : decode cX2_learn 141 = .ok (.iinc 2 1, 3) := by decide +kernel
theorem dX2_learn_144 : decode cX2_learn 144 = .ok (.goto (-122), 3) := by decide +kernel
theorem dX2_learn_147 : decode cX2_learn 147 = .ok (.return_, 1) := by decide +kernel
set_option maxRecDepth 20000 in
theorem ggX2_mostAtOnce_J6_bitCount_0f7a4 : GoodIn wsX2_mostAtOnce wsJ6_bitCount_0f7a4 := goodIn_r _ [10, 11, 12, 13] (by decide +kernel) (by decide +kernel)
set_option maxRecDepth 20000 in
theorem gX2_mostAtOnce_J6_bitCount_0f7a4 : GoodIn wsX2_mostAtOnce (va_wsS RX2 63 yJ6_bitCount_0f7a4 wsJ6_bitCount_0f7a4) := goodIn_app (goodIn_of _ (by decide +kernel)) ggX2_mostAtOnce_J6_bitCount_0f7a4
theorem dX2_mostAtOnce_0 : decode cX2_mostAtOnce 0 = .ok (.iconst 0, 1) := by decide +kernel
theorem dX2_mostAtOnce_1 : decode cX2_mostAtOnce 1 = .ok (.istore_n 2, 1) := by decide +kernel
theorem dX2_mostAtOnce_2 : decode cX2_mostAtOnce 2 = .ok (.iload_n 1, 1) := by decide +kernel
theorem dX2_mostAtOnce_3 : decode cX2_mostAtOnce 3 = .ok (.aload_n 0, 1) := by decide +kernel
theorem dX2_mostAtOnce_4 : decode cX2_mostAtOnce 4 = .ok (.getfield 15, 3) := by decide +kernel
theorem dX2_mostAtOnce_7 : decode cX2_mostAtOnce 7 = .ok (.iand, 1) := by decide +kernel
theorem dX2_mostAtOnce_8 : decode cX2_mostAtOnce 8 = .ok (.istore_n 3, 1) := by decide +kernel
theorem dX2_mostAtOnce_9 : decode cX2_mostAtOnce 9 = .ok (.iload_n 3, 1) := by decide +kernel
theorem dX2_mostAtOnce_10 : decode cX2_mostAtOnce 10 = .ok (.ifCond .le 30, 3) := by decide +kernel
theorem dX2_mostAtOnce_13 : decode cX2_mostAtOnce 13 = .ok (.aload_n 0, 1) := by decide +kernel
theorem dX2_mostAtOnce_14 : decode cX2_mostAtOnce 14 = .ok (.getfield 18, 3) := by decide +kernel
theorem dX2_mostAtOnce_17 : decode cX2_mostAtOnce 17 = .ok (.iload_n 3, 1) := by decide +kernel
theorem dX2_mostAtOnce_18 : decode cX2_mostAtOnce 18 = .ok (.baload, 1) := by decide +kernel
theorem dX2_mostAtOnce_19 : decode cX2_mostAtOnce 19 = .ok (.ifCond .eq 12, 3) := by decide +kernel
theorem dX2_mostAtOnce_22 : decode cX2_mostAtOnce 22 = .ok (.iload_n 2, 1) := by decide +kernel
theorem dX2_mostAtOnce_23 : decode cX2_mostAtOnce 23 = .ok (.iload_n 3, 1) := by decide +kernel
theorem dX2_mostAtOnce_24 : decode cX2_mostAtOnce 24 = .ok (.invokestatic 63, 3) := by decide +kernel
theorem dX2_mostAtOnce_27 : decode cX2_mostAtOnce 27 = .ok (.invokestatic 69, 3) := by decide +kernel
theorem dX2_mostAtOnce_30 : decode cX2_mostAtOnce 30 = .ok (.istore_n 2, 1) := by decide +kernel
theorem dX2_mostAtOnce_31 : decode cX2_mostAtOnce 31 = .ok (.iload_n 3, 1) := by decide +kernel
theorem dX2_mostAtOnce_32 : decode cX2_mostAtOnce 32 = .ok (.iconst 1, 1) := by decide +kernel
theorem dX2_mostAtOnce_33 : decode cX2_mostAtOnce 33 = .ok (.isub, 1) := by decide +kernel
theorem dX2_mostAtOnce_34 : decode cX2_mostAtOnce 34 = .ok (.iload_n 1, 1) := by decide +kernel
theorem dX2_mostAtOnce_35 : decode cX2_mostAtOnce 35 = .ok (.iand, 1) := by decide +kernel
theorem dX2_mostAtOnce_36 : decode cX2_mostAtOnce 36 = .ok (.istore_n 3, 1) := by decide +kernel
theorem dX2_mostAtOnce_37 : decode cX2_mostAtOnce 37 = .ok (.goto (-28), 3) := by decide +kernel
theorem dX2_mostAtOnce_40 : decode cX2_mostAtOnce 40 = .ok (.iload_n 2, 1) := by decide +kernel
theorem dX2_mostAtOnce_41 : decode cX2_mostAtOnce 41 = .ok (.ireturn, 1) := by decide +kernel
set_option maxRecDepth 20000 in
theorem ggX2_solve_X3_peopleOut : GoodIn wsX2_solve wsX3_peopleOut := goodIn_r _ [9, 10, 11, 78, 79, 80, 81, 82, 83, 84, 85, 86, 87, 88] (by decide +kernel) (by decide +kernel)
set_option maxRecDepth 20000 in
theorem gX2_solve_X3_peopleOut : GoodIn wsX2_solve (wsV RX2 75 RX3 yX3_peopleOut wsX3_peopleOut) := goodIn_app (goodIn_of _ (by decide +kernel)) ggX2_solve_X3_peopleOut
set_option maxRecDepth 20000 in
theorem ggX2_solve_X3_payableDebts : GoodIn wsX2_solve wsX3_payableDebts := goodIn_r _ [15, 16, 17, 18, 19, 8, 20, 21, 22, 23, 24, 25, 26, 27, 28, 29, 30, 31, 32, 33, 34, 35, 36, 37, 38, 39, 40, 78, 79, 80, 81, 82, 83, 84, 85, 86, 87, 88] (by decide +kernel) (by decide +kernel)
set_option maxRecDepth 20000 in
theorem gX2_solve_X3_payableDebts : GoodIn wsX2_solve (wsV RX2 78 RX3 yX3_payableDebts wsX3_payableDebts) := goodIn_app (goodIn_of _ (by decide +kernel)) ggX2_solve_X3_payableDebts
set_option maxRecDepth 20000 in
theorem ggX2_solve_J6_bitCount_0f7a4 : GoodIn wsX2_solve wsJ6_bitCount_0f7a4 := goodIn_r _ [44, 45, 46, 47] (by decide +kernel) (by decide +kernel)
set_option maxRecDepth 20000 in
theorem gX2_solve_J6_bitCount_0f7a4 : GoodIn wsX2_solve (va_wsS RX2 63 yJ6_bitCount_0f7a4 wsJ6_bitCount_0f7a4) := goodIn_app (goodIn_of _ (by decide +kernel)) ggX2_solve_J6_bitCount_0f7a4
set_option maxRecDepth 20000 in
theorem ggX2_solve_X2_solveBackFrom : GoodIn wsX2_solve wsX2_solveBackFrom := goodIn_r _ [52, 2, 3, 53, 54, 55, 51, 56, 1, 57, 58, 59, 60, 61, 62, 63, 64, 65, 4, 66, 67, 68, 69, 70, 71, 72, 73, 74, 75, 76, 77] (by decide +kernel) (by decide +kernel)
set_option maxRecDepth 20000 in
theorem gX2_solve_X2_solveBackFrom : GoodIn wsX2_solve (wsV RX2 81 RX2 yX2_solveBackFrom wsX2_solveBackFrom) := goodIn_app (goodIn_of _ (by decide +kernel)) ggX2_solve_X2_solveBackFrom
theorem dX2_solve_0 : decode cX2_solve 0 = .ok (.iconst 0, 1) := by decide +kernel
theorem dX2_solve_1 : decode cX2_solve 1 = .ok (.istore_n 2, 1) := by decide +kernel
theorem dX2_solve_2 : decode cX2_solve 2 = .ok (.iload_n 2, 1) := by decide +kernel
theorem dX2_solve_3 : decode cX2_solve 3 = .ok (.bipush 12, 2) := by decide +kernel
theorem dX2_solve_5 : decode cX2_solve 5 = .ok (.if_icmp .ge 25, 3) := by decide +kernel
theorem dX2_solve_8 : decode cX2_solve 8 = .ok (.aload_n 0, 1) := by decide +kernel
theorem dX2_solve_9 : decode cX2_solve 9 = .ok (.getfield 26, 3) := by decide +kernel
theorem dX2_solve_12 : decode cX2_solve 12 = .ok (.iload_n 2, 1) := by decide +kernel
theorem dX2_solve_13 : decode cX2_solve 13 = .ok (.aload_n 1, 1) := by decide +kernel
theorem dX2_solve_14 : decode cX2_solve 14 = .ok (.iload_n 2, 1) := by decide +kernel
theorem dX2_solve_15 : decode cX2_solve 15 = .ok (.aload_n 1, 1) := by decide +kernel
theorem dX2_solve_16 : decode cX2_solve 16 = .ok (.iload_n 2, 1) := by decide +kernel
theorem dX2_solve_17 : decode cX2_solve 17 = .ok (.invokevirtual 75, 3) := by decide +kernel
theorem dX2_solve_20 : decode cX2_solve 20 = .ok (.invokevirtual 78, 3) := by decide +kernel
theorem dX2_solve_23 : decode cX2_solve 23 = .ok (.iastore, 1) := by decide +kernel
theorem dX2_solve_24 : decode cX2_solve 24 = .ok (.iinc 2 1, 3) := by decide +kernel
theorem dX2_solve_27 : decode cX2_solve 27 = .ok (.goto (-25), 3) := by decide +kernel
theorem dX2_solve_30 : decode cX2_solve 30 = .ok (.iconst 0, 1) := by decide +kernel
theorem dX2_solve_31 : decode cX2_solve 31 = .ok (.istore_n 2, 1) := by decide +kernel
theorem dX2_solve_32 : decode cX2_solve 32 = .ok (.iload_n 2, 1) := by decide +kernel
theorem dX2_solve_33 : decode cX2_solve 33 = .ok (.aload_n 0, 1) := by decide +kernel
theorem dX2_solve_34 : decode cX2_solve 34 = .ok (.getfield 15, 3) := by decide +kernel
theorem dX2_solve_37 : decode cX2_solve 37 = .ok (.if_icmp .gt 45, 3) := by decide +kernel
theorem dX2_solve_40 : decode cX2_solve 40 = .ok (.aload_n 0, 1) := by decide +kernel
theorem dX2_solve_41 : decode cX2_solve 41 = .ok (.getfield 15, 3) := by decide +kernel
theorem dX2_solve_44 : decode cX2_solve 44 = .ok (.iload_n 2, 1) := by decide +kernel
theorem dX2_solve_45 : decode cX2_solve 45 = .ok (.iconst (-1), 1) := by decide +kernel
theorem dX2_solve_46 : decode cX2_solve 46 = .ok (.ixor, 1) := by decide +kernel
theorem dX2_solve_47 : decode cX2_solve 47 = .ok (.iand, 1) := by decide +kernel
theorem dX2_solve_48 : decode cX2_solve 48 = .ok (.istore_n 3, 1) := by decide +kernel
theorem dX2_solve_49 : decode cX2_solve 49 = .ok (.aload_n 0, 1) := by decide +kernel
theorem dX2_solve_50 : decode cX2_solve 50 = .ok (.getfield 31, 3) := by decide +kernel
theorem dX2_solve_53 : decode cX2_solve 53 = .ok (.bipush 12, 2) := by decide +kernel
theorem dX2_solve_55 : decode cX2_solve 55 = .ok (.aaload, 1) := by decide +kernel
theorem dX2_solve_56 : decode cX2_solve 56 = .ok (.iload_n 2, 1) := by decide +kernel
theorem dX2_solve_57 : decode cX2_solve 57 = .ok (.sipush 10000, 3) := by decide +kernel
theorem dX2_solve_60 : decode cX2_solve 60 = .ok (.iload_n 3, 1) := by decide +kernel
theorem dX2_solve_61 : decode cX2_solve 61 = .ok (.invokestatic 63, 3) := by decide +kernel
theorem dX2_solve_64 : decode cX2_solve 64 = .ok (.imul, 1) := by decide +kernel
theorem dX2_solve_65 : decode cX2_solve 65 = .ok (.bipush 12, 2) := by decide +kernel
theorem dX2_solve_67 : decode cX2_solve 67 = .ok (.aload_n 0, 1) := by decide +kernel
theorem dX2_solve_68 : decode cX2_solve 68 = .ok (.getfield 22, 3) := by decide +kernel
theorem dX2_solve_71 : decode cX2_solve 71 = .ok (.iload_n 3, 1) := by decide +kernel
theorem dX2_solve_72 : decode cX2_solve 72 = .ok (.iaload, 1) := by decide +kernel
theorem dX2_solve_73 : decode cX2_solve 73 = .ok (.imul, 1) := by decide +kernel
theorem dX2_solve_74 : decode cX2_solve 74 = .ok (.iadd, 1) := by decide +kernel
theorem dX2_solve_75 : decode cX2_solve 75 = .ok (.iastore, 1) := by decide +kernel
theorem dX2_solve_76 : decode cX2_solve 76 = .ok (.iinc 2 1, 3) := by decide +kernel
theorem dX2_solve_79 : decode cX2_solve 79 = .ok (.goto (-47), 3) := by decide +kernel
theorem dX2_solve_82 : decode cX2_solve 82 = .ok (.aload_n 0, 1) := by decide +kernel
theorem dX2_solve_83 : decode cX2_solve 83 = .ok (.bipush 11, 2) := by decide +kernel
theorem dX2_solve_85 : decode cX2_solve 85 = .ok (.invokevirtual 81, 3) := by decide +kernel
theorem dX2_solve_88 : decode cX2_solve 88 = .ok (.return_, 1) := by decide +kernel
set_option maxRecDepth 20000 in
theorem ggX2_solveBackFrom_X2_lossFrom : GoodIn wsX2_solveBackFrom wsX2_lossFrom := goodIn_r _ [7, 8, 2, 9, 10, 11, 12, 13, 14, 15, 16, 6, 17, 18, 19, 20, 21, 22, 23, 24, 25, 26, 27, 28, 29, 30] (by decide +kernel) (by decide +kernel)
set_option maxRecDepth 20000 in
theorem gX2_solveBackFrom_X2_lossFrom : GoodIn wsX2_solveBackFrom (wsV RX2 85 RX2 yX2_lossFrom wsX2_lossFrom) := goodIn_app (goodIn_of _ (by decide +kernel)) ggX2_solveBackFrom_X2_lossFrom
theorem dX2_solveBackFrom_0 : decode cX2_solveBackFrom 0 = .ok (.iload_n 1, 1) := by decide +kernel
theorem dX2_solveBackFrom_1 : decode cX2_solveBackFrom 1 = .ok (.istore_n 2, 1) := by decide +kernel
theorem dX2_solveBackFrom_2 : decode cX2_solveBackFrom 2 = .ok (.iload_n 2, 1) := by decide +kernel
theorem dX2_solveBackFrom_3 : decode cX2_solveBackFrom 3 = .ok (.ifCond .lt 39, 3) := by decide +kernel
theorem dX2_solveBackFrom_6 : decode cX2_solveBackFrom 6 = .ok (.iconst 0, 1) := by decide +kernel
theorem dX2_solveBackFrom_7 : decode cX2_solveBackFrom 7 = .ok (.istore_n 3, 1) := by decide +kernel
theorem dX2_solveBackFrom_8 : decode cX2_solveBackFrom 8 = .ok (.iload_n 3, 1) := by decide +kernel
theorem dX2_solveBackFrom_9 : decode cX2_solveBackFrom 9 = .ok (.aload_n 0, 1) := by decide +kernel
theorem dX2_solveBackFrom_10 : decode cX2_solveBackFrom 10 = .ok (.getfield 15, 3) := by decide +kernel
theorem dX2_solveBackFrom_13 : decode cX2_solveBackFrom 13 = .ok (.if_icmp .gt 23, 3) := by decide +kernel
theorem dX2_solveBackFrom_16 : decode cX2_solveBackFrom 16 = .ok (.aload_n 0, 1) := by decide +kernel
theorem dX2_solveBackFrom_17 : decode cX2_solveBackFrom 17 = .ok (.getfield 31, 3) := by decide +kernel
theorem dX2_solveBackFrom_20 : decode cX2_solveBackFrom 20 = .ok (.iload_n 2, 1) := by decide +kernel
theorem dX2_solveBackFrom_21 : decode cX2_solveBackFrom 21 = .ok (.aaload, 1) := by decide +kernel
theorem dX2_solveBackFrom_22 : decode cX2_solveBackFrom 22 = .ok (.iload_n 3, 1) := by decide +kernel
theorem dX2_solveBackFrom_23 : decode cX2_solveBackFrom 23 = .ok (.aload_n 0, 1) := by decide +kernel
theorem dX2_solveBackFrom_24 : decode cX2_solveBackFrom 24 = .ok (.iload_n 2, 1) := by decide +kernel
theorem dX2_solveBackFrom_25 : decode cX2_solveBackFrom 25 = .ok (.iload_n 3, 1) := by decide +kernel
theorem dX2_solveBackFrom_26 : decode cX2_solveBackFrom 26 = .ok (.invokevirtual 85, 3) := by decide +kernel
theorem dX2_solveBackFrom_29 : decode cX2_solveBackFrom 29 = .ok (.iastore, 1) := by decide +kernel
theorem dX2_solveBackFrom_30 : decode cX2_solveBackFrom 30 = .ok (.iinc 3 1, 3) := by decide +kernel
theorem dX2_solveBackFrom_33 : decode cX2_solveBackFrom 33 = .ok (.goto (-25), 3) := by decide +kernel
theorem dX2_solveBackFrom_36 : decode cX2_solveBackFrom 36 = .ok (.iinc 2 (-1), 3) := by decide +kernel
theorem dX2_solveBackFrom_39 : decode cX2_solveBackFrom 39 = .ok (.goto (-37), 3) := by decide +kernel
theorem dX2_solveBackFrom_42 : decode cX2_solveBackFrom 42 = .ok (.return_, 1) := by decide +kernel
set_option maxRecDepth 20000 in
theorem ggX2_lossFrom_X2_lossBy : GoodIn wsX2_lossFrom wsX2_lossBy := goodIn_r _ [12, 13, 2, 14, 15, 16, 17, 18, 19, 20, 21, 22, 23, 24, 25] (by decide +kernel) (by decide +kernel)
set_option maxRecDepth 20000 in
theorem gX2_lossFrom_X2_lossBy : GoodIn wsX2_lossFrom (wsV RX2 88 RX2 yX2_lossBy wsX2_lossBy) := goodIn_app (goodIn_of _ (by decide +kernel)) ggX2_lossFrom_X2_lossBy
theorem dX2_lossFrom_0 : decode cX2_lossFrom 0 = .ok (.aload_n 0, 1) := by decide +kernel
theorem dX2_lossFrom_1 : decode cX2_lossFrom 1 = .ok (.getfield 26, 3) := by decide +kernel
theorem dX2_lossFrom_4 : decode cX2_lossFrom 4 = .ok (.iload_n 1, 1) := by decide +kernel
theorem dX2_lossFrom_5 : decode cX2_lossFrom 5 = .ok (.iaload, 1) := by decide +kernel
theorem dX2_lossFrom_6 : decode cX2_lossFrom 6 = .ok (.iload_n 2, 1) := by decide +kernel
theorem dX2_lossFrom_7 : decode cX2_lossFrom 7 = .ok (.iconst (-1), 1) := by decide +kernel
theorem dX2_lossFrom_8 : decode cX2_lossFrom 8 = .ok (.ixor, 1) := by decide +kernel
theorem dX2_lossFrom_9 : decode cX2_lossFrom 9 = .ok (.iand, 1) := by decide +kernel
theorem dX2_lossFrom_10 : decode cX2_lossFrom 10 = .ok (.istore_n 3, 1) := by decide +kernel
theorem dX2_lossFrom_11 : decode cX2_lossFrom 11 = .ok (.aload_n 0, 1) := by decide +kernel
theorem dX2_lossFrom_12 : decode cX2_lossFrom 12 = .ok (.getfield 31, 3) := by decide +kernel
theorem dX2_lossFrom_15 : decode cX2_lossFrom 15 = .ok (.iload_n 1, 1) := by decide +kernel
theorem dX2_lossFrom_16 : decode cX2_lossFrom 16 = .ok (.iconst 1, 1) := by decide +kernel
theorem dX2_lossFrom_17 : decode cX2_lossFrom 17 = .ok (.iadd, 1) := by decide +kernel
theorem dX2_lossFrom_18 : decode cX2_lossFrom 18 = .ok (.aaload, 1) := by decide +kernel
theorem dX2_lossFrom_19 : decode cX2_lossFrom 19 = .ok (.iload_n 2, 1) := by decide +kernel
theorem dX2_lossFrom_20 : decode cX2_lossFrom 20 = .ok (.iaload, 1) := by decide +kernel
theorem dX2_lossFrom_21 : decode cX2_lossFrom 21 = .ok (.istore 4, 2) := by decide +kernel
theorem dX2_lossFrom_23 : decode cX2_lossFrom 23 = .ok (.iload_n 3, 1) := by decide +kernel
theorem dX2_lossFrom_24 : decode cX2_lossFrom 24 = .ok (.istore 5, 2) := by decide +kernel
theorem dX2_lossFrom_26 : decode cX2_lossFrom 26 = .ok (.iload 5, 2) := by decide +kernel
theorem dX2_lossFrom_28 : decode cX2_lossFrom 28 = .ok (.ifCond .le 39, 3) := by decide +kernel
theorem dX2_lossFrom_31 : decode cX2_lossFrom 31 = .ok (.aload_n 0, 1) := by decide +kernel
theorem dX2_lossFrom_32 : decode cX2_lossFrom 32 = .ok (.getfield 18, 3) := by decide +kernel
theorem dX2_lossFrom_35 : decode cX2_lossFrom 35 = .ok (.iload 5, 2) := by decide +kernel
theorem dX2_lossFrom_37 : decode cX2_lossFrom 37 = .ok (.baload, 1) := by decide +kernel
theorem dX2_lossFrom_38 : decode cX2_lossFrom 38 = .ok (.ifCond .eq 18, 3) := by decide +kernel
theorem dX2_lossFrom_41 : decode cX2_lossFrom 41 = .ok (.iload 4, 2) := by decide +kernel
theorem dX2_lossFrom_43 : decode cX2_lossFrom 43 = .ok (.aload_n 0, 1) := by decide +kernel
theorem dX2_lossFrom_44 : decode cX2_lossFrom 44 = .ok (.iload_n 1, 1) := by decide +kernel
theorem dX2_lossFrom_45 : decode cX2_lossFrom 45 = .ok (.iload_n 2, 1) := by decide +kernel
theorem dX2_lossFrom_46 : decode cX2_lossFrom 46 = .ok (.iload 5, 2) := by decide +kernel
theorem dX2_lossFrom_48 : decode cX2_lossFrom 48 = .ok (.invokevirtual 88, 3) := by decide +kernel
theorem dX2_lossFrom_51 : decode cX2_lossFrom 51 = .ok (.invokestatic 92, 3) := by decide +kernel
theorem dX2_lossFrom_54 : decode cX2_lossFrom 54 = .ok (.istore 4, 2) := by decide +kernel
theorem dX2_lossFrom_56 : decode cX2_lossFrom 56 = .ok (.iload 5, 2) := by decide +kernel
theorem dX2_lossFrom_58 : decode cX2_lossFrom 58 = .ok (.iconst 1, 1) := by decide +kernel
theorem dX2_lossFrom_59 : decode cX2_lossFrom 59 = .ok (.isub, 1) := by decide +kernel
theorem dX2_lossFrom_60 : decode cX2_lossFrom 60 = .ok (.iload_n 3, 1) := by decide +kernel
theorem dX2_lossFrom_61 : decode cX2_lossFrom 61 = .ok (.iand, 1) := by decide +kernel
theorem dX2_lossFrom_62 : decode cX2_lossFrom 62 = .ok (.istore 5, 2) := by decide +kernel
theorem dX2_lossFrom_64 : decode cX2_lossFrom 64 = .ok (.goto (-38), 3) := by decide +kernel
theorem dX2_lossFrom_67 : decode cX2_lossFrom 67 = .ok (.iload 4, 2) := by decide +kernel
theorem dX2_lossFrom_69 : decode cX2_lossFrom 69 = .ok (.ireturn, 1) := by decide +kernel
theorem dX2_lossBy_0 : decode cX2_lossBy 0 = .ok (.iload_n 1, 1) := by decide +kernel
theorem dX2_lossBy_1 : decode cX2_lossBy 1 = .ok (.aload_n 0, 1) := by decide +kernel
theorem dX2_lossBy_2 : decode cX2_lossBy 2 = .ok (.getfield 22, 3) := by decide +kernel
theorem dX2_lossBy_5 : decode cX2_lossBy 5 = .ok (.iload_n 3, 1) := by decide +kernel
theorem dX2_lossBy_6 : decode cX2_lossBy 6 = .ok (.iaload, 1) := by decide +kernel
theorem dX2_lossBy_7 : decode cX2_lossBy 7 = .ok (.imul, 1) := by decide +kernel
theorem dX2_lossBy_8 : decode cX2_lossBy 8 = .ok (.aload_n 0, 1) := by decide +kernel
theorem dX2_lossBy_9 : decode cX2_lossBy 9 = .ok (.getfield 31, 3) := by decide +kernel
theorem dX2_lossBy_12 : decode cX2_lossBy 12 = .ok (.iload_n 1, 1) := by decide +kernel
theorem dX2_lossBy_13 : decode cX2_lossBy 13 = .ok (.iconst 1, 1) := by decide +kernel
theorem dX2_lossBy_14 : decode cX2_lossBy 14 = .ok (.iadd, 1) := by decide +kernel
theorem dX2_lossBy_15 : decode cX2_lossBy 15 = .ok (.aaload, 1) := by decide +kernel
theorem dX2_lossBy_16 : decode cX2_lossBy 16 = .ok (.iload_n 2, 1) := by decide +kernel
theorem dX2_lossBy_17 : decode cX2_lossBy 17 = .ok (.iload_n 3, 1) := by decide +kernel
theorem dX2_lossBy_18 : decode cX2_lossBy 18 = .ok (.ior, 1) := by decide +kernel
theorem dX2_lossBy_19 : decode cX2_lossBy 19 = .ok (.iaload, 1) := by decide +kernel
theorem dX2_lossBy_20 : decode cX2_lossBy 20 = .ok (.iadd, 1) := by decide +kernel
theorem dX2_lossBy_21 : decode cX2_lossBy 21 = .ok (.ireturn, 1) := by decide +kernel
theorem dX2_leastLoss_0 : decode cX2_leastLoss 0 = .ok (.aload_n 0, 1) := by decide +kernel
theorem dX2_leastLoss_1 : decode cX2_leastLoss 1 = .ok (.getfield 31, 3) := by decide +kernel
theorem dX2_leastLoss_4 : decode cX2_leastLoss 4 = .ok (.iconst 0, 1) := by decide +kernel
theorem dX2_leastLoss_5 : decode cX2_leastLoss 5 = .ok (.aaload, 1) := by decide +kernel
theorem dX2_leastLoss_6 : decode cX2_leastLoss 6 = .ok (.iconst 0, 1) := by decide +kernel
theorem dX2_leastLoss_7 : decode cX2_leastLoss 7 = .ok (.iaload, 1) := by decide +kernel
theorem dX2_leastLoss_8 : decode cX2_leastLoss 8 = .ok (.ireturn, 1) := by decide +kernel
theorem dX2_interestOf_0 : decode cX2_interestOf 0 = .ok (.iload_n 1, 1) := by decide +kernel
theorem dX2_interestOf_1 : decode cX2_interestOf 1 = .ok (.sipush 10000, 3) := by decide +kernel
theorem dX2_interestOf_4 : decode cX2_interestOf 4 = .ok (.irem, 1) := by decide +kernel
theorem dX2_interestOf_5 : decode cX2_interestOf 5 = .ok (.ireturn, 1) := by decide +kernel
theorem dX2_paidOf_0 : decode cX2_paidOf 0 = .ok (.aload_n 0, 1) := by decide +kernel
theorem dX2_paidOf_1 : decode cX2_paidOf 1 = .ok (.getfield 9, 3) := by decide +kernel
theorem dX2_paidOf_4 : decode cX2_paidOf 4 = .ok (.iload_n 1, 1) := by decide +kernel
theorem dX2_paidOf_5 : decode cX2_paidOf 5 = .ok (.sipush 10000, 3) := by decide +kernel
theorem dX2_paidOf_8 : decode cX2_paidOf 8 = .ok (.idiv, 1) := by decide +kernel
theorem dX2_paidOf_9 : decode cX2_paidOf 9 = .ok (.isub, 1) := by decide +kernel
theorem dX2_paidOf_10 : decode cX2_paidOf 10 = .ok (.ireturn, 1) := by decide +kernel
set_option maxRecDepth 20000 in
theorem ggX2_trace_J7_fill_53178 : GoodIn wsX2_trace wsJ7_fill_53178 := goodIn_r _ [6] (by decide +kernel) (by decide +kernel)
set_option maxRecDepth 20000 in
theorem gX2_trace_J7_fill_53178 : GoodIn wsX2_trace (va_wsS RX2 95 yJ7_fill_53178 wsJ7_fill_53178) := goodIn_app (goodIn_of _ (by decide +kernel)) ggX2_trace_J7_fill_53178
set_option maxRecDepth 20000 in
theorem ggX2_trace_X2_leastSet : GoodIn wsX2_trace wsX2_leastSet := goodIn_r _ [11, 12, 13, 14, 15, 16, 17, 10, 18, 19, 20, 21, 22, 23, 24, 25, 26, 27, 28, 29, 30, 31] (by decide +kernel) (by decide +kernel)
set_option maxRecDepth 20000 in
theorem gX2_trace_X2_leastSet : GoodIn wsX2_trace (wsV RX2 101 RX2 yX2_leastSet wsX2_leastSet) := goodIn_app (goodIn_of _ (by decide +kernel)) ggX2_trace_X2_leastSet
theorem dX2_trace_0 : decode cX2_trace 0 = .ok (.aload_n 0, 1) := by decide +kernel
theorem dX2_trace_1 : decode cX2_trace 1 = .ok (.getfield 41, 3) := by decide +kernel
theorem dX2_trace_4 : decode cX2_trace 4 = .ok (.bipush (-9), 2) := by decide +kernel
theorem dX2_trace_6 : decode cX2_trace 6 = .ok (.invokestatic 95, 3) := by decide +kernel
theorem dX2_trace_9 : decode cX2_trace 9 = .ok (.iconst 0, 1) := by decide +kernel
theorem dX2_trace_10 : decode cX2_trace 10 = .ok (.istore_n 1, 1) := by decide +kernel
theorem dX2_trace_11 : decode cX2_trace 11 = .ok (.iconst 0, 1) := by decide +kernel
theorem dX2_trace_12 : decode cX2_trace 12 = .ok (.istore_n 2, 1) := by decide +kernel
theorem dX2_trace_13 : decode cX2_trace 13 = .ok (.iload_n 2, 1) := by decide +kernel
theorem dX2_trace_14 : decode cX2_trace 14 = .ok (.bipush 12, 2) := by decide +kernel
theorem dX2_trace_16 : decode cX2_trace 16 = .ok (.if_icmp .ge 56, 3) := by decide +kernel
theorem dX2_trace_19 : decode cX2_trace 19 = .ok (.aload_n 0, 1) := by decide +kernel
theorem dX2_trace_20 : decode cX2_trace 20 = .ok (.iload_n 2, 1) := by decide +kernel
theorem dX2_trace_21 : decode cX2_trace 21 = .ok (.iload_n 1, 1) := by decide +kernel
theorem dX2_trace_22 : decode cX2_trace 22 = .ok (.invokevirtual 101, 3) := by decide +kernel
theorem dX2_trace_25 : decode cX2_trace 25 = .ok (.istore_n 3, 1) := by decide +kernel
theorem dX2_trace_26 : decode cX2_trace 26 = .ok (.iconst 0, 1) := by decide +kernel
theorem dX2_trace_27 : decode cX2_trace 27 = .ok (.istore 4, 2) := by decide +kernel
theorem dX2_trace_29 : decode cX2_trace 29 = .ok (.iload 4, 2) := by decide +kernel
theorem dX2_trace_31 : decode cX2_trace 31 = .ok (.aload_n 0, 1) := by decide +kernel
theorem dX2_trace_32 : decode cX2_trace 32 = .ok (.getfield 9, 3) := by decide +kernel
theorem dX2_trace_35 : decode cX2_trace 35 = .ok (.if_icmp .ge 27, 3) := by decide +kernel
theorem dX2_trace_38 : decode cX2_trace 38 = .ok (.iload_n 3, 1) := by decide +kernel
theorem dX2_trace_39 : decode cX2_trace 39 = .ok (.iload 4, 2) := by decide +kernel
theorem dX2_trace_41 : decode cX2_trace 41 = .ok (.ishr, 1) := by decide +kernel
theorem dX2_trace_42 : decode cX2_trace 42 = .ok (.iconst 1, 1) := by decide +kernel
theorem dX2_trace_43 : decode cX2_trace 43 = .ok (.iand, 1) := by decide +kernel
theorem dX2_trace_44 : decode cX2_trace 44 = .ok (.iconst 1, 1) := by decide +kernel
theorem dX2_trace_45 : decode cX2_trace 45 = .ok (.if_icmp .ne 11, 3) := by decide +kernel
theorem dX2_trace_48 : decode cX2_trace 48 = .ok (.aload_n 0, 1) := by decide +kernel
theorem dX2_trace_49 : decode cX2_trace 49 = .ok (.getfield 41, 3) := by decide +kernel
theorem dX2_trace_52 : decode cX2_trace 52 = .ok (.iload 4, 2) := by decide +kernel
theorem dX2_trace_54 : decode cX2_trace 54 = .ok (.iload_n 2, 1) := by decide +kernel
theorem dX2_trace_55 : decode cX2_trace 55 = .ok (.iastore, 1) := by decide +kernel
theorem dX2_trace_56 : decode cX2_trace 56 = .ok (.iinc 4 1, 3) := by decide +kernel
theorem dX2_trace_59 : decode cX2_trace 59 = .ok (.goto (-30), 3) := by decide +kernel
theorem dX2_trace_62 : decode cX2_trace 62 = .ok (.iload_n 1, 1) := by decide +kernel
theorem dX2_trace_63 : decode cX2_trace 63 = .ok (.iload_n 3, 1) := by decide +kernel
theorem dX2_trace_64 : decode cX2_trace 64 = .ok (.ior, 1) := by decide +kernel
theorem dX2_trace_65 : decode cX2_trace 65 = .ok (.istore_n 1, 1) := by decide +kernel
theorem dX2_trace_66 : decode cX2_trace 66 = .ok (.iinc 2 1, 3) := by decide +kernel
theorem dX2_trace_69 : decode cX2_trace 69 = .ok (.goto (-56), 3) := by decide +kernel
theorem dX2_trace_72 : decode cX2_trace 72 = .ok (.return_, 1) := by decide +kernel
set_option maxRecDepth 20000 in
theorem ggX2_leastSet_X2_lossBy : GoodIn wsX2_leastSet wsX2_lossBy := goodIn_r _ [8, 9, 1, 10, 11, 12, 13, 14, 15, 16, 17, 18, 19, 20, 21] (by decide +kernel) (by decide +kernel)
set_option maxRecDepth 20000 in
theorem gX2_leastSet_X2_lossBy : GoodIn wsX2_leastSet (wsV RX2 88 RX2 yX2_lossBy wsX2_lossBy) := goodIn_app (goodIn_of _ (by decide +kernel)) ggX2_leastSet_X2_lossBy
theorem dX2_leastSet_0 : decode cX2_leastSet 0 = .ok (.aload_n 0, 1) := by decide +kernel
theorem dX2_leastSet_1 : decode cX2_leastSet 1 = .ok (.getfield 31, 3) := by decide +kernel
theorem dX2_leastSet_4 : decode cX2_leastSet 4 = .ok (.iload_n 1, 1) := by decide +kernel
theorem dX2_leastSet_5 : decode cX2_leastSet 5 = .ok (.iconst 1, 1) := by decide +kernel
theorem dX2_leastSet_6 : decode cX2_leastSet 6 = .ok (.iadd, 1) := by decide +kernel
theorem dX2_leastSet_7 : decode cX2_leastSet 7 = .ok (.aaload, 1) := by decide +kernel
theorem dX2_leastSet_8 : decode cX2_leastSet 8 = .ok (.iload_n 2, 1) := by decide +kernel
theorem dX2_leastSet_9 : decode cX2_leastSet 9 = .ok (.iaload, 1) := by decide +kernel
theorem dX2_leastSet_10 : decode cX2_leastSet 10 = .ok (.aload_n 0, 1) := by decide +kernel
theorem dX2_leastSet_11 : decode cX2_leastSet 11 = .ok (.getfield 31, 3) := by decide +kernel
theorem dX2_leastSet_14 : decode cX2_leastSet 14 = .ok (.iload_n 1, 1) := by decide +kernel
theorem dX2_leastSet_15 : decode cX2_leastSet 15 = .ok (.aaload, 1) := by decide +kernel
theorem dX2_leastSet_16 : decode cX2_leastSet 16 = .ok (.iload_n 2, 1) := by decide +kernel
theorem dX2_leastSet_17 : decode cX2_leastSet 17 = .ok (.iaload, 1) := by decide +kernel
theorem dX2_leastSet_18 : decode cX2_leastSet 18 = .ok (.if_icmp .ne 5, 3) := by decide +kernel
theorem dX2_leastSet_21 : decode cX2_leastSet 21 = .ok (.iconst 0, 1) := by decide +kernel
theorem dX2_leastSet_22 : decode cX2_leastSet 22 = .ok (.ireturn, 1) := by decide +kernel
theorem dX2_leastSet_23 : decode cX2_leastSet 23 = .ok (.aload_n 0, 1) := by decide +kernel
theorem dX2_leastSet_24 : decode cX2_leastSet 24 = .ok (.getfield 26, 3) := by decide +kernel
theorem dX2_leastSet_27 : decode cX2_leastSet 27 = .ok (.iload_n 1, 1) := by decide +kernel
theorem dX2_leastSet_28 : decode cX2_leastSet 28 = .ok (.iaload, 1) := by decide +kernel
theorem dX2_leastSet_29 : decode cX2_leastSet 29 = .ok (.iload_n 2, 1) := by decide +kernel
theorem dX2_leastSet_30 : decode cX2_leastSet 30 = .ok (.iconst (-1), 1) := by decide +kernel
theorem dX2_leastSet_31 : decode cX2_leastSet 31 = .ok (.ixor, 1) := by decide +kernel
theorem dX2_leastSet_32 : decode cX2_leastSet 32 = .ok (.iand, 1) := by decide +kernel
theorem dX2_leastSet_33 : decode cX2_leastSet 33 = .ok (.istore_n 3, 1) := by decide +kernel
theorem dX2_leastSet_34 : decode cX2_leastSet 34 = .ok (.iconst 0, 1) := by decide +kernel
theorem dX2_leastSet_35 : decode cX2_leastSet 35 = .ok (.istore 4, 2) := by decide +kernel
theorem dX2_leastSet_37 : decode cX2_leastSet 37 = .ok (.iload_n 3, 1) := by decide +kernel
theorem dX2_leastSet_38 : decode cX2_leastSet 38 = .ok (.istore 5, 2) := by decide +kernel
theorem dX2_leastSet_40 : decode cX2_leastSet 40 = .ok (.iload 5, 2) := by decide +kernel
theorem dX2_leastSet_42 : decode cX2_leastSet 42 = .ok (.ifCond .le 47, 3) := by decide +kernel
theorem dX2_leastSet_45 : decode cX2_leastSet 45 = .ok (.aload_n 0, 1) := by decide +kernel
theorem dX2_leastSet_46 : decode cX2_leastSet 46 = .ok (.getfield 18, 3) := by decide +kernel
theorem dX2_leastSet_49 : decode cX2_leastSet 49 = .ok (.iload 5, 2) := by decide +kernel
theorem dX2_leastSet_51 : decode cX2_leastSet 51 = .ok (.baload, 1) := by decide +kernel
theorem dX2_leastSet_52 : decode cX2_leastSet 52 = .ok (.ifCond .eq 26, 3) := by decide +kernel
theorem dX2_leastSet_55 : decode cX2_leastSet 55 = .ok (.aload_n 0, 1) := by decide +kernel
theorem dX2_leastSet_56 : decode cX2_leastSet 56 = .ok (.iload_n 1, 1) := by decide +kernel
theorem dX2_leastSet_57 : decode cX2_leastSet 57 = .ok (.iload_n 2, 1) := by decide +kernel
theorem dX2_leastSet_58 : decode cX2_leastSet 58 = .ok (.iload 5, 2) := by decide +kernel
theorem dX2_leastSet_60 : decode cX2_leastSet 60 = .ok (.invokevirtual 88, 3) := by decide +kernel
theorem dX2_leastSet_63 : decode cX2_leastSet 63 = .ok (.aload_n 0, 1) := by decide +kernel
theorem dX2_leastSet_64 : decode cX2_leastSet 64 = .ok (.getfield 31, 3) := by decide +kernel
theorem dX2_leastSet_67 : decode cX2_leastSet 67 = .ok (.iload_n 1, 1) := by decide +kernel
theorem dX2_leastSet_68 : decode cX2_leastSet 68 = .ok (.aaload, 1) := by decide +kernel
theorem dX2_leastSet_69 : decode cX2_leastSet 69 = .ok (.iload_n 2, 1) := by decide +kernel
theorem dX2_leastSet_70 : decode cX2_leastSet 70 = .ok (.iaload, 1) := by decide +kernel
theorem dX2_leastSet_71 : decode cX2_leastSet 71 = .ok (.if_icmp .ne 7, 3) := by decide +kernel
theorem dX2_leastSet_74 : decode cX2_leastSet 74 = .ok (.iload 5, 2) := by decide +kernel
theorem dX2_leastSet_76 : decode cX2_leastSet 76 = .ok (.istore 4, 2) := by decide +kernel
theorem dX2_leastSet_78 : decode cX2_leastSet 78 = .ok (.iload 5, 2) := by decide +kernel
theorem dX2_leastSet_80 : decode cX2_leastSet 80 = .ok (.iconst 1, 1) := by decide +kernel
theorem dX2_leastSet_81 : decode cX2_leastSet 81 = .ok (.isub, 1) := by decide +kernel
theorem dX2_leastSet_82 : decode cX2_leastSet 82 = .ok (.iload_n 3, 1) := by decide +kernel
theorem dX2_leastSet_83 : decode cX2_leastSet 83 = .ok (.iand, 1) := by decide +kernel
theorem dX2_leastSet_84 : decode cX2_leastSet 84 = .ok (.istore 5, 2) := by decide +kernel
theorem dX2_leastSet_86 : decode cX2_leastSet 86 = .ok (.goto (-46), 3) := by decide +kernel
theorem dX2_leastSet_89 : decode cX2_leastSet 89 = .ok (.iload 4, 2) := by decide +kernel
theorem dX2_leastSet_91 : decode cX2_leastSet 91 = .ok (.ireturn, 1) := by decide +kernel
set_option maxRecDepth 20000 in
theorem ggX2_paidWithout_X3_peopleOut : GoodIn wsX2_paidWithout wsX3_peopleOut := goodIn_r _ [6, 7, 8, 96, 97, 98, 99, 100, 101, 102, 103, 104, 105, 106] (by decide +kernel) (by decide +kernel)
set_option maxRecDepth 20000 in
theorem gX2_paidWithout_X3_peopleOut : GoodIn wsX2_paidWithout (wsV RX2 75 RX3 yX3_peopleOut wsX3_peopleOut) := goodIn_app (goodIn_of _ (by decide +kernel)) ggX2_paidWithout_X3_peopleOut
set_option maxRecDepth 20000 in
theorem ggX2_paidWithout_X3_payableDebts : GoodIn wsX2_paidWithout wsX3_payableDebts := goodIn_r _ [12, 13, 14, 15, 16, 5, 17, 18, 19, 20, 21, 22, 23, 24, 25, 26, 27, 28, 29, 30, 31, 32, 33, 34, 35, 36, 37, 96, 97, 98, 99, 100, 101, 102, 103, 104, 105, 106] (by decide +kernel) (by decide +kernel)
set_option maxRecDepth 20000 in
theorem gX2_paidWithout_X3_payableDebts : GoodIn wsX2_paidWithout (wsV RX2 78 RX3 yX3_payableDebts wsX3_payableDebts) := goodIn_app (goodIn_of _ (by decide +kernel)) ggX2_paidWithout_X3_payableDebts
set_option maxRecDepth 20000 in
theorem ggX2_paidWithout_X2_solveBackFrom : GoodIn wsX2_paidWithout wsX2_solveBackFrom := goodIn_r _ [42, 43, 44, 45, 46, 47, 41, 48, 1, 49, 50, 51, 52, 53, 54, 55, 56, 57, 58, 84, 85, 86, 87, 88, 89, 90, 91, 92, 93, 94, 95] (by decide +kernel) (by decide +kernel)
set_option maxRecDepth 20000 in
theorem gX2_paidWithout_X2_solveBackFrom : GoodIn wsX2_paidWithout (wsV RX2 81 RX2 yX2_solveBackFrom wsX2_solveBackFrom) := goodIn_app (goodIn_of _ (by decide +kernel)) ggX2_paidWithout_X2_solveBackFrom
set_option maxRecDepth 20000 in
theorem ggX2_paidWithout_X2_trace : GoodIn wsX2_paidWithout wsX2_trace := goodIn_r _ [62, 63, 64, 65, 66, 67, 68, 69, 70, 71, 41, 72, 44, 1, 49, 54, 55, 56, 57, 58, 84, 85, 86, 87, 88, 89, 90, 91, 92, 93, 94, 95] (by decide +kernel) (by decide +kernel)
set_option maxRecDepth 20000 in
theorem gX2_paidWithout_X2_trace : GoodIn wsX2_paidWithout (wsV RX2 104 RX2 yX2_trace wsX2_trace) := goodIn_app (goodIn_of _ (by decide +kernel)) ggX2_paidWithout_X2_trace
set_option maxRecDepth 20000 in
theorem ggX2_paidWithout_X2_paidTo : GoodIn wsX2_paidWithout wsX2_paidTo := goodIn_r _ [76, 64, 77, 63, 78, 79, 80, 5, 81, 82, 83, 84, 85, 86, 87, 88, 89, 90, 91, 92, 93, 94, 95, 96, 97, 98, 99, 100, 101, 102, 103, 104, 105, 106] (by decide +kernel) (by decide +kernel)
set_option maxRecDepth 20000 in
theorem gX2_paidWithout_X2_paidTo : GoodIn wsX2_paidWithout (wsV RX2 107 RX2 yX2_paidTo wsX2_paidTo) := goodIn_app (goodIn_of _ (by decide +kernel)) ggX2_paidWithout_X2_paidTo
theorem dX2_paidWithout_0 : decode cX2_paidWithout 0 = .ok (.aload_n 0, 1) := by decide +kernel
theorem dX2_paidWithout_1 : decode cX2_paidWithout 1 = .ok (.getfield 26, 3) := by decide +kernel
theorem dX2_paidWithout_4 : decode cX2_paidWithout 4 = .ok (.iload_n 3, 1) := by decide +kernel
theorem dX2_paidWithout_5 : decode cX2_paidWithout 5 = .ok (.iaload, 1) := by decide +kernel
theorem dX2_paidWithout_6 : decode cX2_paidWithout 6 = .ok (.istore 5, 2) := by decide +kernel
theorem dX2_paidWithout_8 : decode cX2_paidWithout 8 = .ok (.aload_n 1, 1) := by decide +kernel
theorem dX2_paidWithout_9 : decode cX2_paidWithout 9 = .ok (.iload_n 3, 1) := by decide +kernel
theorem dX2_paidWithout_10 : decode cX2_paidWithout 10 = .ok (.aload_n 1, 1) := by decide +kernel
theorem dX2_paidWithout_11 : decode cX2_paidWithout 11 = .ok (.iload_n 3, 1) := by decide +kernel
theorem dX2_paidWithout_12 : decode cX2_paidWithout 12 = .ok (.invokevirtual 75, 3) := by decide +kernel
theorem dX2_paidWithout_15 : decode cX2_paidWithout 15 = .ok (.iconst 1, 1) := by decide +kernel
theorem dX2_paidWithout_16 : decode cX2_paidWithout 16 = .ok (.iload_n 2, 1) := by decide +kernel
theorem dX2_paidWithout_17 : decode cX2_paidWithout 17 = .ok (.ishl, 1) := by decide +kernel
theorem dX2_paidWithout_18 : decode cX2_paidWithout 18 = .ok (.iconst (-1), 1) := by decide +kernel
theorem dX2_paidWithout_19 : decode cX2_paidWithout 19 = .ok (.ixor, 1) := by decide +kernel
theorem dX2_paidWithout_20 : decode cX2_paidWithout 20 = .ok (.iand, 1) := by decide +kernel
theorem dX2_paidWithout_21 : decode cX2_paidWithout 21 = .ok (.invokevirtual 78, 3) := by decide +kernel
theorem dX2_paidWithout_24 : decode cX2_paidWithout 24 = .ok (.istore 6, 2) := by decide +kernel
theorem dX2_paidWithout_26 : decode cX2_paidWithout 26 = .ok (.iload 6, 2) := by decide +kernel
theorem dX2_paidWithout_28 : decode cX2_paidWithout 28 = .ok (.iload 5, 2) := by decide +kernel
theorem dX2_paidWithout_30 : decode cX2_paidWithout 30 = .ok (.if_icmp .ne 6, 3) := by decide +kernel
theorem dX2_paidWithout_33 : decode cX2_paidWithout 33 = .ok (.iload 4, 2) := by decide +kernel
theorem dX2_paidWithout_35 : decode cX2_paidWithout 35 = .ok (.ireturn, 1) := by decide +kernel
theorem dX2_paidWithout_36 : decode cX2_paidWithout 36 = .ok (.aload_n 0, 1) := by decide +kernel
theorem dX2_paidWithout_37 : decode cX2_paidWithout 37 = .ok (.getfield 26, 3) := by decide +kernel
theorem dX2_paidWithout_40 : decode cX2_paidWithout 40 = .ok (.iload_n 3, 1) := by decide +kernel
theorem dX2_paidWithout_41 : decode cX2_paidWithout 41 = .ok (.iload 6, 2) := by decide +kernel
theorem dX2_paidWithout_43 : decode cX2_paidWithout 43 = .ok (.iastore, 1) := by decide +kernel
theorem dX2_paidWithout_44 : decode cX2_paidWithout 44 = .ok (.aload_n 0, 1) := by decide +kernel
theorem dX2_paidWithout_45 : decode cX2_paidWithout 45 = .ok (.iload_n 3, 1) := by decide +kernel
theorem dX2_paidWithout_46 : decode cX2_paidWithout 46 = .ok (.invokevirtual 81, 3) := by decide +kernel
theorem dX2_paidWithout_49 : decode cX2_paidWithout 49 = .ok (.aload_n 0, 1) := by decide +kernel
theorem dX2_paidWithout_50 : decode cX2_paidWithout 50 = .ok (.invokevirtual 104, 3) := by decide +kernel
theorem dX2_paidWithout_53 : decode cX2_paidWithout 53 = .ok (.aload_n 0, 1) := by decide +kernel
theorem dX2_paidWithout_54 : decode cX2_paidWithout 54 = .ok (.getfield 26, 3) := by decide +kernel
theorem dX2_paidWithout_57 : decode cX2_paidWithout 57 = .ok (.iload_n 3, 1) := by decide +kernel
theorem dX2_paidWithout_58 : decode cX2_paidWithout 58 = .ok (.iload 5, 2) := by decide +kernel
theorem dX2_paidWithout_60 : decode cX2_paidWithout 60 = .ok (.iastore, 1) := by decide +kernel
theorem dX2_paidWithout_61 : decode cX2_paidWithout 61 = .ok (.aload_n 0, 1) := by decide +kernel
theorem dX2_paidWithout_62 : decode cX2_paidWithout 62 = .ok (.aload_n 1, 1) := by decide +kernel
theorem dX2_paidWithout_63 : decode cX2_paidWithout 63 = .ok (.iload_n 2, 1) := by decide +kernel
theorem dX2_paidWithout_64 : decode cX2_paidWithout 64 = .ok (.invokevirtual 107, 3) := by decide +kernel
theorem dX2_paidWithout_67 : decode cX2_paidWithout 67 = .ok (.ireturn, 1) := by decide +kernel
set_option maxRecDepth 20000 in
theorem ggX2_paidTo_X3_cost : GoodIn wsX2_paidTo wsX3_cost := goodIn_r _ [8, 9, 10, 23, 24, 25, 26, 27, 28, 29, 30, 31, 32, 33] (by decide +kernel) (by decide +kernel)
set_option maxRecDepth 20000 in
theorem gX2_paidTo_X3_cost : GoodIn wsX2_paidTo (wsV RX2 114 RX3 yX3_cost wsX3_cost) := goodIn_app (goodIn_of _ (by decide +kernel)) ggX2_paidTo_X3_cost
theorem dX2_paidTo_0 : decode cX2_paidTo 0 = .ok (.iconst 0, 1) := by decide +kernel
theorem dX2_paidTo_1 : decode cX2_paidTo 1 = .ok (.istore_n 3, 1) := by decide +kernel
theorem dX2_paidTo_2 : decode cX2_paidTo 2 = .ok (.iconst 0, 1) := by decide +kernel
theorem dX2_paidTo_3 : decode cX2_paidTo 3 = .ok (.istore 4, 2) := by decide +kernel
theorem dX2_paidTo_5 : decode cX2_paidTo 5 = .ok (.iload 4, 2) := by decide +kernel
theorem dX2_paidTo_7 : decode cX2_paidTo 7 = .ok (.aload_n 0, 1) := by decide +kernel
theorem dX2_paidTo_8 : decode cX2_paidTo 8 = .ok (.getfield 9, 3) := by decide +kernel
theorem dX2_paidTo_11 : decode cX2_paidTo 11 = .ok (.if_icmp .ge 48, 3) := by decide +kernel
theorem dX2_paidTo_14 : decode cX2_paidTo 14 = .ok (.aload_n 1, 1) := by decide +kernel
theorem dX2_paidTo_15 : decode cX2_paidTo 15 = .ok (.getfield 111, 3) := by decide +kernel
theorem dX2_paidTo_18 : decode cX2_paidTo 18 = .ok (.iload 4, 2) := by decide +kernel
theorem dX2_paidTo_20 : decode cX2_paidTo 20 = .ok (.iaload, 1) := by decide +kernel
theorem dX2_paidTo_21 : decode cX2_paidTo 21 = .ok (.iload_n 2, 1) := by decide +kernel
theorem dX2_paidTo_22 : decode cX2_paidTo 22 = .ok (.if_icmp .ne 31, 3) := by decide +kernel
theorem dX2_paidTo_25 : decode cX2_paidTo 25 = .ok (.aload_n 0, 1) := by decide +kernel
theorem dX2_paidTo_26 : decode cX2_paidTo 26 = .ok (.getfield 41, 3) := by decide +kernel
theorem dX2_paidTo_29 : decode cX2_paidTo 29 = .ok (.iload 4, 2) := by decide +kernel
theorem dX2_paidTo_31 : decode cX2_paidTo 31 = .ok (.iaload, 1) := by decide +kernel
theorem dX2_paidTo_32 : decode cX2_paidTo 32 = .ok (.bipush (-9), 2) := by decide +kernel
theorem dX2_paidTo_34 : decode cX2_paidTo 34 = .ok (.if_icmp .eq 19, 3) := by decide +kernel
theorem dX2_paidTo_37 : decode cX2_paidTo 37 = .ok (.iload_n 3, 1) := by decide +kernel
theorem dX2_paidTo_38 : decode cX2_paidTo 38 = .ok (.aload_n 1, 1) := by decide +kernel
theorem dX2_paidTo_39 : decode cX2_paidTo 39 = .ok (.iload 4, 2) := by decide +kernel
theorem dX2_paidTo_41 : decode cX2_paidTo 41 = .ok (.aload_n 0, 1) := by decide +kernel
theorem dX2_paidTo_42 : decode cX2_paidTo 42 = .ok (.getfield 41, 3) := by decide +kernel
theorem dX2_paidTo_45 : decode cX2_paidTo 45 = .ok (.iload 4, 2) := by decide +kernel
theorem dX2_paidTo_47 : decode cX2_paidTo 47 = .ok (.iaload, 1) := by decide +kernel
theorem dX2_paidTo_48 : decode cX2_paidTo 48 = .ok (.invokevirtual 114, 3) := by decide +kernel
theorem dX2_paidTo_51 : decode cX2_paidTo 51 = .ok (.iadd, 1) := by decide +kernel
theorem dX2_paidTo_52 : decode cX2_paidTo 52 = .ok (.istore_n 3, 1) := by decide +kernel
theorem dX2_paidTo_53 : decode cX2_paidTo 53 = .ok (.iinc 4 1, 3) := by decide +kernel
theorem dX2_paidTo_56 : decode cX2_paidTo 56 = .ok (.goto (-51), 3) := by decide +kernel
theorem dX2_paidTo_59 : decode cX2_paidTo 59 = .ok (.iload_n 3, 1) := by decide +kernel
theorem dX2_paidTo_60 : decode cX2_paidTo 60 = .ok (.ireturn, 1) := by decide +kernel
set_option maxRecDepth 20000 in
theorem ggX2_countBest_J7_fill_d0a16 : GoodIn wsX2_countBest wsJ7_fill_d0a16 := goodIn_r _ [6] (by decide +kernel) (by decide +kernel)
set_option maxRecDepth 20000 in
theorem gX2_countBest_J7_fill_d0a16 : GoodIn wsX2_countBest (va_wsS RX2 117 yJ7_fill_d0a16 wsJ7_fill_d0a16) := goodIn_app (goodIn_of _ (by decide +kernel)) ggX2_countBest_J7_fill_d0a16
set_option maxRecDepth 20000 in
theorem ggX2_countBest_X2_passOn : GoodIn wsX2_countBest wsX2_passOn := goodIn_r _ [11, 1, 12, 13, 14, 15, 16, 17, 10, 18, 19, 20, 21, 22, 23, 24, 25, 26, 27, 28, 29, 30, 31] (by decide +kernel) (by decide +kernel)
set_option maxRecDepth 20000 in
theorem gX2_countBest_X2_passOn : GoodIn wsX2_countBest (wsV RX2 120 RX2 yX2_passOn wsX2_passOn) := goodIn_app (goodIn_of _ (by decide +kernel)) ggX2_countBest_X2_passOn
theorem dX2_countBest_0 : decode cX2_countBest 0 = .ok (.aload_n 0, 1) := by decide +kernel
theorem dX2_countBest_1 : decode cX2_countBest 1 = .ok (.getfield 37, 3) := by decide +kernel
theorem dX2_countBest_4 : decode cX2_countBest 4 = .ok (.lconst 0, 1) := by decide +kernel
theorem dX2_countBest_5 : decode cX2_countBest 5 = .ok (.invokestatic 117, 3) := by decide +kernel
theorem dX2_countBest_8 : decode cX2_countBest 8 = .ok (.aload_n 0, 1) := by decide +kernel
theorem dX2_countBest_9 : decode cX2_countBest 9 = .ok (.getfield 37, 3) := by decide +kernel
theorem dX2_countBest_12 : decode cX2_countBest 12 = .ok (.iconst 0, 1) := by decide +kernel
theorem dX2_countBest_13 : decode cX2_countBest 13 = .ok (.lconst 1, 1) := by decide +kernel
theorem dX2_countBest_14 : decode cX2_countBest 14 = .ok (.lastore, 1) := by decide +kernel
theorem dX2_countBest_15 : decode cX2_countBest 15 = .ok (.iconst 0, 1) := by decide +kernel
theorem dX2_countBest_16 : decode cX2_countBest 16 = .ok (.istore_n 1, 1) := by decide +kernel
theorem dX2_countBest_17 : decode cX2_countBest 17 = .ok (.iload_n 1, 1) := by decide +kernel
theorem dX2_countBest_18 : decode cX2_countBest 18 = .ok (.bipush 12, 2) := by decide +kernel
theorem dX2_countBest_20 : decode cX2_countBest 20 = .ok (.if_icmp .ge 41, 3) := by decide +kernel
theorem dX2_countBest_23 : decode cX2_countBest 23 = .ok (.aload_n 0, 1) := by decide +kernel
theorem dX2_countBest_24 : decode cX2_countBest 24 = .ok (.getfield 15, 3) := by decide +kernel
theorem dX2_countBest_27 : decode cX2_countBest 27 = .ok (.istore_n 2, 1) := by decide +kernel
theorem dX2_countBest_28 : decode cX2_countBest 28 = .ok (.iload_n 2, 1) := by decide +kernel
theorem dX2_countBest_29 : decode cX2_countBest 29 = .ok (.ifCond .lt 26, 3) := by decide +kernel
theorem dX2_countBest_32 : decode cX2_countBest 32 = .ok (.aload_n 0, 1) := by decide +kernel
theorem dX2_countBest_33 : decode cX2_countBest 33 = .ok (.getfield 37, 3) := by decide +kernel
theorem dX2_countBest_36 : decode cX2_countBest 36 = .ok (.iload_n 2, 1) := by decide +kernel
theorem dX2_countBest_37 : decode cX2_countBest 37 = .ok (.laload, 1) := by decide +kernel
theorem dX2_countBest_38 : decode cX2_countBest 38 = .ok (.lconst 0, 1) := by decide +kernel
theorem dX2_countBest_39 : decode cX2_countBest 39 = .ok (.lcmp, 1) := by decide +kernel
theorem dX2_countBest_40 : decode cX2_countBest 40 = .ok (.ifCond .eq 9, 3) := by decide +kernel
theorem dX2_countBest_43 : decode cX2_countBest 43 = .ok (.aload_n 0, 1) := by decide +kernel
theorem dX2_countBest_44 : decode cX2_countBest 44 = .ok (.iload_n 1, 1) := by decide +kernel
theorem dX2_countBest_45 : decode cX2_countBest 45 = .ok (.iload_n 2, 1) := by decide +kernel
theorem dX2_countBest_46 : decode cX2_countBest 46 = .ok (.invokevirtual 120, 3) := by decide +kernel
theorem dX2_countBest_49 : decode cX2_countBest 49 = .ok (.iinc 2 (-1), 3) := by decide +kernel
theorem dX2_countBest_52 : decode cX2_countBest 52 = .ok (.goto (-24), 3) := by decide +kernel
theorem dX2_countBest_55 : decode cX2_countBest 55 = .ok (.iinc 1 1, 3) := by decide +kernel
theorem dX2_countBest_58 : decode cX2_countBest 58 = .ok (.goto (-41), 3) := by decide +kernel
theorem dX2_countBest_61 : decode cX2_countBest 61 = .ok (.lconst 0, 1) := by decide +kernel
theorem dX2_countBest_62 : decode cX2_countBest 62 = .ok (.lstore_n 1, 1) := by decide +kernel
theorem dX2_countBest_63 : decode cX2_countBest 63 = .ok (.iconst 0, 1) := by decide +kernel
theorem dX2_countBest_64 : decode cX2_countBest 64 = .ok (.istore_n 3, 1) := by decide +kernel
theorem dX2_countBest_65 : decode cX2_countBest 65 = .ok (.iload_n 3, 1) := by decide +kernel
theorem dX2_countBest_66 : decode cX2_countBest 66 = .ok (.aload_n 0, 1) := by decide +kernel
theorem dX2_countBest_67 : decode cX2_countBest 67 = .ok (.getfield 15, 3) := by decide +kernel
theorem dX2_countBest_70 : decode cX2_countBest 70 = .ok (.if_icmp .gt 18, 3) := by decide +kernel
theorem dX2_countBest_73 : decode cX2_countBest 73 = .ok (.lload_n 1, 1) := by decide +kernel
theorem dX2_countBest_74 : decode cX2_countBest 74 = .ok (.aload_n 0, 1) := by decide +kernel
theorem dX2_countBest_75 : decode cX2_countBest 75 = .ok (.getfield 37, 3) := by decide +kernel
theorem dX2_countBest_78 : decode cX2_countBest 78 = .ok (.iload_n 3, 1) := by decide +kernel
theorem dX2_countBest_79 : decode cX2_countBest 79 = .ok (.laload, 1) := by decide +kernel
theorem dX2_countBest_80 : decode cX2_countBest 80 = .ok (.ladd, 1) := by decide +kernel
theorem dX2_countBest_81 : decode cX2_countBest 81 = .ok (.lstore_n 1, 1) := by decide +kernel
theorem dX2_countBest_82 : decode cX2_countBest 82 = .ok (.iinc 3 1, 3) := by decide +kernel
theorem dX2_countBest_85 : decode cX2_countBest 85 = .ok (.goto (-20), 3) := by decide +kernel
theorem dX2_countBest_88 : decode cX2_countBest 88 = .ok (.lload_n 1, 1) := by decide +kernel
theorem dX2_countBest_89 : decode cX2_countBest 89 = .ok (.lreturn, 1) := by decide +kernel
set_option maxRecDepth 20000 in
theorem ggX2_passOn_X2_lossBy : GoodIn wsX2_passOn wsX2_lossBy := goodIn_r _ [9, 10, 4, 11, 12, 13, 14, 15, 16, 17, 18, 19, 20, 21, 22] (by decide +kernel) (by decide +kernel)
set_option maxRecDepth 20000 in
theorem gX2_passOn_X2_lossBy : GoodIn wsX2_passOn (wsV RX2 88 RX2 yX2_lossBy wsX2_lossBy) := goodIn_app (goodIn_of _ (by decide +kernel)) ggX2_passOn_X2_lossBy
theorem dX2_passOn_0 : decode cX2_passOn 0 = .ok (.aload_n 0, 1) := by decide +kernel
theorem dX2_passOn_1 : decode cX2_passOn 1 = .ok (.getfield 37, 3) := by decide +kernel
theorem dX2_passOn_4 : decode cX2_passOn 4 = .ok (.iload_n 2, 1) := by decide +kernel
theorem dX2_passOn_5 : decode cX2_passOn 5 = .ok (.laload, 1) := by decide +kernel
theorem dX2_passOn_6 : decode cX2_passOn 6 = .ok (.lstore_n 3, 1) := by decide +kernel
theorem dX2_passOn_7 : decode cX2_passOn 7 = .ok (.aload_n 0, 1) := by decide +kernel
theorem dX2_passOn_8 : decode cX2_passOn 8 = .ok (.getfield 26, 3) := by decide +kernel
theorem dX2_passOn_11 : decode cX2_passOn 11 = .ok (.iload_n 1, 1) := by decide +kernel
theorem dX2_passOn_12 : decode cX2_passOn 12 = .ok (.iaload, 1) := by decide +kernel
theorem dX2_passOn_13 : decode cX2_passOn 13 = .ok (.iload_n 2, 1) := by decide +kernel
theorem dX2_passOn_14 : decode cX2_passOn 14 = .ok (.iconst (-1), 1) := by decide +kernel
theorem dX2_passOn_15 : decode cX2_passOn 15 = .ok (.ixor, 1) := by decide +kernel
theorem dX2_passOn_16 : decode cX2_passOn 16 = .ok (.iand, 1) := by decide +kernel
theorem dX2_passOn_17 : decode cX2_passOn 17 = .ok (.istore 5, 2) := by decide +kernel
theorem dX2_passOn_19 : decode cX2_passOn 19 = .ok (.iload 5, 2) := by decide +kernel
theorem dX2_passOn_21 : decode cX2_passOn 21 = .ok (.istore 6, 2) := by decide +kernel
theorem dX2_passOn_23 : decode cX2_passOn 23 = .ok (.iload 6, 2) := by decide +kernel
theorem dX2_passOn_25 : decode cX2_passOn 25 = .ok (.ifCond .le 57, 3) := by decide +kernel
theorem dX2_passOn_28 : decode cX2_passOn 28 = .ok (.aload_n 0, 1) := by decide +kernel
theorem dX2_passOn_29 : decode cX2_passOn 29 = .ok (.getfield 18, 3) := by decide +kernel
theorem dX2_passOn_32 : decode cX2_passOn 32 = .ok (.iload 6, 2) := by decide +kernel
theorem dX2_passOn_34 : decode cX2_passOn 34 = .ok (.baload, 1) := by decide +kernel
theorem dX2_passOn_35 : decode cX2_passOn 35 = .ok (.ifCond .eq 35, 3) := by decide +kernel
theorem dX2_passOn_38 : decode cX2_passOn 38 = .ok (.aload_n 0, 1) := by decide +kernel
theorem dX2_passOn_39 : decode cX2_passOn 39 = .ok (.iload_n 1, 1) := by decide +kernel
theorem dX2_passOn_40 : decode cX2_passOn 40 = .ok (.iload_n 2, 1) := by decide +kernel
theorem dX2_passOn_41 : decode cX2_passOn 41 = .ok (.iload 6, 2) := by decide +kernel
theorem dX2_passOn_43 : decode cX2_passOn 43 = .ok (.invokevirtual 88, 3) := by decide +kernel
theorem dX2_passOn_46 : decode cX2_passOn 46 = .ok (.aload_n 0, 1) := by decide +kernel
theorem dX2_passOn_47 : decode cX2_passOn 47 = .ok (.getfield 31, 3) := by decide +kernel
theorem dX2_passOn_50 : decode cX2_passOn 50 = .ok (.iload_n 1, 1) := by decide +kernel
theorem dX2_passOn_51 : decode cX2_passOn 51 = .ok (.aaload, 1) := by decide +kernel
theorem dX2_passOn_52 : decode cX2_passOn 52 = .ok (.iload_n 2, 1) := by decide +kernel
theorem dX2_passOn_53 : decode cX2_passOn 53 = .ok (.iaload, 1) := by decide +kernel
theorem dX2_passOn_54 : decode cX2_passOn 54 = .ok (.if_icmp .ne 16, 3) := by decide +kernel
theorem dX2_passOn_57 : decode cX2_passOn 57 = .ok (.aload_n 0, 1) := by decide +kernel
theorem dX2_passOn_58 : decode cX2_passOn 58 = .ok (.getfield 37, 3) := by decide +kernel
theorem dX2_passOn_61 : decode cX2_passOn 61 = .ok (.iload_n 2, 1) := by decide +kernel
theorem dX2_passOn_62 : decode cX2_passOn 62 = .ok (.iload 6, 2) := by decide +kernel
theorem dX2_passOn_64 : decode cX2_passOn 64 = .ok (.ior, 1) := by decide +kernel
theorem dX2_passOn_65 : decode cX2_passOn 65 = .ok (.dup2, 1) := by decide +kernel
theorem dX2_passOn_66 : decode cX2_passOn 66 = .ok (.laload, 1) := by decide +kernel
theorem dX2_passOn_67 : decode cX2_passOn 67 = .ok (.lload_n 3, 1) := by decide +kernel
theorem dX2_passOn_68 : decode cX2_passOn 68 = .ok (.ladd, 1) := by decide +kernel
theorem dX2_passOn_69 : decode cX2_passOn 69 = .ok (.lastore, 1) := by decide +kernel
theorem dX2_passOn_70 : decode cX2_passOn 70 = .ok (.iload 6, 2) := by decide +kernel
theorem dX2_passOn_72 : decode cX2_passOn 72 = .ok (.iconst 1, 1) := by decide +kernel
theorem dX2_passOn_73 : decode cX2_passOn 73 = .ok (.isub, 1) := by decide +kernel
theorem dX2_passOn_74 : decode cX2_passOn 74 = .ok (.iload 5, 2) := by decide +kernel
theorem dX2_passOn_76 : decode cX2_passOn 76 = .ok (.iand, 1) := by decide +kernel
theorem dX2_passOn_77 : decode cX2_passOn 77 = .ok (.istore 6, 2) := by decide +kernel
theorem dX2_passOn_79 : decode cX2_passOn 79 = .ok (.goto (-56), 3) := by decide +kernel
theorem dX2_passOn_82 : decode cX2_passOn 82 = .ok (.aload_n 0, 1) := by decide +kernel
theorem dX2_passOn_83 : decode cX2_passOn 83 = .ok (.getfield 31, 3) := by decide +kernel
theorem dX2_passOn_86 : decode cX2_passOn 86 = .ok (.iload_n 1, 1) := by decide +kernel
theorem dX2_passOn_87 : decode cX2_passOn 87 = .ok (.iconst 1, 1) := by decide +kernel
theorem dX2_passOn_88 : decode cX2_passOn 88 = .ok (.iadd, 1) := by decide +kernel
theorem dX2_passOn_89 : decode cX2_passOn 89 = .ok (.aaload, 1) := by decide +kernel
theorem dX2_passOn_90 : decode cX2_passOn 90 = .ok (.iload_n 2, 1) := by decide +kernel
theorem dX2_passOn_91 : decode cX2_passOn 91 = .ok (.iaload, 1) := by decide +kernel
theorem dX2_passOn_92 : decode cX2_passOn 92 = .ok (.aload_n 0, 1) := by decide +kernel
theorem dX2_passOn_93 : decode cX2_passOn 93 = .ok (.getfield 31, 3) := by decide +kernel
theorem dX2_passOn_96 : decode cX2_passOn 96 = .ok (.iload_n 1, 1) := by decide +kernel
theorem dX2_passOn_97 : decode cX2_passOn 97 = .ok (.aaload, 1) := by decide +kernel
theorem dX2_passOn_98 : decode cX2_passOn 98 = .ok (.iload_n 2, 1) := by decide +kernel
theorem dX2_passOn_99 : decode cX2_passOn 99 = .ok (.iaload, 1) := by decide +kernel
theorem dX2_passOn_100 : decode cX2_passOn 100 = .ok (.if_icmp .eq 10, 3) := by decide +kernel
theorem dX2_passOn_103 : decode cX2_passOn 103 = .ok (.aload_n 0, 1) := by decide +kernel
theorem dX2_passOn_104 : decode cX2_passOn 104 = .ok (.getfield 37, 3) := by decide +kernel
theorem dX2_passOn_107 : decode cX2_passOn 107 = .ok (.iload_n 2, 1) := by decide +kernel
theorem dX2_passOn_108 : decode cX2_passOn 108 = .ok (.lconst 0, 1) := by decide +kernel
theorem dX2_passOn_109 : decode cX2_passOn 109 = .ok (.lastore, 1) := by decide +kernel
theorem dX2_passOn_110 : decode cX2_passOn 110 = .ok (.return_, 1) := by decide +kernel
set_option maxRecDepth 20000 in
theorem ggX2_startBefore_J7_fill_53178 : GoodIn wsX2_startBefore wsJ7_fill_53178 := goodIn_r _ [6] (by decide +kernel) (by decide +kernel)
set_option maxRecDepth 20000 in
theorem gX2_startBefore_J7_fill_53178 : GoodIn wsX2_startBefore (va_wsS RX2 95 yJ7_fill_53178 wsJ7_fill_53178) := goodIn_app (goodIn_of _ (by decide +kernel)) ggX2_startBefore_J7_fill_53178
theorem dX2_startBefore_0 : decode cX2_startBefore 0 = .ok (.aload_n 0, 1) := by decide +kernel
theorem dX2_startBefore_1 : decode cX2_startBefore 1 = .ok (.getfield 34, 3) := by decide +kernel
theorem dX2_startBefore_4 : decode cX2_startBefore 4 = .ok (.ldc 124, 2) := by decide +kernel
theorem dX2_startBefore_6 : decode cX2_startBefore 6 = .ok (.invokestatic 95, 3) := by decide +kernel
theorem dX2_startBefore_9 : decode cX2_startBefore 9 = .ok (.aload_n 0, 1) := by decide +kernel
theorem dX2_startBefore_10 : decode cX2_startBefore 10 = .ok (.getfield 34, 3) := by decide +kernel
theorem dX2_startBefore_13 : decode cX2_startBefore 13 = .ok (.iconst 0, 1) := by decide +kernel
theorem dX2_startBefore_14 : decode cX2_startBefore 14 = .ok (.iconst 0, 1) := by decide +kernel
theorem dX2_startBefore_15 : decode cX2_startBefore 15 = .ok (.iastore, 1) := by decide +kernel
theorem dX2_startBefore_16 : decode cX2_startBefore 16 = .ok (.return_, 1) := by decide +kernel
theorem dX2_passHour_0 : decode cX2_passHour 0 = .ok (.aload_n 0, 1) := by decide +kernel
theorem dX2_passHour_1 : decode cX2_passHour 1 = .ok (.getfield 15, 3) := by decide +kernel
theorem dX2_passHour_4 : decode cX2_passHour 4 = .ok (.istore_n 2, 1) := by decide +kernel
theorem dX2_passHour_5 : decode cX2_passHour 5 = .ok (.iload_n 2, 1) := by decide +kernel
theorem dX2_passHour_6 : decode cX2_passHour 6 = .ok (.ifCond .lt 91, 3) := by decide +kernel
theorem dX2_passHour_9 : decode cX2_passHour 9 = .ok (.aload_n 0, 1) := by decide +kernel
theorem dX2_passHour_10 : decode cX2_passHour 10 = .ok (.getfield 26, 3) := by decide +kernel
theorem dX2_passHour_13 : decode cX2_passHour 13 = .ok (.iload_n 1, 1) := by decide +kernel
theorem dX2_passHour_14 : decode cX2_passHour 14 = .ok (.iaload, 1) := by decide +kernel
theorem dX2_passHour_15 : decode cX2_passHour 15 = .ok (.iload_n 2, 1) := by decide +kernel
theorem dX2_passHour_16 : decode cX2_passHour 16 = .ok (.iand, 1) := by decide +kernel
theorem dX2_passHour_17 : decode cX2_passHour 17 = .ok (.istore_n 3, 1) := by decide +kernel
theorem dX2_passHour_18 : decode cX2_passHour 18 = .ok (.aload_n 0, 1) := by decide +kernel
theorem dX2_passHour_19 : decode cX2_passHour 19 = .ok (.getfield 34, 3) := by decide +kernel
theorem dX2_passHour_22 : decode cX2_passHour 22 = .ok (.iload_n 2, 1) := by decide +kernel
theorem dX2_passHour_23 : decode cX2_passHour 23 = .ok (.iaload, 1) := by decide +kernel
theorem dX2_passHour_24 : decode cX2_passHour 24 = .ok (.istore 4, 2) := by decide +kernel
theorem dX2_passHour_26 : decode cX2_passHour 26 = .ok (.iload_n 3, 1) := by decide +kernel
theorem dX2_passHour_27 : decode cX2_passHour 27 = .ok (.istore 5, 2) := by decide +kernel
theorem dX2_passHour_29 : decode cX2_passHour 29 = .ok (.iload 5, 2) := by decide +kernel
theorem dX2_passHour_31 : decode cX2_passHour 31 = .ok (.ifCond .le 52, 3) := by decide +kernel
theorem dX2_passHour_34 : decode cX2_passHour 34 = .ok (.aload_n 0, 1) := by decide +kernel
theorem dX2_passHour_35 : decode cX2_passHour 35 = .ok (.getfield 18, 3) := by decide +kernel
theorem dX2_passHour_38 : decode cX2_passHour 38 = .ok (.iload 5, 2) := by decide +kernel
theorem dX2_passHour_40 : decode cX2_passHour 40 = .ok (.baload, 1) := by decide +kernel
theorem dX2_passHour_41 : decode cX2_passHour 41 = .ok (.ifCond .eq 31, 3) := by decide +kernel
theorem dX2_passHour_44 : decode cX2_passHour 44 = .ok (.iload 4, 2) := by decide +kernel
theorem dX2_passHour_46 : decode cX2_passHour 46 = .ok (.aload_n 0, 1) := by decide +kernel
theorem dX2_passHour_47 : decode cX2_passHour 47 = .ok (.getfield 34, 3) := by decide +kernel
theorem dX2_passHour_50 : decode cX2_passHour 50 = .ok (.iload_n 2, 1) := by decide +kernel
theorem dX2_passHour_51 : decode cX2_passHour 51 = .ok (.iload 5, 2) := by decide +kernel
theorem dX2_passHour_53 : decode cX2_passHour 53 = .ok (.iconst (-1), 1) := by decide +kernel
theorem dX2_passHour_54 : decode cX2_passHour 54 = .ok (.ixor, 1) := by decide +kernel
theorem dX2_passHour_55 : decode cX2_passHour 55 = .ok (.iand, 1) := by decide +kernel
theorem dX2_passHour_56 : decode cX2_passHour 56 = .ok (.iaload, 1) := by decide +kernel
theorem dX2_passHour_57 : decode cX2_passHour 57 = .ok (.iload_n 1, 1) := by decide +kernel
theorem dX2_passHour_58 : decode cX2_passHour 58 = .ok (.aload_n 0, 1) := by decide +kernel
theorem dX2_passHour_59 : decode cX2_passHour 59 = .ok (.getfield 22, 3) := by decide +kernel
theorem dX2_passHour_62 : decode cX2_passHour 62 = .ok (.iload 5, 2) := by decide +kernel
theorem dX2_passHour_64 : decode cX2_passHour 64 = .ok (.iaload, 1) := by decide +kernel
theorem dX2_passHour_65 : decode cX2_passHour 65 = .ok (.imul, 1) := by decide +kernel
theorem dX2_passHour_66 : decode cX2_passHour 66 = .ok (.iadd, 1) := by decide +kernel
theorem dX2_passHour_67 : decode cX2_passHour 67 = .ok (.invokestatic 92, 3) := by decide +kernel
theorem dX2_passHour_70 : decode cX2_passHour 70 = .ok (.istore 4, 2) := by decide +kernel
theorem dX2_passHour_72 : decode cX2_passHour 72 = .ok (.iload 5, 2) := by decide +kernel
theorem dX2_passHour_74 : decode cX2_passHour 74 = .ok (.iconst 1, 1) := by decide +kernel
theorem dX2_passHour_75 : decode cX2_passHour 75 = .ok (.isub, 1) := by decide +kernel
theorem dX2_passHour_76 : decode cX2_passHour 76 = .ok (.iload_n 3, 1) := by decide +kernel
theorem dX2_passHour_77 : decode cX2_passHour 77 = .ok (.iand, 1) := by decide +kernel
theorem dX2_passHour_78 : decode cX2_passHour 78 = .ok (.istore 5, 2) := by decide +kernel
theorem dX2_passHour_80 : decode cX2_passHour 80 = .ok (.goto (-51), 3) := by decide +kernel
theorem dX2_passHour_83 : decode cX2_passHour 83 = .ok (.aload_n 0, 1) := by decide +kernel
theorem dX2_passHour_84 : decode cX2_passHour 84 = .ok (.getfield 34, 3) := by decide +kernel
theorem dX2_passHour_87 : decode cX2_passHour 87 = .ok (.iload_n 2, 1) := by decide +kernel
theorem dX2_passHour_88 : decode cX2_passHour 88 = .ok (.iload 4, 2) := by decide +kernel
theorem dX2_passHour_90 : decode cX2_passHour 90 = .ok (.iastore, 1) := by decide +kernel
theorem dX2_passHour_91 : decode cX2_passHour 91 = .ok (.iinc 2 (-1), 3) := by decide +kernel
theorem dX2_passHour_94 : decode cX2_passHour 94 = .ok (.goto (-89), 3) := by decide +kernel
theorem dX2_passHour_97 : decode cX2_passHour 97 = .ok (.return_, 1) := by decide +kernel
theorem dX2_lossBefore_0 : decode cX2_lossBefore 0 = .ok (.ldc 124, 2) := by decide +kernel
theorem dX2_lossBefore_2 : decode cX2_lossBefore 2 = .ok (.istore_n 1, 1) := by decide +kernel
theorem dX2_lossBefore_3 : decode cX2_lossBefore 3 = .ok (.iconst 0, 1) := by decide +kernel
theorem dX2_lossBefore_4 : decode cX2_lossBefore 4 = .ok (.istore_n 2, 1) := by decide +kernel
theorem dX2_lossBefore_5 : decode cX2_lossBefore 5 = .ok (.iload_n 2, 1) := by decide +kernel
theorem dX2_lossBefore_6 : decode cX2_lossBefore 6 = .ok (.aload_n 0, 1) := by decide +kernel
theorem dX2_lossBefore_7 : decode cX2_lossBefore 7 = .ok (.getfield 15, 3) := by decide +kernel
theorem dX2_lossBefore_10 : decode cX2_lossBefore 10 = .ok (.if_icmp .gt 30, 3) := by decide +kernel
theorem dX2_lossBefore_13 : decode cX2_lossBefore 13 = .ok (.iload_n 1, 1) := by decide +kernel
theorem dX2_lossBefore_14 : decode cX2_lossBefore 14 = .ok (.aload_n 0, 1) := by decide +kernel
theorem dX2_lossBefore_15 : decode cX2_lossBefore 15 = .ok (.getfield 34, 3) := by decide +kernel
theorem dX2_lossBefore_18 : decode cX2_lossBefore 18 = .ok (.iload_n 2, 1) := by decide +kernel
theorem dX2_lossBefore_19 : decode cX2_lossBefore 19 = .ok (.iaload, 1) := by decide +kernel
theorem dX2_lossBefore_20 : decode cX2_lossBefore 20 = .ok (.aload_n 0, 1) := by decide +kernel
theorem dX2_lossBefore_21 : decode cX2_lossBefore 21 = .ok (.getfield 31, 3) := by decide +kernel
theorem dX2_lossBefore_24 : decode cX2_lossBefore 24 = .ok (.bipush 12, 2) := by decide +kernel
theorem dX2_lossBefore_26 : decode cX2_lossBefore 26 = .ok (.aaload, 1) := by decide +kernel
theorem dX2_lossBefore_27 : decode cX2_lossBefore 27 = .ok (.iload_n 2, 1) := by decide +kernel
theorem dX2_lossBefore_28 : decode cX2_lossBefore 28 = .ok (.iaload, 1) := by decide +kernel
theorem dX2_lossBefore_29 : decode cX2_lossBefore 29 = .ok (.iadd, 1) := by decide +kernel
theorem dX2_lossBefore_30 : decode cX2_lossBefore 30 = .ok (.invokestatic 92, 3) := by decide +kernel
theorem dX2_lossBefore_33 : decode cX2_lossBefore 33 = .ok (.istore_n 1, 1) := by decide +kernel
theorem dX2_lossBefore_34 : decode cX2_lossBefore 34 = .ok (.iinc 2 1, 3) := by decide +kernel
theorem dX2_lossBefore_37 : decode cX2_lossBefore 37 = .ok (.goto (-32), 3) := by decide +kernel
theorem dX2_lossBefore_40 : decode cX2_lossBefore 40 = .ok (.iload_n 1, 1) := by decide +kernel
theorem dX2_lossBefore_41 : decode cX2_lossBefore 41 = .ok (.ireturn, 1) := by decide +kernel
set_option maxRecDepth 20000 in
theorem ggX2_leastEnd_X2_startBefore : GoodIn wsX2_leastEnd wsX2_startBefore := goodIn_r _ [5, 6, 7, 8, 9, 10, 11, 38, 39, 40, 41, 42, 43, 44, 45, 46, 47, 48, 49] (by decide +kernel) (by decide +kernel)
set_option maxRecDepth 20000 in
theorem gX2_leastEnd_X2_startBefore : GoodIn wsX2_leastEnd (wsV RX2 125 RX2 yX2_startBefore wsX2_startBefore) := goodIn_app (goodIn_of _ (by decide +kernel)) ggX2_leastEnd_X2_startBefore
set_option maxRecDepth 20000 in
theorem ggX2_leastEnd_X2_lossBefore : GoodIn wsX2_leastEnd wsX2_lossBefore := goodIn_r _ [15, 7, 16, 6, 17, 18, 19, 20, 21, 38, 39, 40, 41, 42, 43, 44, 45, 46, 47, 48, 49] (by decide +kernel) (by decide +kernel)
set_option maxRecDepth 20000 in
theorem gX2_leastEnd_X2_lossBefore : GoodIn wsX2_leastEnd (wsV RX2 128 RX2 yX2_lossBefore wsX2_lossBefore) := goodIn_app (goodIn_of _ (by decide +kernel)) ggX2_leastEnd_X2_lossBefore
set_option maxRecDepth 20000 in
theorem ggX2_leastEnd_X2_paidOf : GoodIn wsX2_leastEnd wsX2_paidOf := goodIn_r _ [25, 26, 38, 39, 40, 41, 42, 43, 44, 45, 46, 47, 48, 49] (by decide +kernel) (by decide +kernel)
set_option maxRecDepth 20000 in
theorem gX2_leastEnd_X2_paidOf : GoodIn wsX2_leastEnd (wsV RX2 132 RX2 yX2_paidOf wsX2_paidOf) := goodIn_app (goodIn_of _ (by decide +kernel)) ggX2_leastEnd_X2_paidOf
set_option maxRecDepth 20000 in
theorem ggX2_leastEnd_X2_leastLoss : GoodIn wsX2_leastEnd wsX2_leastLoss := goodIn_r _ [30, 17, 38, 39, 40, 41, 42, 43, 44, 45, 46, 47, 48, 49] (by decide +kernel) (by decide +kernel)
set_option maxRecDepth 20000 in
theorem gX2_leastEnd_X2_leastLoss : GoodIn wsX2_leastEnd (wsV RX2 135 RX2 yX2_leastLoss wsX2_leastLoss) := goodIn_app (goodIn_of _ (by decide +kernel)) ggX2_leastEnd_X2_leastLoss
set_option maxRecDepth 20000 in
theorem ggX2_leastEnd_X2_passHour : GoodIn wsX2_leastEnd wsX2_passHour := goodIn_r _ [34, 16, 35, 6, 36, 37, 18, 19, 20, 21, 38, 39, 40, 41, 42, 43, 44, 45, 46, 47, 48, 49] (by decide +kernel) (by decide +kernel)
set_option maxRecDepth 20000 in
theorem gX2_leastEnd_X2_passHour : GoodIn wsX2_leastEnd (wsV RX2 138 RX2 yX2_passHour wsX2_passHour) := goodIn_app (goodIn_of _ (by decide +kernel)) ggX2_leastEnd_X2_passHour
theorem dX2_leastEnd_0 : decode cX2_leastEnd 0 = .ok (.aload_n 0, 1) := by decide +kernel
theorem dX2_leastEnd_1 : decode cX2_leastEnd 1 = .ok (.invokevirtual 125, 3) := by decide +kernel
theorem dX2_leastEnd_4 : decode cX2_leastEnd 4 = .ok (.iconst 0, 1) := by decide +kernel
theorem dX2_leastEnd_5 : decode cX2_leastEnd 5 = .ok (.istore_n 1, 1) := by decide +kernel
theorem dX2_leastEnd_6 : decode cX2_leastEnd 6 = .ok (.iload_n 1, 1) := by decide +kernel
theorem dX2_leastEnd_7 : decode cX2_leastEnd 7 = .ok (.bipush 12, 2) := by decide +kernel
theorem dX2_leastEnd_9 : decode cX2_leastEnd 9 = .ok (.if_icmp .ge 33, 3) := by decide +kernel
theorem dX2_leastEnd_12 : decode cX2_leastEnd 12 = .ok (.aload_n 0, 1) := by decide +kernel
theorem dX2_leastEnd_13 : decode cX2_leastEnd 13 = .ok (.aload_n 0, 1) := by decide +kernel
theorem dX2_leastEnd_14 : decode cX2_leastEnd 14 = .ok (.invokevirtual 128, 3) := by decide +kernel
theorem dX2_leastEnd_17 : decode cX2_leastEnd 17 = .ok (.invokevirtual 132, 3) := by decide +kernel
theorem dX2_leastEnd_20 : decode cX2_leastEnd 20 = .ok (.aload_n 0, 1) := by decide +kernel
theorem dX2_leastEnd_21 : decode cX2_leastEnd 21 = .ok (.aload_n 0, 1) := by decide +kernel
theorem dX2_leastEnd_22 : decode cX2_leastEnd 22 = .ok (.invokevirtual 135, 3) := by decide +kernel
theorem dX2_leastEnd_25 : decode cX2_leastEnd 25 = .ok (.invokevirtual 132, 3) := by decide +kernel
theorem dX2_leastEnd_28 : decode cX2_leastEnd 28 = .ok (.if_icmp .ge 14, 3) := by decide +kernel
theorem dX2_leastEnd_31 : decode cX2_leastEnd 31 = .ok (.aload_n 0, 1) := by decide +kernel
theorem dX2_leastEnd_32 : decode cX2_leastEnd 32 = .ok (.iload_n 1, 1) := by decide +kernel
theorem dX2_leastEnd_33 : decode cX2_leastEnd 33 = .ok (.invokevirtual 138, 3) := by decide +kernel
theorem dX2_leastEnd_36 : decode cX2_leastEnd 36 = .ok (.iinc 1 1, 3) := by decide +kernel
theorem dX2_leastEnd_39 : decode cX2_leastEnd 39 = .ok (.goto (-33), 3) := by decide +kernel
theorem dX2_leastEnd_42 : decode cX2_leastEnd 42 = .ok (.iload_n 1, 1) := by decide +kernel
theorem dX2_leastEnd_43 : decode cX2_leastEnd 43 = .ok (.ireturn, 1) := by decide +kernel
set_option maxRecDepth 20000 in
theorem ggX2_findCall_X2_startBefore : GoodIn wsX2_findCall wsX2_startBefore := goodIn_r _ [8, 9, 10, 11, 12, 13, 14, 86, 87, 88, 89, 90, 91, 92, 93, 94, 95, 96, 97] (by decide +kernel) (by decide +kernel)
set_option maxRecDepth 20000 in
theorem gX2_findCall_X2_startBefore : GoodIn wsX2_findCall (wsV RX2 125 RX2 yX2_startBefore wsX2_startBefore) := goodIn_app (goodIn_of _ (by decide +kernel)) ggX2_findCall_X2_startBefore
set_option maxRecDepth 20000 in
theorem ggX2_findCall_X3_peopleOut : GoodIn wsX2_findCall wsX3_peopleOut := goodIn_r _ [19, 20, 21, 98, 99, 100, 101, 102, 103, 104, 105, 106, 107, 108] (by decide +kernel) (by decide +kernel)
set_option maxRecDepth 20000 in
theorem gX2_findCall_X3_peopleOut : GoodIn wsX2_findCall (wsV RX2 75 RX3 yX3_peopleOut wsX3_peopleOut) := goodIn_app (goodIn_of _ (by decide +kernel)) ggX2_findCall_X3_peopleOut
set_option maxRecDepth 20000 in
theorem ggX2_findCall_X3_payableDebts : GoodIn wsX2_findCall wsX3_payableDebts := goodIn_r _ [25, 26, 27, 28, 29, 18, 30, 31, 32, 33, 34, 35, 36, 37, 38, 39, 40, 41, 42, 43, 44, 45, 46, 47, 48, 49, 50, 98, 99, 100, 101, 102, 103, 104, 105, 106, 107, 108] (by decide +kernel) (by decide +kernel)
set_option maxRecDepth 20000 in
theorem gX2_findCall_X3_payableDebts : GoodIn wsX2_findCall (wsV RX2 78 RX3 yX3_payableDebts wsX3_payableDebts) := goodIn_app (goodIn_of _ (by decide +kernel)) ggX2_findCall_X3_payableDebts
set_option maxRecDepth 20000 in
theorem ggX2_findCall_X2_lossWith : GoodIn wsX2_findCall wsX2_lossWith := goodIn_r _ [54, 55, 10, 56, 9, 57, 58, 59, 60, 61, 62, 63, 7, 64, 65, 66, 67, 68, 69, 70, 71, 72, 73, 74, 75, 86, 87, 88, 89, 90, 91, 92, 93, 94, 95, 96, 97] (by decide +kernel) (by decide +kernel)
set_option maxRecDepth 20000 in
theorem gX2_findCall_X2_lossWith : GoodIn wsX2_findCall (wsV RX2 144 RX2 yX2_lossWith wsX2_lossWith) := goodIn_app (goodIn_of _ (by decide +kernel)) ggX2_findCall_X2_lossWith
set_option maxRecDepth 20000 in
theorem ggX2_findCall_X2_weighCall : GoodIn wsX2_findCall wsX2_weighCall := goodIn_r _ [79, 1, 80, 81, 86, 87, 88, 89, 90, 91, 92, 93, 94, 95, 96, 97] (by decide +kernel) (by decide +kernel)
set_option maxRecDepth 20000 in
theorem gX2_findCall_X2_weighCall : GoodIn wsX2_findCall (wsV RX2 150 RX2 yX2_weighCall wsX2_weighCall) := goodIn_app (goodIn_of _ (by decide +kernel)) ggX2_findCall_X2_weighCall
set_option maxRecDepth 20000 in
theorem ggX2_findCall_X2_passHour : GoodIn wsX2_findCall wsX2_passHour := goodIn_r _ [85, 56, 55, 9, 70, 75, 57, 58, 59, 60, 86, 87, 88, 89, 90, 91, 92, 93, 94, 95, 96, 97] (by decide +kernel) (by decide +kernel)
set_option maxRecDepth 20000 in
theorem gX2_findCall_X2_passHour : GoodIn wsX2_findCall (wsV RX2 138 RX2 yX2_passHour wsX2_passHour) := goodIn_app (goodIn_of _ (by decide +kernel)) ggX2_findCall_X2_passHour
theorem dX2_findCall_0 : decode cX2_findCall 0 = .ok (.aload_n 0, 1) := by decide +kernel
theorem dX2_findCall_1 : decode cX2_findCall 1 = .ok (.bipush (-9), 2) := by decide +kernel
theorem dX2_findCall_3 : decode cX2_findCall 3 = .ok (.putfield 47, 3) := by decide +kernel
theorem dX2_findCall_6 : decode cX2_findCall 6 = .ok (.aload_n 0, 1) := by decide +kernel
theorem dX2_findCall_7 : decode cX2_findCall 7 = .ok (.invokevirtual 125, 3) := by decide +kernel
theorem dX2_findCall_10 : decode cX2_findCall 10 = .ok (.iconst 0, 1) := by decide +kernel
theorem dX2_findCall_11 : decode cX2_findCall 11 = .ok (.istore_n 2, 1) := by decide +kernel
theorem dX2_findCall_12 : decode cX2_findCall 12 = .ok (.iload_n 2, 1) := by decide +kernel
theorem dX2_findCall_13 : decode cX2_findCall 13 = .ok (.bipush 12, 2) := by decide +kernel
theorem dX2_findCall_15 : decode cX2_findCall 15 = .ok (.if_icmp .ge 82, 3) := by decide +kernel
theorem dX2_findCall_18 : decode cX2_findCall 18 = .ok (.aload_n 1, 1) := by decide +kernel
theorem dX2_findCall_19 : decode cX2_findCall 19 = .ok (.iload_n 2, 1) := by decide +kernel
theorem dX2_findCall_20 : decode cX2_findCall 20 = .ok (.invokevirtual 75, 3) := by decide +kernel
theorem dX2_findCall_23 : decode cX2_findCall 23 = .ok (.istore_n 3, 1) := by decide +kernel
theorem dX2_findCall_24 : decode cX2_findCall 24 = .ok (.iconst 0, 1) := by decide +kernel
theorem dX2_findCall_25 : decode cX2_findCall 25 = .ok (.istore 4, 2) := by decide +kernel
theorem dX2_findCall_27 : decode cX2_findCall 27 = .ok (.iload 4, 2) := by decide +kernel
theorem dX2_findCall_29 : decode cX2_findCall 29 = .ok (.aload_n 1, 1) := by decide +kernel
theorem dX2_findCall_30 : decode cX2_findCall 30 = .ok (.getfield 141, 3) := by decide +kernel
theorem dX2_findCall_33 : decode cX2_findCall 33 = .ok (.if_icmp .ge 53, 3) := by decide +kernel
theorem dX2_findCall_36 : decode cX2_findCall 36 = .ok (.iload_n 3, 1) := by decide +kernel
theorem dX2_findCall_37 : decode cX2_findCall 37 = .ok (.iload 4, 2) := by decide +kernel
theorem dX2_findCall_39 : decode cX2_findCall 39 = .ok (.ishr, 1) := by decide +kernel
theorem dX2_findCall_40 : decode cX2_findCall 40 = .ok (.iconst 1, 1) := by decide +kernel
theorem dX2_findCall_41 : decode cX2_findCall 41 = .ok (.iand, 1) := by decide +kernel
theorem dX2_findCall_42 : decode cX2_findCall 42 = .ok (.ifCond .ne 38, 3) := by decide +kernel
theorem dX2_findCall_45 : decode cX2_findCall 45 = .ok (.aload_n 0, 1) := by decide +kernel
theorem dX2_findCall_46 : decode cX2_findCall 46 = .ok (.iload_n 2, 1) := by decide +kernel
theorem dX2_findCall_47 : decode cX2_findCall 47 = .ok (.aload_n 1, 1) := by decide +kernel
theorem dX2_findCall_48 : decode cX2_findCall 48 = .ok (.iload_n 2, 1) := by decide +kernel
theorem dX2_findCall_49 : decode cX2_findCall 49 = .ok (.iload_n 3, 1) := by decide +kernel
theorem dX2_findCall_50 : decode cX2_findCall 50 = .ok (.iconst 1, 1) := by decide +kernel
theorem dX2_findCall_51 : decode cX2_findCall 51 = .ok (.iload 4, 2) := by decide +kernel
theorem dX2_findCall_53 : decode cX2_findCall 53 = .ok (.ishl, 1) := by decide +kernel
theorem dX2_findCall_54 : decode cX2_findCall 54 = .ok (.ior, 1) := by decide +kernel
theorem dX2_findCall_55 : decode cX2_findCall 55 = .ok (.invokevirtual 78, 3) := by decide +kernel
theorem dX2_findCall_58 : decode cX2_findCall 58 = .ok (.invokevirtual 144, 3) := by decide +kernel
theorem dX2_findCall_61 : decode cX2_findCall 61 = .ok (.aload_n 1, 1) := by decide +kernel
theorem dX2_findCall_62 : decode cX2_findCall 62 = .ok (.getfield 147, 3) := by decide +kernel
theorem dX2_findCall_65 : decode cX2_findCall 65 = .ok (.iload 4, 2) := by decide +kernel
theorem dX2_findCall_67 : decode cX2_findCall 67 = .ok (.iaload, 1) := by decide +kernel
theorem dX2_findCall_68 : decode cX2_findCall 68 = .ok (.iadd, 1) := by decide +kernel
theorem dX2_findCall_69 : decode cX2_findCall 69 = .ok (.istore 5, 2) := by decide +kernel
theorem dX2_findCall_71 : decode cX2_findCall 71 = .ok (.aload_n 0, 1) := by decide +kernel
theorem dX2_findCall_72 : decode cX2_findCall 72 = .ok (.iload 4, 2) := by decide +kernel
theorem dX2_findCall_74 : decode cX2_findCall 74 = .ok (.iload_n 2, 1) := by decide +kernel
theorem dX2_findCall_75 : decode cX2_findCall 75 = .ok (.iload 5, 2) := by decide +kernel
theorem dX2_findCall_77 : decode cX2_findCall 77 = .ok (.invokevirtual 150, 3) := by decide +kernel
theorem dX2_findCall_80 : decode cX2_findCall 80 = .ok (.iinc 4 1, 3) := by decide +kernel
theorem dX2_findCall_83 : decode cX2_findCall 83 = .ok (.goto (-56), 3) := by decide +kernel
theorem dX2_findCall_86 : decode cX2_findCall 86 = .ok (.aload_n 0, 1) := by decide +kernel
theorem dX2_findCall_87 : decode cX2_findCall 87 = .ok (.iload_n 2, 1) := by decide +kernel
theorem dX2_findCall_88 : decode cX2_findCall 88 = .ok (.invokevirtual 138, 3) := by decide +kernel
theorem dX2_findCall_91 : decode cX2_findCall 91 = .ok (.iinc 2 1, 3) := by decide +kernel
theorem dX2_findCall_94 : decode cX2_findCall 94 = .ok (.goto (-82), 3) := by decide +kernel
theorem dX2_findCall_97 : decode cX2_findCall 97 = .ok (.aload_n 0, 1) := by decide +kernel
theorem dX2_findCall_98 : decode cX2_findCall 98 = .ok (.getfield 47, 3) := by decide +kernel
theorem dX2_findCall_101 : decode cX2_findCall 101 = .ok (.bipush (-9), 2) := by decide +kernel
theorem dX2_findCall_103 : decode cX2_findCall 103 = .ok (.if_icmp .eq 7, 3) := by decide +kernel
theorem dX2_findCall_106 : decode cX2_findCall 106 = .ok (.iconst 1, 1) := by decide +kernel
theorem dX2_findCall_107 : decode cX2_findCall 107 = .ok (.goto 4, 3) := by decide +kernel
theorem dX2_findCall_110 : decode cX2_findCall 110 = .ok (.iconst 0, 1) := by decide +kernel
theorem dX2_findCall_111 : decode cX2_findCall 111 = .ok (.ireturn, 1) := by decide +kernel
theorem dX2_weighCall_0 : decode cX2_weighCall 0 = .ok (.aload_n 0, 1) := by decide +kernel
theorem dX2_weighCall_1 : decode cX2_weighCall 1 = .ok (.getfield 47, 3) := by decide +kernel
theorem dX2_weighCall_4 : decode cX2_weighCall 4 = .ok (.bipush (-9), 2) := by decide +kernel
theorem dX2_weighCall_6 : decode cX2_weighCall 6 = .ok (.if_icmp .eq 27, 3) := by decide +kernel
theorem dX2_weighCall_9 : decode cX2_weighCall 9 = .ok (.iload_n 3, 1) := by decide +kernel
theorem dX2_weighCall_10 : decode cX2_weighCall 10 = .ok (.aload_n 0, 1) := by decide +kernel
theorem dX2_weighCall_11 : decode cX2_weighCall 11 = .ok (.getfield 44, 3) := by decide +kernel
theorem dX2_weighCall_14 : decode cX2_weighCall 14 = .ok (.if_icmp .lt 19, 3) := by decide +kernel
theorem dX2_weighCall_17 : decode cX2_weighCall 17 = .ok (.iload_n 3, 1) := by decide +kernel
theorem dX2_weighCall_18 : decode cX2_weighCall 18 = .ok (.aload_n 0, 1) := by decide +kernel
theorem dX2_weighCall_19 : decode cX2_weighCall 19 = .ok (.getfield 44, 3) := by decide +kernel
theorem dX2_weighCall_22 : decode cX2_weighCall 22 = .ok (.if_icmp .ne 26, 3) := by decide +kernel
theorem dX2_weighCall_25 : decode cX2_weighCall 25 = .ok (.iload_n 1, 1) := by decide +kernel
theorem dX2_weighCall_26 : decode cX2_weighCall 26 = .ok (.aload_n 0, 1) := by decide +kernel
theorem dX2_weighCall_27 : decode cX2_weighCall 27 = .ok (.getfield 47, 3) := by decide +kernel
theorem dX2_weighCall_30 : decode cX2_weighCall 30 = .ok (.if_icmp .ge 18, 3) := by decide +kernel
theorem dX2_weighCall_33 : decode cX2_weighCall 33 = .ok (.aload_n 0, 1) := by decide +kernel
theorem dX2_weighCall_34 : decode cX2_weighCall 34 = .ok (.iload_n 3, 1) := by decide +kernel
theorem dX2_weighCall_35 : decode cX2_weighCall 35 = .ok (.putfield 44, 3) := by decide +kernel
theorem dX2_weighCall_38 : decode cX2_weighCall 38 = .ok (.aload_n 0, 1) := by decide +kernel
theorem dX2_weighCall_39 : decode cX2_weighCall 39 = .ok (.iload_n 1, 1) := by decide +kernel
theorem dX2_weighCall_40 : decode cX2_weighCall 40 = .ok (.putfield 47, 3) := by decide +kernel
theorem dX2_weighCall_43 : decode cX2_weighCall 43 = .ok (.aload_n 0, 1) := by decide +kernel
theorem dX2_weighCall_44 : decode cX2_weighCall 44 = .ok (.iload_n 2, 1) := by decide +kernel
theorem dX2_weighCall_45 : decode cX2_weighCall 45 = .ok (.putfield 50, 3) := by decide +kernel
theorem dX2_weighCall_48 : decode cX2_weighCall 48 = .ok (.return_, 1) := by decide +kernel
set_option maxRecDepth 20000 in
theorem ggX2_lossWith_X2_leastLoss : GoodIn wsX2_lossWith wsX2_leastLoss := goodIn_r _ [13, 14, 25, 26, 27, 28, 29, 30, 31, 32, 33, 34, 35, 36] (by decide +kernel) (by decide +kernel)
set_option maxRecDepth 20000 in
theorem gX2_lossWith_X2_leastLoss : GoodIn wsX2_lossWith (wsV RX2 135 RX2 yX2_leastLoss wsX2_leastLoss) := goodIn_app (goodIn_of _ (by decide +kernel)) ggX2_lossWith_X2_leastLoss
set_option maxRecDepth 20000 in
theorem ggX2_lossWith_X2_lossFrom : GoodIn wsX2_lossWith wsX2_lossFrom := goodIn_r _ [18, 1, 14, 19, 5, 6, 7, 8, 20, 21, 22, 12, 23, 24, 25, 26, 27, 28, 29, 30, 31, 32, 33, 34, 35, 36] (by decide +kernel) (by decide +kernel)
set_option maxRecDepth 20000 in
theorem gX2_lossWith_X2_lossFrom : GoodIn wsX2_lossWith (wsV RX2 85 RX2 yX2_lossFrom wsX2_lossFrom) := goodIn_app (goodIn_of _ (by decide +kernel)) ggX2_lossWith_X2_lossFrom
theorem dX2_lossWith_0 : decode cX2_lossWith 0 = .ok (.aload_n 0, 1) := by decide +kernel
theorem dX2_lossWith_1 : decode cX2_lossWith 1 = .ok (.getfield 26, 3) := by decide +kernel
theorem dX2_lossWith_4 : decode cX2_lossWith 4 = .ok (.iload_n 1, 1) := by decide +kernel
theorem dX2_lossWith_5 : decode cX2_lossWith 5 = .ok (.iaload, 1) := by decide +kernel
theorem dX2_lossWith_6 : decode cX2_lossWith 6 = .ok (.istore_n 3, 1) := by decide +kernel
theorem dX2_lossWith_7 : decode cX2_lossWith 7 = .ok (.iload_n 2, 1) := by decide +kernel
theorem dX2_lossWith_8 : decode cX2_lossWith 8 = .ok (.iload_n 3, 1) := by decide +kernel
theorem dX2_lossWith_9 : decode cX2_lossWith 9 = .ok (.if_icmp .ne 8, 3) := by decide +kernel
theorem dX2_lossWith_12 : decode cX2_lossWith 12 = .ok (.aload_n 0, 1) := by decide +kernel
theorem dX2_lossWith_13 : decode cX2_lossWith 13 = .ok (.invokevirtual 135, 3) := by decide +kernel
theorem dX2_lossWith_16 : decode cX2_lossWith 16 = .ok (.ireturn, 1) := by decide +kernel
theorem dX2_lossWith_17 : decode cX2_lossWith 17 = .ok (.aload_n 0, 1) := by decide +kernel
theorem dX2_lossWith_18 : decode cX2_lossWith 18 = .ok (.getfield 26, 3) := by decide +kernel
theorem dX2_lossWith_21 : decode cX2_lossWith 21 = .ok (.iload_n 1, 1) := by decide +kernel
theorem dX2_lossWith_22 : decode cX2_lossWith 22 = .ok (.iload_n 2, 1) := by decide +kernel
theorem dX2_lossWith_23 : decode cX2_lossWith 23 = .ok (.iastore, 1) := by decide +kernel
theorem dX2_lossWith_24 : decode cX2_lossWith 24 = .ok (.ldc 124, 2) := by decide +kernel
theorem dX2_lossWith_26 : decode cX2_lossWith 26 = .ok (.istore 4, 2) := by decide +kernel
theorem dX2_lossWith_28 : decode cX2_lossWith 28 = .ok (.iconst 0, 1) := by decide +kernel
theorem dX2_lossWith_29 : decode cX2_lossWith 29 = .ok (.istore 5, 2) := by decide +kernel
theorem dX2_lossWith_31 : decode cX2_lossWith 31 = .ok (.iload 5, 2) := by decide +kernel
theorem dX2_lossWith_33 : decode cX2_lossWith 33 = .ok (.aload_n 0, 1) := by decide +kernel
theorem dX2_lossWith_34 : decode cX2_lossWith 34 = .ok (.getfield 15, 3) := by decide +kernel
theorem dX2_lossWith_37 : decode cX2_lossWith 37 = .ok (.if_icmp .gt 43, 3) := by decide +kernel
theorem dX2_lossWith_40 : decode cX2_lossWith 40 = .ok (.aload_n 0, 1) := by decide +kernel
theorem dX2_lossWith_41 : decode cX2_lossWith 41 = .ok (.getfield 34, 3) := by decide +kernel
theorem dX2_lossWith_44 : decode cX2_lossWith 44 = .ok (.iload 5, 2) := by decide +kernel
theorem dX2_lossWith_46 : decode cX2_lossWith 46 = .ok (.iaload, 1) := by decide +kernel
theorem dX2_lossWith_47 : decode cX2_lossWith 47 = .ok (.ldc 124, 2) := by decide +kernel
theorem dX2_lossWith_49 : decode cX2_lossWith 49 = .ok (.if_icmp .ge 25, 3) := by decide +kernel
theorem dX2_lossWith_52 : decode cX2_lossWith 52 = .ok (.iload 4, 2) := by decide +kernel
theorem dX2_lossWith_54 : decode cX2_lossWith 54 = .ok (.aload_n 0, 1) := by decide +kernel
theorem dX2_lossWith_55 : decode cX2_lossWith 55 = .ok (.getfield 34, 3) := by decide +kernel
theorem dX2_lossWith_58 : decode cX2_lossWith 58 = .ok (.iload 5, 2) := by decide +kernel
theorem dX2_lossWith_60 : decode cX2_lossWith 60 = .ok (.iaload, 1) := by decide +kernel
theorem dX2_lossWith_61 : decode cX2_lossWith 61 = .ok (.aload_n 0, 1) := by decide +kernel
theorem dX2_lossWith_62 : decode cX2_lossWith 62 = .ok (.iload_n 1, 1) := by decide +kernel
theorem dX2_lossWith_63 : decode cX2_lossWith 63 = .ok (.iload 5, 2) := by decide +kernel
theorem dX2_lossWith_65 : decode cX2_lossWith 65 = .ok (.invokevirtual 85, 3) := by decide +kernel
theorem dX2_lossWith_68 : decode cX2_lossWith 68 = .ok (.iadd, 1) := by decide +kernel
theorem dX2_lossWith_69 : decode cX2_lossWith 69 = .ok (.invokestatic 92, 3) := by decide +kernel
theorem dX2_lossWith_72 : decode cX2_lossWith 72 = .ok (.istore 4, 2) := by decide +kernel
theorem dX2_lossWith_74 : decode cX2_lossWith 74 = .ok (.iinc 5 1, 3) := by decide +kernel
theorem dX2_lossWith_77 : decode cX2_lossWith 77 = .ok (.goto (-46), 3) := by decide +kernel
theorem dX2_lossWith_80 : decode cX2_lossWith 80 = .ok (.aload_n 0, 1) := by decide +kernel
theorem dX2_lossWith_81 : decode cX2_lossWith 81 = .ok (.getfield 26, 3) := by decide +kernel
theorem dX2_lossWith_84 : decode cX2_lossWith 84 = .ok (.iload_n 1, 1) := by decide +kernel
theorem dX2_lossWith_85 : decode cX2_lossWith 85 = .ok (.iload_n 3, 1) := by decide +kernel
theorem dX2_lossWith_86 : decode cX2_lossWith 86 = .ok (.iastore, 1) := by decide +kernel
theorem dX2_lossWith_87 : decode cX2_lossWith 87 = .ok (.iload 4, 2) := by decide +kernel
theorem dX2_lossWith_89 : decode cX2_lossWith 89 = .ok (.ireturn, 1) := by decide +kernel
theorem dX3_init_0 : decode cX3_init 0 = .ok (.aload_n 0, 1) := by decide +kernel
theorem dX3_init_1 : decode cX3_init 1 = .ok (.invokespecial 3, 3) := by decide +kernel
theorem dX3_init_4 : decode cX3_init 4 = .ok (.aload_n 0, 1) := by decide +kernel
theorem dX3_init_5 : decode cX3_init 5 = .ok (.iconst 0, 1) := by decide +kernel
theorem dX3_init_6 : decode cX3_init 6 = .ok (.putfield 9, 3) := by decide +kernel
theorem dX3_init_9 : decode cX3_init 9 = .ok (.aload_n 0, 1) := by decide +kernel
theorem dX3_init_10 : decode cX3_init 10 = .ok (.iconst 0, 1) := by decide +kernel
theorem dX3_init_11 : decode cX3_init 11 = .ok (.putfield 15, 3) := by decide +kernel
theorem dX3_init_14 : decode cX3_init 14 = .ok (.aload_n 0, 1) := by decide +kernel
theorem dX3_init_15 : decode cX3_init 15 = .ok (.iconst 0, 1) := by decide +kernel
theorem dX3_init_16 : decode cX3_init 16 = .ok (.putfield 18, 3) := by decide +kernel
theorem dX3_init_19 : decode cX3_init 19 = .ok (.aload_n 0, 1) := by decide +kernel
theorem dX3_init_20 : decode cX3_init 20 = .ok (.bipush 6, 2) := by decide +kernel
theorem dX3_init_22 : decode cX3_init 22 = .ok (.newarray .int, 2) := by decide +kernel
theorem dX3_init_24 : decode cX3_init 24 = .ok (.putfield 21, 3) := by decide +kernel
theorem dX3_init_27 : decode cX3_init 27 = .ok (.aload_n 0, 1) := by decide +kernel
theorem dX3_init_28 : decode cX3_init 28 = .ok (.bipush 6, 2) := by decide +kernel
theorem dX3_init_30 : decode cX3_init 30 = .ok (.newarray .int, 2) := by decide +kernel
theorem dX3_init_32 : decode cX3_init 32 = .ok (.putfield 25, 3) := by decide +kernel
theorem dX3_init_35 : decode cX3_init 35 = .ok (.aload_n 0, 1) := by decide +kernel
theorem dX3_init_36 : decode cX3_init 36 = .ok (.bipush 6, 2) := by decide +kernel
theorem dX3_init_38 : decode cX3_init 38 = .ok (.newarray .int, 2) := by decide +kernel
theorem dX3_init_40 : decode cX3_init 40 = .ok (.putfield 28, 3) := by decide +kernel
theorem dX3_init_43 : decode cX3_init 43 = .ok (.aload_n 0, 1) := by decide +kernel
theorem dX3_init_44 : decode cX3_init 44 = .ok (.bipush 6, 2) := by decide +kernel
theorem dX3_init_46 : decode cX3_init 46 = .ok (.newarray .int, 2) := by decide +kernel
theorem dX3_init_48 : decode cX3_init 48 = .ok (.putfield 31, 3) := by decide +kernel
theorem dX3_init_51 : decode cX3_init 51 = .ok (.aload_n 0, 1) := by decide +kernel
theorem dX3_init_52 : decode cX3_init 52 = .ok (.bipush 8, 2) := by decide +kernel
theorem dX3_init_54 : decode cX3_init 54 = .ok (.newarray .int, 2) := by decide +kernel
theorem dX3_init_56 : decode cX3_init 56 = .ok (.putfield 34, 3) := by decide +kernel
theorem dX3_init_59 : decode cX3_init 59 = .ok (.aload_n 0, 1) := by decide +kernel
theorem dX3_init_60 : decode cX3_init 60 = .ok (.bipush 8, 2) := by decide +kernel
theorem dX3_init_62 : decode cX3_init 62 = .ok (.newarray .int, 2) := by decide +kernel
theorem dX3_init_64 : decode cX3_init 64 = .ok (.putfield 37, 3) := by decide +kernel
theorem dX3_init_67 : decode cX3_init 67 = .ok (.aload_n 0, 1) := by decide +kernel
theorem dX3_init_68 : decode cX3_init 68 = .ok (.bipush 8, 2) := by decide +kernel
theorem dX3_init_70 : decode cX3_init 70 = .ok (.newarray .int, 2) := by decide +kernel
theorem dX3_init_72 : decode cX3_init 72 = .ok (.putfield 40, 3) := by decide +kernel
theorem dX3_init_75 : decode cX3_init 75 = .ok (.aload_n 0, 1) := by decide +kernel
theorem dX3_init_76 : decode cX3_init 76 = .ok (.bipush 8, 2) := by decide +kernel
theorem dX3_init_78 : decode cX3_init 78 = .ok (.newarray .int, 2) := by decide +kernel
theorem dX3_init_80 : decode cX3_init 80 = .ok (.putfield 43, 3) := by decide +kernel
theorem dX3_init_83 : decode cX3_init 83 = .ok (.return_, 1) := by decide +kernel
theorem dX3_clear_0 : decode cX3_clear 0 = .ok (.aload_n 0, 1) := by decide +kernel
theorem dX3_clear_1 : decode cX3_clear 1 = .ok (.iconst 0, 1) := by decide +kernel
theorem dX3_clear_2 : decode cX3_clear 2 = .ok (.putfield 9, 3) := by decide +kernel
theorem dX3_clear_5 : decode cX3_clear 5 = .ok (.aload_n 0, 1) := by decide +kernel
theorem dX3_clear_6 : decode cX3_clear 6 = .ok (.iconst 0, 1) := by decide +kernel
theorem dX3_clear_7 : decode cX3_clear 7 = .ok (.putfield 15, 3) := by decide +kernel
theorem dX3_clear_10 : decode cX3_clear 10 = .ok (.aload_n 0, 1) := by decide +kernel
theorem dX3_clear_11 : decode cX3_clear 11 = .ok (.iconst 0, 1) := by decide +kernel
theorem dX3_clear_12 : decode cX3_clear 12 = .ok (.putfield 18, 3) := by decide +kernel
theorem dX3_clear_15 : decode cX3_clear 15 = .ok (.return_, 1) := by decide +kernel
theorem dX3_addPerson_0 : decode cX3_addPerson 0 = .ok (.aload_n 0, 1) := by decide +kernel
theorem dX3_addPerson_1 : decode cX3_addPerson 1 = .ok (.getfield 9, 3) := by decide +kernel
theorem dX3_addPerson_4 : decode cX3_addPerson 4 = .ok (.bipush 6, 2) := by decide +kernel
theorem dX3_addPerson_6 : decode cX3_addPerson 6 = .ok (.if_icmp .ge 53, 3) := by decide +kernel
theorem dX3_addPerson_9 : decode cX3_addPerson 9 = .ok (.aload_n 0, 1) := by decide +kernel
theorem dX3_addPerson_10 : decode cX3_addPerson 10 = .ok (.getfield 21, 3) := by decide +kernel
theorem dX3_addPerson_13 : decode cX3_addPerson 13 = .ok (.aload_n 0, 1) := by decide +kernel
theorem dX3_addPerson_14 : decode cX3_addPerson 14 = .ok (.getfield 9, 3) := by decide +kernel
theorem dX3_addPerson_17 : decode cX3_addPerson 17 = .ok (.iload_n 1, 1) := by decide +kernel
theorem dX3_addPerson_18 : decode cX3_addPerson 18 = .ok (.iastore, 1) := by decide +kernel
theorem dX3_addPerson_19 : decode cX3_addPerson 19 = .ok (.aload_n 0, 1) := by decide +kernel
theorem dX3_addPerson_20 : decode cX3_addPerson 20 = .ok (.getfield 25, 3) := by decide +kernel
theorem dX3_addPerson_23 : decode cX3_addPerson 23 = .ok (.aload_n 0, 1) := by decide +kernel
theorem dX3_addPerson_24 : decode cX3_addPerson 24 = .ok (.getfield 9, 3) := by decide +kernel
theorem dX3_addPerson_27 : decode cX3_addPerson 27 = .ok (.iload_n 2, 1) := by decide +kernel
theorem dX3_addPerson_28 : decode cX3_addPerson 28 = .ok (.iastore, 1) := by decide +kernel
theorem dX3_addPerson_29 : decode cX3_addPerson 29 = .ok (.aload_n 0, 1) := by decide +kernel
theorem dX3_addPerson_30 : decode cX3_addPerson 30 = .ok (.getfield 28, 3) := by decide +kernel
theorem dX3_addPerson_33 : decode cX3_addPerson 33 = .ok (.aload_n 0, 1) := by decide +kernel
theorem dX3_addPerson_34 : decode cX3_addPerson 34 = .ok (.getfield 9, 3) := by decide +kernel
theorem dX3_addPerson_37 : decode cX3_addPerson 37 = .ok (.iload_n 3, 1) := by decide +kernel
theorem dX3_addPerson_38 : decode cX3_addPerson 38 = .ok (.iastore, 1) := by decide +kernel
theorem dX3_addPerson_39 : decode cX3_addPerson 39 = .ok (.aload_n 0, 1) := by decide +kernel
theorem dX3_addPerson_40 : decode cX3_addPerson 40 = .ok (.getfield 31, 3) := by decide +kernel
theorem dX3_addPerson_43 : decode cX3_addPerson 43 = .ok (.aload_n 0, 1) := by decide +kernel
theorem dX3_addPerson_44 : decode cX3_addPerson 44 = .ok (.getfield 9, 3) := by decide +kernel
theorem dX3_addPerson_47 : decode cX3_addPerson 47 = .ok (.iconst 5, 1) := by decide +kernel
theorem dX3_addPerson_48 : decode cX3_addPerson 48 = .ok (.iastore, 1) := by decide +kernel
theorem dX3_addPerson_49 : decode cX3_addPerson 49 = .ok (.aload_n 0, 1) := by decide +kernel
theorem dX3_addPerson_50 : decode cX3_addPerson 50 = .ok (.dup, 1) := by decide +kernel
theorem dX3_addPerson_51 : decode cX3_addPerson 51 = .ok (.getfield 9, 3) := by decide +kernel
theorem dX3_addPerson_54 : decode cX3_addPerson 54 = .ok (.iconst 1, 1) := by decide +kernel
theorem dX3_addPerson_55 : decode cX3_addPerson 55 = .ok (.iadd, 1) := by decide +kernel
theorem dX3_addPerson_56 : decode cX3_addPerson 56 = .ok (.putfield 9, 3) := by decide +kernel
theorem dX3_addPerson_59 : decode cX3_addPerson 59 = .ok (.return_, 1) := by decide +kernel
theorem dX3_addDebt_0 : decode cX3_addDebt 0 = .ok (.aload_n 0, 1) := by decide +kernel
theorem dX3_addDebt_1 : decode cX3_addDebt 1 = .ok (.getfield 15, 3) := by decide +kernel
theorem dX3_addDebt_4 : decode cX3_addDebt 4 = .ok (.bipush 8, 2) := by decide +kernel
theorem dX3_addDebt_6 : decode cX3_addDebt 6 = .ok (.if_icmp .ge 54, 3) := by decide +kernel
theorem dX3_addDebt_9 : decode cX3_addDebt 9 = .ok (.aload_n 0, 1) := by decide +kernel
theorem dX3_addDebt_10 : decode cX3_addDebt 10 = .ok (.getfield 34, 3) := by decide +kernel
theorem dX3_addDebt_13 : decode cX3_addDebt 13 = .ok (.aload_n 0, 1) := by decide +kernel
theorem dX3_addDebt_14 : decode cX3_addDebt 14 = .ok (.getfield 15, 3) := by decide +kernel
theorem dX3_addDebt_17 : decode cX3_addDebt 17 = .ok (.iload_n 1, 1) := by decide +kernel
theorem dX3_addDebt_18 : decode cX3_addDebt 18 = .ok (.iastore, 1) := by decide +kernel
theorem dX3_addDebt_19 : decode cX3_addDebt 19 = .ok (.aload_n 0, 1) := by decide +kernel
theorem dX3_addDebt_20 : decode cX3_addDebt 20 = .ok (.getfield 37, 3) := by decide +kernel
theorem dX3_addDebt_23 : decode cX3_addDebt 23 = .ok (.aload_n 0, 1) := by decide +kernel
theorem dX3_addDebt_24 : decode cX3_addDebt 24 = .ok (.getfield 15, 3) := by decide +kernel
theorem dX3_addDebt_27 : decode cX3_addDebt 27 = .ok (.iload_n 2, 1) := by decide +kernel
theorem dX3_addDebt_28 : decode cX3_addDebt 28 = .ok (.iastore, 1) := by decide +kernel
theorem dX3_addDebt_29 : decode cX3_addDebt 29 = .ok (.aload_n 0, 1) := by decide +kernel
theorem dX3_addDebt_30 : decode cX3_addDebt 30 = .ok (.getfield 40, 3) := by decide +kernel
theorem dX3_addDebt_33 : decode cX3_addDebt 33 = .ok (.aload_n 0, 1) := by decide +kernel
theorem dX3_addDebt_34 : decode cX3_addDebt 34 = .ok (.getfield 15, 3) := by decide +kernel
theorem dX3_addDebt_37 : decode cX3_addDebt 37 = .ok (.iload_n 3, 1) := by decide +kernel
theorem dX3_addDebt_38 : decode cX3_addDebt 38 = .ok (.iastore, 1) := by decide +kernel
theorem dX3_addDebt_39 : decode cX3_addDebt 39 = .ok (.aload_n 0, 1) := by decide +kernel
theorem dX3_addDebt_40 : decode cX3_addDebt 40 = .ok (.getfield 43, 3) := by decide +kernel
theorem dX3_addDebt_43 : decode cX3_addDebt 43 = .ok (.aload_n 0, 1) := by decide +kernel
theorem dX3_addDebt_44 : decode cX3_addDebt 44 = .ok (.getfield 15, 3) := by decide +kernel
theorem dX3_addDebt_47 : decode cX3_addDebt 47 = .ok (.iload 4, 2) := by decide +kernel
theorem dX3_addDebt_49 : decode cX3_addDebt 49 = .ok (.iastore, 1) := by decide +kernel
theorem dX3_addDebt_50 : decode cX3_addDebt 50 = .ok (.aload_n 0, 1) := by decide +kernel
theorem dX3_addDebt_51 : decode cX3_addDebt 51 = .ok (.dup, 1) := by decide +kernel
theorem dX3_addDebt_52 : decode cX3_addDebt 52 = .ok (.getfield 15, 3) := by decide +kernel
theorem dX3_addDebt_55 : decode cX3_addDebt 55 = .ok (.iconst 1, 1) := by decide +kernel
theorem dX3_addDebt_56 : decode cX3_addDebt 56 = .ok (.iadd, 1) := by decide +kernel
theorem dX3_addDebt_57 : decode cX3_addDebt 57 = .ok (.putfield 15, 3) := by decide +kernel
theorem dX3_addDebt_60 : decode cX3_addDebt 60 = .ok (.return_, 1) := by decide +kernel
theorem dX3_isPerson_0 : decode cX3_isPerson 0 = .ok (.iload_n 1, 1) := by decide +kernel
theorem dX3_isPerson_1 : decode cX3_isPerson 1 = .ok (.ifCond .lt 15, 3) := by decide +kernel
theorem dX3_isPerson_4 : decode cX3_isPerson 4 = .ok (.iload_n 1, 1) := by decide +kernel
theorem dX3_isPerson_5 : decode cX3_isPerson 5 = .ok (.aload_n 0, 1) := by decide +kernel
theorem dX3_isPerson_6 : decode cX3_isPerson 6 = .ok (.getfield 9, 3) := by decide +kernel
theorem dX3_isPerson_9 : decode cX3_isPerson 9 = .ok (.if_icmp .ge 7, 3) := by decide +kernel
theorem dX3_isPerson_12 : decode cX3_isPerson 12 = .ok (.iconst 1, 1) := by decide +kernel
theorem dX3_isPerson_13 : decode cX3_isPerson 13 = .ok (.goto 4, 3) := by decide +kernel
theorem dX3_isPerson_16 : decode cX3_isPerson 16 = .ok (.iconst 0, 1) := by decide +kernel
theorem dX3_isPerson_17 : decode cX3_isPerson 17 = .ok (.ireturn, 1) := by decide +kernel
theorem dX3_isDebt_0 : decode cX3_isDebt 0 = .ok (.iload_n 1, 1) := by decide +kernel
theorem dX3_isDebt_1 : decode cX3_isDebt 1 = .ok (.ifCond .lt 15, 3) := by decide +kernel
theorem dX3_isDebt_4 : decode cX3_isDebt 4 = .ok (.iload_n 1, 1) := by decide +kernel
theorem dX3_isDebt_5 : decode cX3_isDebt 5 = .ok (.aload_n 0, 1) := by decide +kernel
theorem dX3_isDebt_6 : decode cX3_isDebt 6 = .ok (.getfield 15, 3) := by decide +kernel
theorem dX3_isDebt_9 : decode cX3_isDebt 9 = .ok (.if_icmp .ge 7, 3) := by decide +kernel
theorem dX3_isDebt_12 : decode cX3_isDebt 12 = .ok (.iconst 1, 1) := by decide +kernel
theorem dX3_isDebt_13 : decode cX3_isDebt 13 = .ok (.goto 4, 3) := by decide +kernel
theorem dX3_isDebt_16 : decode cX3_isDebt 16 = .ok (.iconst 0, 1) := by decide +kernel
theorem dX3_isDebt_17 : decode cX3_isDebt 17 = .ok (.ireturn, 1) := by decide +kernel
theorem dX3_isOfKind_0 : decode cX3_isOfKind 0 = .ok (.aload_n 0, 1) := by decide +kernel
theorem dX3_isOfKind_1 : decode cX3_isOfKind 1 = .ok (.getfield 21, 3) := by decide +kernel
theorem dX3_isOfKind_4 : decode cX3_isOfKind 4 = .ok (.iload_n 1, 1) := by decide +kernel
theorem dX3_isOfKind_5 : decode cX3_isOfKind 5 = .ok (.iaload, 1) := by decide +kernel
theorem dX3_isOfKind_6 : decode cX3_isOfKind 6 = .ok (.iload_n 2, 1) := by decide +kernel
theorem dX3_isOfKind_7 : decode cX3_isOfKind 7 = .ok (.if_icmp .eq 33, 3) := by decide +kernel
theorem dX3_isOfKind_10 : decode cX3_isOfKind 10 = .ok (.iload_n 2, 1) := by decide +kernel
theorem dX3_isOfKind_11 : decode cX3_isOfKind 11 = .ok (.iconst 1, 1) := by decide +kernel
theorem dX3_isOfKind_12 : decode cX3_isOfKind 12 = .ok (.if_icmp .ne 13, 3) := by decide +kernel
theorem dX3_isOfKind_15 : decode cX3_isOfKind 15 = .ok (.aload_n 0, 1) := by decide +kernel
theorem dX3_isOfKind_16 : decode cX3_isOfKind 16 = .ok (.getfield 21, 3) := by decide +kernel
theorem dX3_isOfKind_19 : decode cX3_isOfKind 19 = .ok (.iload_n 1, 1) := by decide +kernel
theorem dX3_isOfKind_20 : decode cX3_isOfKind 20 = .ok (.iaload, 1) := by decide +kernel
theorem dX3_isOfKind_21 : decode cX3_isOfKind 21 = .ok (.iconst 5, 1) := by decide +kernel
theorem dX3_isOfKind_22 : decode cX3_isOfKind 22 = .ok (.if_icmp .eq 18, 3) := by decide +kernel
theorem dX3_isOfKind_25 : decode cX3_isOfKind 25 = .ok (.iload_n 2, 1) := by decide +kernel
theorem dX3_isOfKind_26 : decode cX3_isOfKind 26 = .ok (.iconst 3, 1) := by decide +kernel
theorem dX3_isOfKind_27 : decode cX3_isOfKind 27 = .ok (.if_icmp .ne 17, 3) := by decide +kernel
theorem dX3_isOfKind_30 : decode cX3_isOfKind 30 = .ok (.aload_n 0, 1) := by decide +kernel
theorem dX3_isOfKind_31 : decode cX3_isOfKind 31 = .ok (.getfield 21, 3) := by decide +kernel
theorem dX3_isOfKind_34 : decode cX3_isOfKind 34 = .ok (.iload_n 1, 1) := by decide +kernel
theorem dX3_isOfKind_35 : decode cX3_isOfKind 35 = .ok (.iaload, 1) := by decide +kernel
theorem dX3_isOfKind_36 : decode cX3_isOfKind 36 = .ok (.iconst 4, 1) := by decide +kernel
theorem dX3_isOfKind_37 : decode cX3_isOfKind 37 = .ok (.if_icmp .ne 7, 3) := by decide +kernel
theorem dX3_isOfKind_40 : decode cX3_isOfKind 40 = .ok (.iconst 1, 1) := by decide +kernel
theorem dX3_isOfKind_41 : decode cX3_isOfKind 41 = .ok (.goto 4, 3) := by decide +kernel
theorem dX3_isOfKind_44 : decode cX3_isOfKind 44 = .ok (.iconst 0, 1) := by decide +kernel
theorem dX3_isOfKind_45 : decode cX3_isOfKind 45 = .ok (.ireturn, 1) := by decide +kernel
set_option maxRecDepth 20000 in
theorem ggX3_howManyOfKind_X3_isOfKind : GoodIn wsX3_howManyOfKind wsX3_isOfKind := goodIn_r _ [6, 7, 8, 9, 10, 11, 12, 13, 14, 15, 16, 17, 18] (by decide +kernel) (by decide +kernel)
set_option maxRecDepth 20000 in
theorem gX3_howManyOfKind_X3_isOfKind : GoodIn wsX3_howManyOfKind (wsV RX3 46 RX3 yX3_isOfKind wsX3_isOfKind) := goodIn_app (goodIn_of _ (by decide +kernel)) ggX3_howManyOfKind_X3_isOfKind
theorem dX3_howManyOfKind_0 : decode cX3_howManyOfKind 0 = .ok (.iconst 0, 1) := by decide +kernel
theorem dX3_howManyOfKind_1 : decode cX3_howManyOfKind 1 = .ok (.istore_n 2, 1) := by decide +kernel
theorem dX3_howManyOfKind_2 : decode cX3_howManyOfKind 2 = .ok (.iconst 0, 1) := by decide +kernel
theorem dX3_howManyOfKind_3 : decode cX3_howManyOfKind 3 = .ok (.istore_n 3, 1) := by decide +kernel
theorem dX3_howManyOfKind_4 : decode cX3_howManyOfKind 4 = .ok (.iload_n 3, 1) := by decide +kernel
theorem dX3_howManyOfKind_5 : decode cX3_howManyOfKind 5 = .ok (.aload_n 0, 1) := by decide +kernel
theorem dX3_howManyOfKind_6 : decode cX3_howManyOfKind 6 = .ok (.getfield 9, 3) := by decide +kernel
theorem dX3_howManyOfKind_9 : decode cX3_howManyOfKind 9 = .ok (.if_icmp .ge 21, 3) := by decide +kernel
theorem dX3_howManyOfKind_12 : decode cX3_howManyOfKind 12 = .ok (.aload_n 0, 1) := by decide +kernel
theorem dX3_howManyOfKind_13 : decode cX3_howManyOfKind 13 = .ok (.iload_n 3, 1) := by decide +kernel
theorem dX3_howManyOfKind_14 : decode cX3_howManyOfKind 14 = .ok (.iload_n 1, 1) := by decide +kernel
theorem dX3_howManyOfKind_15 : decode cX3_howManyOfKind 15 = .ok (.invokevirtual 46, 3) := by decide +kernel
theorem dX3_howManyOfKind_18 : decode cX3_howManyOfKind 18 = .ok (.ifCond .eq 6, 3) := by decide +kernel
theorem dX3_howManyOfKind_21 : decode cX3_howManyOfKind 21 = .ok (.iinc 2 1, 3) := by decide +kernel
theorem dX3_howManyOfKind_24 : decode cX3_howManyOfKind 24 = .ok (.iinc 3 1, 3) := by decide +kernel
theorem dX3_howManyOfKind_27 : decode cX3_howManyOfKind 27 = .ok (.goto (-23), 3) := by decide +kernel
theorem dX3_howManyOfKind_30 : decode cX3_howManyOfKind 30 = .ok (.iload_n 2, 1) := by decide +kernel
theorem dX3_howManyOfKind_31 : decode cX3_howManyOfKind 31 = .ok (.ireturn, 1) := by decide +kernel
theorem dX3_ofPerson_0 : decode cX3_ofPerson 0 = .ok (.iload_n 2, 1) := by decide +kernel
theorem dX3_ofPerson_1 : decode cX3_ofPerson 1 = .ok (.tableswitch 48 0 2 #[27, 34, 41], 27) := by decide +kernel
theorem dX3_ofPerson_28 : decode cX3_ofPerson 28 = .ok (.aload_n 0, 1) := by decide +kernel
theorem dX3_ofPerson_29 : decode cX3_ofPerson 29 = .ok (.getfield 21, 3) := by decide +kernel
theorem dX3_ofPerson_32 : decode cX3_ofPerson 32 = .ok (.iload_n 1, 1) := by decide +kernel
theorem dX3_ofPerson_33 : decode cX3_ofPerson 33 = .ok (.iaload, 1) := by decide +kernel
theorem dX3_ofPerson_34 : decode cX3_ofPerson 34 = .ok (.ireturn, 1) := by decide +kernel
theorem dX3_ofPerson_35 : decode cX3_ofPerson 35 = .ok (.aload_n 0, 1) := by decide +kernel
theorem dX3_ofPerson_36 : decode cX3_ofPerson 36 = .ok (.getfield 25, 3) := by decide +kernel
theorem dX3_ofPerson_39 : decode cX3_ofPerson 39 = .ok (.iload_n 1, 1) := by decide +kernel
theorem dX3_ofPerson_40 : decode cX3_ofPerson 40 = .ok (.iaload, 1) := by decide +kernel
theorem dX3_ofPerson_41 : decode cX3_ofPerson 41 = .ok (.ireturn, 1) := by decide +kernel
theorem dX3_ofPerson_42 : decode cX3_ofPerson 42 = .ok (.aload_n 0, 1) := by decide +kernel
theorem dX3_ofPerson_43 : decode cX3_ofPerson 43 = .ok (.getfield 28, 3) := by decide +kernel
theorem dX3_ofPerson_46 : decode cX3_ofPerson 46 = .ok (.iload_n 1, 1) := by decide +kernel
theorem dX3_ofPerson_47 : decode cX3_ofPerson 47 = .ok (.iaload, 1) := by decide +kernel
theorem dX3_ofPerson_48 : decode cX3_ofPerson 48 = .ok (.ireturn, 1) := by decide +kernel
theorem dX3_ofPerson_49 : decode cX3_ofPerson 49 = .ok (.aload_n 0, 1) := by decide +kernel
theorem dX3_ofPerson_50 : decode cX3_ofPerson 50 = .ok (.getfield 31, 3) := by decide +kernel
theorem dX3_ofPerson_53 : decode cX3_ofPerson 53 = .ok (.iload_n 1, 1) := by decide +kernel
theorem dX3_ofPerson_54 : decode cX3_ofPerson 54 = .ok (.iaload, 1) := by decide +kernel
theorem dX3_ofPerson_55 : decode cX3_ofPerson 55 = .ok (.ireturn, 1) := by decide +kernel
set_option maxRecDepth 20000 in
theorem ggX3_houseTells_X3_dogHours : GoodIn wsX3_houseTells wsX3_dogHours := goodIn_r _ [7, 8, 31, 32, 33, 34, 35, 36, 37, 38, 39, 40, 41] (by decide +kernel) (by decide +kernel)
set_option maxRecDepth 20000 in
theorem gX3_houseTells_X3_dogHours : GoodIn wsX3_houseTells (wsV RX3 50 RX3 yX3_dogHours wsX3_dogHours) := goodIn_app (goodIn_of _ (by decide +kernel)) ggX3_houseTells_X3_dogHours
set_option maxRecDepth 20000 in
theorem ggX3_houseTells_J6_bitCount_0f7a4 : GoodIn wsX3_houseTells wsJ6_bitCount_0f7a4 := goodIn_r _ [12, 13, 14, 15] (by decide +kernel) (by decide +kernel)
set_option maxRecDepth 20000 in
theorem gX3_houseTells_J6_bitCount_0f7a4 : GoodIn wsX3_houseTells (va_wsS RX3 54 yJ6_bitCount_0f7a4 wsJ6_bitCount_0f7a4) := goodIn_app (goodIn_of _ (by decide +kernel)) ggX3_houseTells_J6_bitCount_0f7a4
set_option maxRecDepth 20000 in
theorem ggX3_houseTells_X3_howManyOwedTo : GoodIn wsX3_houseTells wsX3_howManyOwedTo := goodIn_r _ [19, 20, 21, 31, 32, 33, 34, 35, 36, 37, 38, 39, 40, 41] (by decide +kernel) (by decide +kernel)
set_option maxRecDepth 20000 in
theorem gX3_houseTells_X3_howManyOwedTo : GoodIn wsX3_houseTells (wsV RX3 59 RX3 yX3_howManyOwedTo wsX3_howManyOwedTo) := goodIn_app (goodIn_of _ (by decide +kernel)) ggX3_houseTells_X3_howManyOwedTo
set_option maxRecDepth 20000 in
theorem ggX3_houseTells_X3_mateOut : GoodIn wsX3_houseTells wsX3_mateOut := goodIn_r _ [25, 2, 1, 26, 27, 28, 6, 29, 30, 31, 32, 33, 34, 35, 36, 37, 38, 39, 40, 41] (by decide +kernel) (by decide +kernel)
set_option maxRecDepth 20000 in
theorem gX3_houseTells_X3_mateOut : GoodIn wsX3_houseTells (wsV RX3 62 RX3 yX3_mateOut wsX3_mateOut) := goodIn_app (goodIn_of _ (by decide +kernel)) ggX3_houseTells_X3_mateOut
theorem dX3_houseTells_0 : decode cX3_houseTells 0 = .ok (.iload_n 2, 1) := by decide +kernel
theorem dX3_houseTells_1 : decode cX3_houseTells 1 = .ok (.tableswitch 76 1 4 #[31, 47, 53, 60], 31) := by decide +kernel
theorem dX3_houseTells_32 : decode cX3_houseTells 32 = .ok (.aload_n 0, 1) := by decide +kernel
theorem dX3_houseTells_33 : decode cX3_houseTells 33 = .ok (.getfield 28, 3) := by decide +kernel
theorem dX3_houseTells_36 : decode cX3_houseTells 36 = .ok (.iload_n 1, 1) := by decide +kernel
theorem dX3_houseTells_37 : decode cX3_houseTells 37 = .ok (.iaload, 1) := by decide +kernel
theorem dX3_houseTells_38 : decode cX3_houseTells 38 = .ok (.aload_n 0, 1) := by decide +kernel
theorem dX3_houseTells_39 : decode cX3_houseTells 39 = .ok (.iload_n 1, 1) := by decide +kernel
theorem dX3_houseTells_40 : decode cX3_houseTells 40 = .ok (.invokevirtual 50, 3) := by decide +kernel
theorem dX3_houseTells_43 : decode cX3_houseTells 43 = .ok (.iand, 1) := by decide +kernel
theorem dX3_houseTells_44 : decode cX3_houseTells 44 = .ok (.invokestatic 54, 3) := by decide +kernel
theorem dX3_houseTells_47 : decode cX3_houseTells 47 = .ok (.ireturn, 1) := by decide +kernel
theorem dX3_houseTells_48 : decode cX3_houseTells 48 = .ok (.aload_n 0, 1) := by decide +kernel
theorem dX3_houseTells_49 : decode cX3_houseTells 49 = .ok (.iload_n 1, 1) := by decide +kernel
theorem dX3_houseTells_50 : decode cX3_houseTells 50 = .ok (.invokevirtual 59, 3) := by decide +kernel
theorem dX3_houseTells_53 : decode cX3_houseTells 53 = .ok (.ireturn, 1) := by decide +kernel
theorem dX3_houseTells_54 : decode cX3_houseTells 54 = .ok (.aload_n 0, 1) := by decide +kernel
theorem dX3_houseTells_55 : decode cX3_houseTells 55 = .ok (.getfield 25, 3) := by decide +kernel
theorem dX3_houseTells_58 : decode cX3_houseTells 58 = .ok (.iload_n 1, 1) := by decide +kernel
theorem dX3_houseTells_59 : decode cX3_houseTells 59 = .ok (.iaload, 1) := by decide +kernel
theorem dX3_houseTells_60 : decode cX3_houseTells 60 = .ok (.ireturn, 1) := by decide +kernel
theorem dX3_houseTells_61 : decode cX3_houseTells 61 = .ok (.aload_n 0, 1) := by decide +kernel
theorem dX3_houseTells_62 : decode cX3_houseTells 62 = .ok (.getfield 28, 3) := by decide +kernel
theorem dX3_houseTells_65 : decode cX3_houseTells 65 = .ok (.iload_n 1, 1) := by decide +kernel
theorem dX3_houseTells_66 : decode cX3_houseTells 66 = .ok (.iaload, 1) := by decide +kernel
theorem dX3_houseTells_67 : decode cX3_houseTells 67 = .ok (.aload_n 0, 1) := by decide +kernel
theorem dX3_houseTells_68 : decode cX3_houseTells 68 = .ok (.iload_n 1, 1) := by decide +kernel
theorem dX3_houseTells_69 : decode cX3_houseTells 69 = .ok (.invokevirtual 62, 3) := by decide +kernel
theorem dX3_houseTells_72 : decode cX3_houseTells 72 = .ok (.ixor, 1) := by decide +kernel
theorem dX3_houseTells_73 : decode cX3_houseTells 73 = .ok (.invokestatic 54, 3) := by decide +kernel
theorem dX3_houseTells_76 : decode cX3_houseTells 76 = .ok (.ireturn, 1) := by decide +kernel
theorem dX3_houseTells_77 : decode cX3_houseTells 77 = .ok (.aload_n 0, 1) := by decide +kernel
theorem dX3_houseTells_78 : decode cX3_houseTells 78 = .ok (.getfield 28, 3) := by decide +kernel
theorem dX3_houseTells_81 : decode cX3_houseTells 81 = .ok (.iload_n 1, 1) := by decide +kernel
theorem dX3_houseTells_82 : decode cX3_houseTells 82 = .ok (.iaload, 1) := by decide +kernel
theorem dX3_houseTells_83 : decode cX3_houseTells 83 = .ok (.invokestatic 54, 3) := by decide +kernel
theorem dX3_houseTells_86 : decode cX3_houseTells 86 = .ok (.ireturn, 1) := by decide +kernel
theorem dX3_howManyOwedTo_0 : decode cX3_howManyOwedTo 0 = .ok (.iconst 0, 1) := by decide +kernel
theorem dX3_howManyOwedTo_1 : decode cX3_howManyOwedTo 1 = .ok (.istore_n 2, 1) := by decide +kernel
theorem dX3_howManyOwedTo_2 : decode cX3_howManyOwedTo 2 = .ok (.iconst 0, 1) := by decide +kernel
theorem dX3_howManyOwedTo_3 : decode cX3_howManyOwedTo 3 = .ok (.istore_n 3, 1) := by decide +kernel
theorem dX3_howManyOwedTo_4 : decode cX3_howManyOwedTo 4 = .ok (.iload_n 3, 1) := by decide +kernel
theorem dX3_howManyOwedTo_5 : decode cX3_howManyOwedTo 5 = .ok (.aload_n 0, 1) := by decide +kernel
theorem dX3_howManyOwedTo_6 : decode cX3_howManyOwedTo 6 = .ok (.getfield 15, 3) := by decide +kernel
theorem dX3_howManyOwedTo_9 : decode cX3_howManyOwedTo 9 = .ok (.if_icmp .ge 22, 3) := by decide +kernel
theorem dX3_howManyOwedTo_12 : decode cX3_howManyOwedTo 12 = .ok (.aload_n 0, 1) := by decide +kernel
theorem dX3_howManyOwedTo_13 : decode cX3_howManyOwedTo 13 = .ok (.getfield 37, 3) := by decide +kernel
theorem dX3_howManyOwedTo_16 : decode cX3_howManyOwedTo 16 = .ok (.iload_n 3, 1) := by decide +kernel
theorem dX3_howManyOwedTo_17 : decode cX3_howManyOwedTo 17 = .ok (.iaload, 1) := by decide +kernel
theorem dX3_howManyOwedTo_18 : decode cX3_howManyOwedTo 18 = .ok (.iload_n 1, 1) := by decide +kernel
theorem dX3_howManyOwedTo_19 : decode cX3_howManyOwedTo 19 = .ok (.if_icmp .ne 6, 3) := by decide +kernel
theorem dX3_howManyOwedTo_22 : decode cX3_howManyOwedTo 22 = .ok (.iinc 2 1, 3) := by decide +kernel
theorem dX3_howManyOwedTo_25 : decode cX3_howManyOwedTo 25 = .ok (.iinc 3 1, 3) := by decide +kernel
theorem dX3_howManyOwedTo_28 : decode cX3_howManyOwedTo 28 = .ok (.goto (-24), 3) := by decide +kernel
theorem dX3_howManyOwedTo_31 : decode cX3_howManyOwedTo 31 = .ok (.iload_n 2, 1) := by decide +kernel
theorem dX3_howManyOwedTo_32 : decode cX3_howManyOwedTo 32 = .ok (.ireturn, 1) := by decide +kernel
set_option maxRecDepth 20000 in
theorem ggX3_mateOut_X3_isPerson : GoodIn wsX3_mateOut wsX3_isPerson := goodIn_r _ [7, 8, 9, 10, 11, 12, 13, 14, 15, 16, 17, 18, 19] (by decide +kernel) (by decide +kernel)
set_option maxRecDepth 20000 in
theorem gX3_mateOut_X3_isPerson : GoodIn wsX3_mateOut (wsV RX3 65 RX3 yX3_isPerson wsX3_isPerson) := goodIn_app (goodIn_of _ (by decide +kernel)) ggX3_mateOut_X3_isPerson
theorem dX3_mateOut_0 : decode cX3_mateOut 0 = .ok (.aload_n 0, 1) := by decide +kernel
theorem dX3_mateOut_1 : decode cX3_mateOut 1 = .ok (.aload_n 0, 1) := by decide +kernel
theorem dX3_mateOut_2 : decode cX3_mateOut 2 = .ok (.getfield 25, 3) := by decide +kernel
theorem dX3_mateOut_5 : decode cX3_mateOut 5 = .ok (.iload_n 1, 1) := by decide +kernel
theorem dX3_mateOut_6 : decode cX3_mateOut 6 = .ok (.iaload, 1) := by decide +kernel
theorem dX3_mateOut_7 : decode cX3_mateOut 7 = .ok (.invokevirtual 65, 3) := by decide +kernel
theorem dX3_mateOut_10 : decode cX3_mateOut 10 = .ok (.ifCond .eq 17, 3) := by decide +kernel
theorem dX3_mateOut_13 : decode cX3_mateOut 13 = .ok (.aload_n 0, 1) := by decide +kernel
theorem dX3_mateOut_14 : decode cX3_mateOut 14 = .ok (.getfield 28, 3) := by decide +kernel
theorem dX3_mateOut_17 : decode cX3_mateOut 17 = .ok (.aload_n 0, 1) := by decide +kernel
theorem dX3_mateOut_18 : decode cX3_mateOut 18 = .ok (.getfield 25, 3) := by decide +kernel
theorem dX3_mateOut_21 : decode cX3_mateOut 21 = .ok (.iload_n 1, 1) := by decide +kernel
theorem dX3_mateOut_22 : decode cX3_mateOut 22 = .ok (.iaload, 1) := by decide +kernel
theorem dX3_mateOut_23 : decode cX3_mateOut 23 = .ok (.iaload, 1) := by decide +kernel
theorem dX3_mateOut_24 : decode cX3_mateOut 24 = .ok (.goto 4, 3) := by decide +kernel
theorem dX3_mateOut_27 : decode cX3_mateOut 27 = .ok (.iconst 0, 1) := by decide +kernel
theorem dX3_mateOut_28 : decode cX3_mateOut 28 = .ok (.ireturn, 1) := by decide +kernel
theorem dX3_dogHours_0 : decode cX3_dogHours 0 = .ok (.aload_n 0, 1) := by decide +kernel
theorem dX3_dogHours_1 : decode cX3_dogHours 1 = .ok (.getfield 21, 3) := by decide +kernel
theorem dX3_dogHours_4 : decode cX3_dogHours 4 = .ok (.iload_n 1, 1) := by decide +kernel
theorem dX3_dogHours_5 : decode cX3_dogHours 5 = .ok (.iaload, 1) := by decide +kernel
theorem dX3_dogHours_6 : decode cX3_dogHours 6 = .ok (.iconst 5, 1) := by decide +kernel
theorem dX3_dogHours_7 : decode cX3_dogHours 7 = .ok (.if_icmp .ne 9, 3) := by decide +kernel
theorem dX3_dogHours_10 : decode cX3_dogHours 10 = .ok (.sipush 4095, 3) := by decide +kernel
theorem dX3_dogHours_13 : decode cX3_dogHours 13 = .ok (.goto 20, 3) := by decide +kernel
theorem dX3_dogHours_16 : decode cX3_dogHours 16 = .ok (.aload_n 0, 1) := by decide +kernel
theorem dX3_dogHours_17 : decode cX3_dogHours 17 = .ok (.getfield 21, 3) := by decide +kernel
theorem dX3_dogHours_20 : decode cX3_dogHours 20 = .ok (.iload_n 1, 1) := by decide +kernel
theorem dX3_dogHours_21 : decode cX3_dogHours 21 = .ok (.iaload, 1) := by decide +kernel
theorem dX3_dogHours_22 : decode cX3_dogHours 22 = .ok (.iconst 1, 1) := by decide +kernel
theorem dX3_dogHours_23 : decode cX3_dogHours 23 = .ok (.if_icmp .ne 9, 3) := by decide +kernel
theorem dX3_dogHours_26 : decode cX3_dogHours 26 = .ok (.sipush 1365, 3) := by decide +kernel
theorem dX3_dogHours_29 : decode cX3_dogHours 29 = .ok (.goto 4, 3) := by decide +kernel
theorem dX3_dogHours_32 : decode cX3_dogHours 32 = .ok (.iconst 0, 1) := by decide +kernel
theorem dX3_dogHours_33 : decode cX3_dogHours 33 = .ok (.ireturn, 1) := by decide +kernel
theorem dX3_peopleOut_0 : decode cX3_peopleOut 0 = .ok (.iconst 0, 1) := by decide +kernel
theorem dX3_peopleOut_1 : decode cX3_peopleOut 1 = .ok (.istore_n 2, 1) := by decide +kernel
theorem dX3_peopleOut_2 : decode cX3_peopleOut 2 = .ok (.iconst 0, 1) := by decide +kernel
theorem dX3_peopleOut_3 : decode cX3_peopleOut 3 = .ok (.istore_n 3, 1) := by decide +kernel
theorem dX3_peopleOut_4 : decode cX3_peopleOut 4 = .ok (.iload_n 3, 1) := by decide +kernel
theorem dX3_peopleOut_5 : decode cX3_peopleOut 5 = .ok (.aload_n 0, 1) := by decide +kernel
theorem dX3_peopleOut_6 : decode cX3_peopleOut 6 = .ok (.getfield 9, 3) := by decide +kernel
theorem dX3_peopleOut_9 : decode cX3_peopleOut 9 = .ok (.if_icmp .ge 24, 3) := by decide +kernel
theorem dX3_peopleOut_12 : decode cX3_peopleOut 12 = .ok (.iload_n 2, 1) := by decide +kernel
theorem dX3_peopleOut_13 : decode cX3_peopleOut 13 = .ok (.aload_n 0, 1) := by decide +kernel
theorem dX3_peopleOut_14 : decode cX3_peopleOut 14 = .ok (.getfield 28, 3) := by decide +kernel
theorem dX3_peopleOut_17 : decode cX3_peopleOut 17 = .ok (.iload_n 3, 1) := by decide +kernel
theorem dX3_peopleOut_18 : decode cX3_peopleOut 18 = .ok (.iaload, 1) := by decide +kernel
theorem dX3_peopleOut_19 : decode cX3_peopleOut 19 = .ok (.iload_n 1, 1) := by decide +kernel
theorem dX3_peopleOut_20 : decode cX3_peopleOut 20 = .ok (.ishr, 1) := by decide +kernel
theorem dX3_peopleOut_21 : decode cX3_peopleOut 21 = .ok (.iconst 1, 1) := by decide +kernel
theorem dX3_peopleOut_22 : decode cX3_peopleOut 22 = .ok (.iand, 1) := by decide +kernel
theorem dX3_peopleOut_23 : decode cX3_peopleOut 23 = .ok (.iload_n 3, 1) := by decide +kernel
theorem dX3_peopleOut_24 : decode cX3_peopleOut 24 = .ok (.ishl, 1) := by decide +kernel
theorem dX3_peopleOut_25 : decode cX3_peopleOut 25 = .ok (.ior, 1) := by decide +kernel
theorem dX3_peopleOut_26 : decode cX3_peopleOut 26 = .ok (.istore_n 2, 1) := by decide +kernel
theorem dX3_peopleOut_27 : decode cX3_peopleOut 27 = .ok (.iinc 3 1, 3) := by decide +kernel
theorem dX3_peopleOut_30 : decode cX3_peopleOut 30 = .ok (.goto (-26), 3) := by decide +kernel
theorem dX3_peopleOut_33 : decode cX3_peopleOut 33 = .ok (.iload_n 2, 1) := by decide +kernel
theorem dX3_peopleOut_34 : decode cX3_peopleOut 34 = .ok (.ireturn, 1) := by decide +kernel
set_option maxRecDepth 20000 in
theorem ggX3_emptyHours_X3_peopleOut : GoodIn wsX3_emptyHours wsX3_peopleOut := goodIn_r _ [5, 6, 7, 26, 27, 28, 29, 30, 31, 32, 33, 34, 35, 36] (by decide +kernel) (by decide +kernel)
set_option maxRecDepth 20000 in
theorem gX3_emptyHours_X3_peopleOut : GoodIn wsX3_emptyHours (wsV RX3 69 RX3 yX3_peopleOut wsX3_peopleOut) := goodIn_app (goodIn_of _ (by decide +kernel)) ggX3_emptyHours_X3_peopleOut
set_option maxRecDepth 20000 in
theorem ggX3_emptyHours_X3_countsAsEmpty : GoodIn wsX3_emptyHours wsX3_countsAsEmpty := goodIn_r _ [11, 12, 13, 14, 15, 4, 16, 17, 18, 19, 20, 21, 22, 23, 24, 25, 26, 27, 28, 29, 30, 31, 32, 33, 34, 35, 36] (by decide +kernel) (by decide +kernel)
set_option maxRecDepth 20000 in
theorem gX3_emptyHours_X3_countsAsEmpty : GoodIn wsX3_emptyHours (wsV RX3 72 RX3 yX3_countsAsEmpty wsX3_countsAsEmpty) := goodIn_app (goodIn_of _ (by decide +kernel)) ggX3_emptyHours_X3_countsAsEmpty
theorem dX3_emptyHours_0 : decode cX3_emptyHours 0 = .ok (.iconst 0, 1) := by decide +kernel
theorem dX3_emptyHours_1 : decode cX3_emptyHours 1 = .ok (.istore_n 2, 1) := by decide +kernel
theorem dX3_emptyHours_2 : decode cX3_emptyHours 2 = .ok (.iconst 0, 1) := by decide +kernel
theorem dX3_emptyHours_3 : decode cX3_emptyHours 3 = .ok (.istore_n 3, 1) := by decide +kernel
theorem dX3_emptyHours_4 : decode cX3_emptyHours 4 = .ok (.iload_n 3, 1) := by decide +kernel
theorem dX3_emptyHours_5 : decode cX3_emptyHours 5 = .ok (.bipush 12, 2) := by decide +kernel
theorem dX3_emptyHours_7 : decode cX3_emptyHours 7 = .ok (.if_icmp .ge 29, 3) := by decide +kernel
theorem dX3_emptyHours_10 : decode cX3_emptyHours 10 = .ok (.aload_n 0, 1) := by decide +kernel
theorem dX3_emptyHours_11 : decode cX3_emptyHours 11 = .ok (.iload_n 1, 1) := by decide +kernel
theorem dX3_emptyHours_12 : decode cX3_emptyHours 12 = .ok (.iload_n 3, 1) := by decide +kernel
theorem dX3_emptyHours_13 : decode cX3_emptyHours 13 = .ok (.aload_n 0, 1) := by decide +kernel
theorem dX3_emptyHours_14 : decode cX3_emptyHours 14 = .ok (.iload_n 3, 1) := by decide +kernel
theorem dX3_emptyHours_15 : decode cX3_emptyHours 15 = .ok (.invokevirtual 69, 3) := by decide +kernel
theorem dX3_emptyHours_18 : decode cX3_emptyHours 18 = .ok (.invokevirtual 72, 3) := by decide +kernel
theorem dX3_emptyHours_21 : decode cX3_emptyHours 21 = .ok (.ifCond .eq 9, 3) := by decide +kernel
theorem dX3_emptyHours_24 : decode cX3_emptyHours 24 = .ok (.iload_n 2, 1) := by decide +kernel
theorem dX3_emptyHours_25 : decode cX3_emptyHours 25 = .ok (.iconst 1, 1) := by decide +kernel
theorem dX3_emptyHours_26 : decode cX3_emptyHours 26 = .ok (.iload_n 3, 1) := by decide +kernel
theorem dX3_emptyHours_27 : decode cX3_emptyHours 27 = .ok (.ishl, 1) := by decide +kernel
theorem dX3_emptyHours_28 : decode cX3_emptyHours 28 = .ok (.ior, 1) := by decide +kernel
theorem dX3_emptyHours_29 : decode cX3_emptyHours 29 = .ok (.istore_n 2, 1) := by decide +kernel
theorem dX3_emptyHours_30 : decode cX3_emptyHours 30 = .ok (.iinc 3 1, 3) := by decide +kernel
theorem dX3_emptyHours_33 : decode cX3_emptyHours 33 = .ok (.goto (-29), 3) := by decide +kernel
theorem dX3_emptyHours_36 : decode cX3_emptyHours 36 = .ok (.iload_n 2, 1) := by decide +kernel
theorem dX3_emptyHours_37 : decode cX3_emptyHours 37 = .ok (.ireturn, 1) := by decide +kernel
set_option maxRecDepth 20000 in
theorem ggX3_payableHours_X3_peopleOut : GoodIn wsX3_payableHours wsX3_peopleOut := goodIn_r _ [5, 6, 7, 32, 33, 34, 35, 36, 37, 38, 39, 40, 41, 42] (by decide +kernel) (by decide +kernel)
set_option maxRecDepth 20000 in
theorem gX3_payableHours_X3_peopleOut : GoodIn wsX3_payableHours (wsV RX3 69 RX3 yX3_peopleOut wsX3_peopleOut) := goodIn_app (goodIn_of _ (by decide +kernel)) ggX3_payableHours_X3_peopleOut
set_option maxRecDepth 20000 in
theorem ggX3_payableHours_X3_isPayable : GoodIn wsX3_payableHours wsX3_isPayable := goodIn_r _ [11, 12, 13, 14, 15, 4, 16, 17, 18, 19, 20, 21, 22, 23, 24, 25, 26, 27, 28, 29, 30, 31, 32, 33, 34, 35, 36, 37, 38, 39, 40, 41, 42] (by decide +kernel) (by decide +kernel)
set_option maxRecDepth 20000 in
theorem gX3_payableHours_X3_isPayable : GoodIn wsX3_payableHours (wsV RX3 76 RX3 yX3_isPayable wsX3_isPayable) := goodIn_app (goodIn_of _ (by decide +kernel)) ggX3_payableHours_X3_isPayable
theorem dX3_payableHours_0 : decode cX3_payableHours 0 = .ok (.iconst 0, 1) := by decide +kernel
theorem dX3_payableHours_1 : decode cX3_payableHours 1 = .ok (.istore_n 2, 1) := by decide +kernel
theorem dX3_payableHours_2 : decode cX3_payableHours 2 = .ok (.iconst 0, 1) := by decide +kernel
theorem dX3_payableHours_3 : decode cX3_payableHours 3 = .ok (.istore_n 3, 1) := by decide +kernel
theorem dX3_payableHours_4 : decode cX3_payableHours 4 = .ok (.iload_n 3, 1) := by decide +kernel
theorem dX3_payableHours_5 : decode cX3_payableHours 5 = .ok (.bipush 12, 2) := by decide +kernel
theorem dX3_payableHours_7 : decode cX3_payableHours 7 = .ok (.if_icmp .ge 29, 3) := by decide +kernel
theorem dX3_payableHours_10 : decode cX3_payableHours 10 = .ok (.aload_n 0, 1) := by decide +kernel
theorem dX3_payableHours_11 : decode cX3_payableHours 11 = .ok (.iload_n 1, 1) := by decide +kernel
theorem dX3_payableHours_12 : decode cX3_payableHours 12 = .ok (.iload_n 3, 1) := by decide +kernel
theorem dX3_payableHours_13 : decode cX3_payableHours 13 = .ok (.aload_n 0, 1) := by decide +kernel
theorem dX3_payableHours_14 : decode cX3_payableHours 14 = .ok (.iload_n 3, 1) := by decide +kernel
theorem dX3_payableHours_15 : decode cX3_payableHours 15 = .ok (.invokevirtual 69, 3) := by decide +kernel
theorem dX3_payableHours_18 : decode cX3_payableHours 18 = .ok (.invokevirtual 76, 3) := by decide +kernel
theorem dX3_payableHours_21 : decode cX3_payableHours 21 = .ok (.ifCond .eq 9, 3) := by decide +kernel
theorem dX3_payableHours_24 : decode cX3_payableHours 24 = .ok (.iload_n 2, 1) := by decide +kernel
theorem dX3_payableHours_25 : decode cX3_payableHours 25 = .ok (.iconst 1, 1) := by decide +kernel
theorem dX3_payableHours_26 : decode cX3_payableHours 26 = .ok (.iload_n 3, 1) := by decide +kernel
theorem dX3_payableHours_27 : decode cX3_payableHours 27 = .ok (.ishl, 1) := by decide +kernel
theorem dX3_payableHours_28 : decode cX3_payableHours 28 = .ok (.ior, 1) := by decide +kernel
theorem dX3_payableHours_29 : decode cX3_payableHours 29 = .ok (.istore_n 2, 1) := by decide +kernel
theorem dX3_payableHours_30 : decode cX3_payableHours 30 = .ok (.iinc 3 1, 3) := by decide +kernel
theorem dX3_payableHours_33 : decode cX3_payableHours 33 = .ok (.goto (-29), 3) := by decide +kernel
theorem dX3_payableHours_36 : decode cX3_payableHours 36 = .ok (.iload_n 2, 1) := by decide +kernel
theorem dX3_payableHours_37 : decode cX3_payableHours 37 = .ok (.ireturn, 1) := by decide +kernel
set_option maxRecDepth 20000 in
theorem ggX3_payableDebts_X3_isPayable : GoodIn wsX3_payableDebts wsX3_isPayable := goodIn_r _ [6, 7, 8, 9, 10, 5, 11, 12, 13, 14, 15, 16, 17, 18, 19, 20, 21, 22, 23, 24, 25, 26, 27, 28, 29, 30, 31, 32, 33, 34, 35, 36, 37] (by decide +kernel) (by decide +kernel)
set_option maxRecDepth 20000 in
theorem gX3_payableDebts_X3_isPayable : GoodIn wsX3_payableDebts (wsV RX3 76 RX3 yX3_isPayable wsX3_isPayable) := goodIn_app (goodIn_of _ (by decide +kernel)) ggX3_payableDebts_X3_isPayable
theorem dX3_payableDebts_0 : decode cX3_payableDebts 0 = .ok (.iconst 0, 1) := by decide +kernel
theorem dX3_payableDebts_1 : decode cX3_payableDebts 1 = .ok (.istore_n 3, 1) := by decide +kernel
theorem dX3_payableDebts_2 : decode cX3_payableDebts 2 = .ok (.iconst 0, 1) := by decide +kernel
theorem dX3_payableDebts_3 : decode cX3_payableDebts 3 = .ok (.istore 4, 2) := by decide +kernel
theorem dX3_payableDebts_5 : decode cX3_payableDebts 5 = .ok (.iload 4, 2) := by decide +kernel
theorem dX3_payableDebts_7 : decode cX3_payableDebts 7 = .ok (.aload_n 0, 1) := by decide +kernel
theorem dX3_payableDebts_8 : decode cX3_payableDebts 8 = .ok (.getfield 15, 3) := by decide +kernel
theorem dX3_payableDebts_11 : decode cX3_payableDebts 11 = .ok (.if_icmp .ge 27, 3) := by decide +kernel
theorem dX3_payableDebts_14 : decode cX3_payableDebts 14 = .ok (.aload_n 0, 1) := by decide +kernel
theorem dX3_payableDebts_15 : decode cX3_payableDebts 15 = .ok (.iload 4, 2) := by decide +kernel
theorem dX3_payableDebts_17 : decode cX3_payableDebts 17 = .ok (.iload_n 1, 1) := by decide +kernel
theorem dX3_payableDebts_18 : decode cX3_payableDebts 18 = .ok (.iload_n 2, 1) := by decide +kernel
theorem dX3_payableDebts_19 : decode cX3_payableDebts 19 = .ok (.invokevirtual 76, 3) := by decide +kernel
theorem dX3_payableDebts_22 : decode cX3_payableDebts 22 = .ok (.ifCond .eq 10, 3) := by decide +kernel
theorem dX3_payableDebts_25 : decode cX3_payableDebts 25 = .ok (.iload_n 3, 1) := by decide +kernel
theorem dX3_payableDebts_26 : decode cX3_payableDebts 26 = .ok (.iconst 1, 1) := by decide +kernel
theorem dX3_payableDebts_27 : decode cX3_payableDebts 27 = .ok (.iload 4, 2) := by decide +kernel
theorem dX3_payableDebts_29 : decode cX3_payableDebts 29 = .ok (.ishl, 1) := by decide +kernel
theorem dX3_payableDebts_30 : decode cX3_payableDebts 30 = .ok (.ior, 1) := by decide +kernel
theorem dX3_payableDebts_31 : decode cX3_payableDebts 31 = .ok (.istore_n 3, 1) := by decide +kernel
theorem dX3_payableDebts_32 : decode cX3_payableDebts 32 = .ok (.iinc 4 1, 3) := by decide +kernel
theorem dX3_payableDebts_35 : decode cX3_payableDebts 35 = .ok (.goto (-30), 3) := by decide +kernel
theorem dX3_payableDebts_38 : decode cX3_payableDebts 38 = .ok (.iload_n 3, 1) := by decide +kernel
theorem dX3_payableDebts_39 : decode cX3_payableDebts 39 = .ok (.ireturn, 1) := by decide +kernel
set_option maxRecDepth 20000 in
theorem ggX3_isPayable_X3_holds : GoodIn wsX3_isPayable wsX3_holds := goodIn_r _ [6] (by decide +kernel) (by decide +kernel)
set_option maxRecDepth 20000 in
theorem gX3_isPayable_X3_holds : GoodIn wsX3_isPayable (va_wsS RX3 79 yX3_holds wsX3_holds) := goodIn_app (goodIn_of _ (by decide +kernel)) ggX3_isPayable_X3_holds
set_option maxRecDepth 20000 in
theorem ggX3_isPayable_X3_countsAsEmpty : GoodIn wsX3_isPayable wsX3_countsAsEmpty := goodIn_r _ [10, 11, 12, 13, 14, 5, 15, 16, 17, 3, 4, 6, 18, 19, 20, 21, 22, 23, 24, 25, 26, 27, 28, 29, 30, 31, 32] (by decide +kernel) (by decide +kernel)
set_option maxRecDepth 20000 in
theorem gX3_isPayable_X3_countsAsEmpty : GoodIn wsX3_isPayable (wsV RX3 72 RX3 yX3_countsAsEmpty wsX3_countsAsEmpty) := goodIn_app (goodIn_of _ (by decide +kernel)) ggX3_isPayable_X3_countsAsEmpty
theorem dX3_isPayable_0 : decode cX3_isPayable 0 = .ok (.iload_n 3, 1) := by decide +kernel
theorem dX3_isPayable_1 : decode cX3_isPayable 1 = .ok (.aload_n 0, 1) := by decide +kernel
theorem dX3_isPayable_2 : decode cX3_isPayable 2 = .ok (.getfield 34, 3) := by decide +kernel
theorem dX3_isPayable_5 : decode cX3_isPayable 5 = .ok (.iload_n 1, 1) := by decide +kernel
theorem dX3_isPayable_6 : decode cX3_isPayable 6 = .ok (.iaload, 1) := by decide +kernel
theorem dX3_isPayable_7 : decode cX3_isPayable 7 = .ok (.invokestatic 79, 3) := by decide +kernel
theorem dX3_isPayable_10 : decode cX3_isPayable 10 = .ok (.ifCond .eq 22, 3) := by decide +kernel
theorem dX3_isPayable_13 : decode cX3_isPayable 13 = .ok (.aload_n 0, 1) := by decide +kernel
theorem dX3_isPayable_14 : decode cX3_isPayable 14 = .ok (.aload_n 0, 1) := by decide +kernel
theorem dX3_isPayable_15 : decode cX3_isPayable 15 = .ok (.getfield 37, 3) := by decide +kernel
theorem dX3_isPayable_18 : decode cX3_isPayable 18 = .ok (.iload_n 1, 1) := by decide +kernel
theorem dX3_isPayable_19 : decode cX3_isPayable 19 = .ok (.iaload, 1) := by decide +kernel
theorem dX3_isPayable_20 : decode cX3_isPayable 20 = .ok (.iload_n 2, 1) := by decide +kernel
theorem dX3_isPayable_21 : decode cX3_isPayable 21 = .ok (.iload_n 3, 1) := by decide +kernel
theorem dX3_isPayable_22 : decode cX3_isPayable 22 = .ok (.invokevirtual 72, 3) := by decide +kernel
theorem dX3_isPayable_25 : decode cX3_isPayable 25 = .ok (.ifCond .eq 7, 3) := by decide +kernel
theorem dX3_isPayable_28 : decode cX3_isPayable 28 = .ok (.iconst 1, 1) := by decide +kernel
theorem dX3_isPayable_29 : decode cX3_isPayable 29 = .ok (.goto 4, 3) := by decide +kernel
theorem dX3_isPayable_32 : decode cX3_isPayable 32 = .ok (.iconst 0, 1) := by decide +kernel
theorem dX3_isPayable_33 : decode cX3_isPayable 33 = .ok (.ireturn, 1) := by decide +kernel
set_option maxRecDepth 20000 in
theorem ggX3_countsAsEmpty_X3_isLeft : GoodIn wsX3_countsAsEmpty wsX3_isLeft := goodIn_r _ [6, 7, 8, 9, 10, 5, 11, 16, 17, 18, 19, 20, 21, 22, 23, 24, 25, 26] (by decide +kernel) (by decide +kernel)
set_option maxRecDepth 20000 in
theorem gX3_countsAsEmpty_X3_isLeft : GoodIn wsX3_countsAsEmpty (wsV RX3 82 RX3 yX3_isLeft wsX3_isLeft) := goodIn_app (goodIn_of _ (by decide +kernel)) ggX3_countsAsEmpty_X3_isLeft
set_option maxRecDepth 20000 in
theorem ggX3_countsAsEmpty_X3_dogHours : GoodIn wsX3_countsAsEmpty wsX3_dogHours := goodIn_r _ [15, 7, 16, 17, 18, 19, 20, 21, 22, 23, 24, 25, 26] (by decide +kernel) (by decide +kernel)
set_option maxRecDepth 20000 in
theorem gX3_countsAsEmpty_X3_dogHours : GoodIn wsX3_countsAsEmpty (wsV RX3 50 RX3 yX3_dogHours wsX3_dogHours) := goodIn_app (goodIn_of _ (by decide +kernel)) ggX3_countsAsEmpty_X3_dogHours
set_option maxRecDepth 20000 in
theorem ggX3_countsAsEmpty_X3_holds : GoodIn wsX3_countsAsEmpty wsX3_holds := goodIn_r _ [11] (by decide +kernel) (by decide +kernel)
set_option maxRecDepth 20000 in
theorem gX3_countsAsEmpty_X3_holds : GoodIn wsX3_countsAsEmpty (va_wsS RX3 79 yX3_holds wsX3_holds) := goodIn_app (goodIn_of _ (by decide +kernel)) ggX3_countsAsEmpty_X3_holds
theorem dX3_countsAsEmpty_0 : decode cX3_countsAsEmpty 0 = .ok (.aload_n 0, 1) := by decide +kernel
theorem dX3_countsAsEmpty_1 : decode cX3_countsAsEmpty 1 = .ok (.iload_n 1, 1) := by decide +kernel
theorem dX3_countsAsEmpty_2 : decode cX3_countsAsEmpty 2 = .ok (.iload_n 3, 1) := by decide +kernel
theorem dX3_countsAsEmpty_3 : decode cX3_countsAsEmpty 3 = .ok (.invokevirtual 82, 3) := by decide +kernel
theorem dX3_countsAsEmpty_6 : decode cX3_countsAsEmpty 6 = .ok (.istore 4, 2) := by decide +kernel
theorem dX3_countsAsEmpty_8 : decode cX3_countsAsEmpty 8 = .ok (.aload_n 0, 1) := by decide +kernel
theorem dX3_countsAsEmpty_9 : decode cX3_countsAsEmpty 9 = .ok (.getfield 18, 3) := by decide +kernel
theorem dX3_countsAsEmpty_12 : decode cX3_countsAsEmpty 12 = .ok (.tableswitch 79 1 3 #[28, 51, 68], 28) := by decide +kernel
theorem dX3_countsAsEmpty_40 : decode cX3_countsAsEmpty 40 = .ok (.iload 4, 2) := by decide +kernel
theorem dX3_countsAsEmpty_42 : decode cX3_countsAsEmpty 42 = .ok (.ifCond .eq 19, 3) := by decide +kernel
theorem dX3_countsAsEmpty_45 : decode cX3_countsAsEmpty 45 = .ok (.aload_n 0, 1) := by decide +kernel
theorem dX3_countsAsEmpty_46 : decode cX3_countsAsEmpty 46 = .ok (.iload_n 1, 1) := by decide +kernel
theorem dX3_countsAsEmpty_47 : decode cX3_countsAsEmpty 47 = .ok (.invokevirtual 50, 3) := by decide +kernel
theorem dX3_countsAsEmpty_50 : decode cX3_countsAsEmpty 50 = .ok (.iload_n 2, 1) := by decide +kernel
theorem dX3_countsAsEmpty_51 : decode cX3_countsAsEmpty 51 = .ok (.invokestatic 79, 3) := by decide +kernel
theorem dX3_countsAsEmpty_54 : decode cX3_countsAsEmpty 54 = .ok (.ifCond .ne 7, 3) := by decide +kernel
theorem dX3_countsAsEmpty_57 : decode cX3_countsAsEmpty 57 = .ok (.iconst 1, 1) := by decide +kernel
theorem dX3_countsAsEmpty_58 : decode cX3_countsAsEmpty 58 = .ok (.goto 4, 3) := by decide +kernel
theorem dX3_countsAsEmpty_61 : decode cX3_countsAsEmpty 61 = .ok (.iconst 0, 1) := by decide +kernel
theorem dX3_countsAsEmpty_62 : decode cX3_countsAsEmpty 62 = .ok (.ireturn, 1) := by decide +kernel
theorem dX3_countsAsEmpty_63 : decode cX3_countsAsEmpty 63 = .ok (.iload 4, 2) := by decide +kernel
theorem dX3_countsAsEmpty_65 : decode cX3_countsAsEmpty 65 = .ok (.ifCond .eq 13, 3) := by decide +kernel
theorem dX3_countsAsEmpty_68 : decode cX3_countsAsEmpty 68 = .ok (.iload_n 2, 1) := by decide +kernel
theorem dX3_countsAsEmpty_69 : decode cX3_countsAsEmpty 69 = .ok (.bipush 8, 2) := by decide +kernel
theorem dX3_countsAsEmpty_71 : decode cX3_countsAsEmpty 71 = .ok (.if_icmp .lt 7, 3) := by decide +kernel
theorem dX3_countsAsEmpty_74 : decode cX3_countsAsEmpty 74 = .ok (.iconst 1, 1) := by decide +kernel
theorem dX3_countsAsEmpty_75 : decode cX3_countsAsEmpty 75 = .ok (.goto 4, 3) := by decide +kernel
theorem dX3_countsAsEmpty_78 : decode cX3_countsAsEmpty 78 = .ok (.iconst 0, 1) := by decide +kernel
theorem dX3_countsAsEmpty_79 : decode cX3_countsAsEmpty 79 = .ok (.ireturn, 1) := by decide +kernel
theorem dX3_countsAsEmpty_80 : decode cX3_countsAsEmpty 80 = .ok (.iload 4, 2) := by decide +kernel
theorem dX3_countsAsEmpty_82 : decode cX3_countsAsEmpty 82 = .ok (.ifCond .ne 7, 3) := by decide +kernel
theorem dX3_countsAsEmpty_85 : decode cX3_countsAsEmpty 85 = .ok (.iconst 1, 1) := by decide +kernel
theorem dX3_countsAsEmpty_86 : decode cX3_countsAsEmpty 86 = .ok (.goto 4, 3) := by decide +kernel
theorem dX3_countsAsEmpty_89 : decode cX3_countsAsEmpty 89 = .ok (.iconst 0, 1) := by decide +kernel
theorem dX3_countsAsEmpty_90 : decode cX3_countsAsEmpty 90 = .ok (.ireturn, 1) := by decide +kernel
theorem dX3_countsAsEmpty_91 : decode cX3_countsAsEmpty 91 = .ok (.iload 4, 2) := by decide +kernel
theorem dX3_countsAsEmpty_93 : decode cX3_countsAsEmpty 93 = .ok (.ireturn, 1) := by decide +kernel
set_option maxRecDepth 20000 in
theorem ggX3_isLeft_X3_holds : GoodIn wsX3_isLeft wsX3_holds := goodIn_r _ [6] (by decide +kernel) (by decide +kernel)
set_option maxRecDepth 20000 in
theorem gX3_isLeft_X3_holds : GoodIn wsX3_isLeft (va_wsS RX3 79 yX3_holds wsX3_holds) := goodIn_app (goodIn_of _ (by decide +kernel)) ggX3_isLeft_X3_holds
theorem dX3_isLeft_0 : decode cX3_isLeft 0 = .ok (.aload_n 0, 1) := by decide +kernel
theorem dX3_isLeft_1 : decode cX3_isLeft 1 = .ok (.getfield 21, 3) := by decide +kernel
theorem dX3_isLeft_4 : decode cX3_isLeft 4 = .ok (.iload_n 1, 1) := by decide +kernel
theorem dX3_isLeft_5 : decode cX3_isLeft 5 = .ok (.iaload, 1) := by decide +kernel
theorem dX3_isLeft_6 : decode cX3_isLeft 6 = .ok (.tableswitch 82 2 4 #[26, 28, 55], 26) := by decide +kernel
theorem dX3_isLeft_32 : decode cX3_isLeft 32 = .ok (.iconst 0, 1) := by decide +kernel
theorem dX3_isLeft_33 : decode cX3_isLeft 33 = .ok (.ireturn, 1) := by decide +kernel
theorem dX3_isLeft_34 : decode cX3_isLeft 34 = .ok (.iload_n 2, 1) := by decide +kernel
theorem dX3_isLeft_35 : decode cX3_isLeft 35 = .ok (.iload_n 1, 1) := by decide +kernel
theorem dX3_isLeft_36 : decode cX3_isLeft 36 = .ok (.invokestatic 79, 3) := by decide +kernel
theorem dX3_isLeft_39 : decode cX3_isLeft 39 = .ok (.ifCond .eq 20, 3) := by decide +kernel
theorem dX3_isLeft_42 : decode cX3_isLeft 42 = .ok (.iload_n 2, 1) := by decide +kernel
theorem dX3_isLeft_43 : decode cX3_isLeft 43 = .ok (.aload_n 0, 1) := by decide +kernel
theorem dX3_isLeft_44 : decode cX3_isLeft 44 = .ok (.getfield 25, 3) := by decide +kernel
theorem dX3_isLeft_47 : decode cX3_isLeft 47 = .ok (.iload_n 1, 1) := by decide +kernel
theorem dX3_isLeft_48 : decode cX3_isLeft 48 = .ok (.iaload, 1) := by decide +kernel
theorem dX3_isLeft_49 : decode cX3_isLeft 49 = .ok (.invokestatic 79, 3) := by decide +kernel
theorem dX3_isLeft_52 : decode cX3_isLeft 52 = .ok (.ifCond .eq 7, 3) := by decide +kernel
theorem dX3_isLeft_55 : decode cX3_isLeft 55 = .ok (.iconst 1, 1) := by decide +kernel
theorem dX3_isLeft_56 : decode cX3_isLeft 56 = .ok (.goto 4, 3) := by decide +kernel
theorem dX3_isLeft_59 : decode cX3_isLeft 59 = .ok (.iconst 0, 1) := by decide +kernel
theorem dX3_isLeft_60 : decode cX3_isLeft 60 = .ok (.ireturn, 1) := by decide +kernel
theorem dX3_isLeft_61 : decode cX3_isLeft 61 = .ok (.iload_n 2, 1) := by decide +kernel
theorem dX3_isLeft_62 : decode cX3_isLeft 62 = .ok (.iload_n 1, 1) := by decide +kernel
theorem dX3_isLeft_63 : decode cX3_isLeft 63 = .ok (.invokestatic 79, 3) := by decide +kernel
theorem dX3_isLeft_66 : decode cX3_isLeft 66 = .ok (.ifCond .ne 16, 3) := by decide +kernel
theorem dX3_isLeft_69 : decode cX3_isLeft 69 = .ok (.iload_n 2, 1) := by decide +kernel
theorem dX3_isLeft_70 : decode cX3_isLeft 70 = .ok (.aload_n 0, 1) := by decide +kernel
theorem dX3_isLeft_71 : decode cX3_isLeft 71 = .ok (.getfield 25, 3) := by decide +kernel
theorem dX3_isLeft_74 : decode cX3_isLeft 74 = .ok (.iload_n 1, 1) := by decide +kernel
theorem dX3_isLeft_75 : decode cX3_isLeft 75 = .ok (.iaload, 1) := by decide +kernel
theorem dX3_isLeft_76 : decode cX3_isLeft 76 = .ok (.invokestatic 79, 3) := by decide +kernel
theorem dX3_isLeft_79 : decode cX3_isLeft 79 = .ok (.ifCond .eq 7, 3) := by decide +kernel
theorem dX3_isLeft_82 : decode cX3_isLeft 82 = .ok (.iconst 1, 1) := by decide +kernel
theorem dX3_isLeft_83 : decode cX3_isLeft 83 = .ok (.goto 4, 3) := by decide +kernel
theorem dX3_isLeft_86 : decode cX3_isLeft 86 = .ok (.iconst 0, 1) := by decide +kernel
theorem dX3_isLeft_87 : decode cX3_isLeft 87 = .ok (.ireturn, 1) := by decide +kernel
theorem dX3_isLeft_88 : decode cX3_isLeft 88 = .ok (.iload_n 2, 1) := by decide +kernel
theorem dX3_isLeft_89 : decode cX3_isLeft 89 = .ok (.iload_n 1, 1) := by decide +kernel
theorem dX3_isLeft_90 : decode cX3_isLeft 90 = .ok (.invokestatic 79, 3) := by decide +kernel
theorem dX3_isLeft_93 : decode cX3_isLeft 93 = .ok (.ireturn, 1) := by decide +kernel
theorem dX3_holds_0 : decode cX3_holds 0 = .ok (.iload_n 0, 1) := by decide +kernel
theorem dX3_holds_1 : decode cX3_holds 1 = .ok (.iload_n 1, 1) := by decide +kernel
theorem dX3_holds_2 : decode cX3_holds 2 = .ok (.ishr, 1) := by decide +kernel
theorem dX3_holds_3 : decode cX3_holds 3 = .ok (.iconst 1, 1) := by decide +kernel
theorem dX3_holds_4 : decode cX3_holds 4 = .ok (.iand, 1) := by decide +kernel
theorem dX3_holds_5 : decode cX3_holds 5 = .ok (.iconst 1, 1) := by decide +kernel
theorem dX3_holds_6 : decode cX3_holds 6 = .ok (.if_icmp .ne 7, 3) := by decide +kernel
theorem dX3_holds_9 : decode cX3_holds 9 = .ok (.iconst 1, 1) := by decide +kernel
theorem dX3_holds_10 : decode cX3_holds 10 = .ok (.goto 4, 3) := by decide +kernel
theorem dX3_holds_13 : decode cX3_holds 13 = .ok (.iconst 0, 1) := by decide +kernel
theorem dX3_holds_14 : decode cX3_holds 14 = .ok (.ireturn, 1) := by decide +kernel
theorem dX3_provesOut_0 : decode cX3_provesOut 0 = .ok (.aload_n 0, 1) := by decide +kernel
theorem dX3_provesOut_1 : decode cX3_provesOut 1 = .ok (.getfield 18, 3) := by decide +kernel
theorem dX3_provesOut_4 : decode cX3_provesOut 4 = .ok (.iconst 3, 1) := by decide +kernel
theorem dX3_provesOut_5 : decode cX3_provesOut 5 = .ok (.if_icmp .eq 23, 3) := by decide +kernel
theorem dX3_provesOut_8 : decode cX3_provesOut 8 = .ok (.aload_n 0, 1) := by decide +kernel
theorem dX3_provesOut_9 : decode cX3_provesOut 9 = .ok (.getfield 21, 3) := by decide +kernel
theorem dX3_provesOut_12 : decode cX3_provesOut 12 = .ok (.iload_n 1, 1) := by decide +kernel
theorem dX3_provesOut_13 : decode cX3_provesOut 13 = .ok (.iaload, 1) := by decide +kernel
theorem dX3_provesOut_14 : decode cX3_provesOut 14 = .ok (.iconst 2, 1) := by decide +kernel
theorem dX3_provesOut_15 : decode cX3_provesOut 15 = .ok (.if_icmp .eq 13, 3) := by decide +kernel
theorem dX3_provesOut_18 : decode cX3_provesOut 18 = .ok (.aload_n 0, 1) := by decide +kernel
theorem dX3_provesOut_19 : decode cX3_provesOut 19 = .ok (.getfield 21, 3) := by decide +kernel
theorem dX3_provesOut_22 : decode cX3_provesOut 22 = .ok (.iload_n 1, 1) := by decide +kernel
theorem dX3_provesOut_23 : decode cX3_provesOut 23 = .ok (.iaload, 1) := by decide +kernel
theorem dX3_provesOut_24 : decode cX3_provesOut 24 = .ok (.iconst 4, 1) := by decide +kernel
theorem dX3_provesOut_25 : decode cX3_provesOut 25 = .ok (.if_icmp .ne 5, 3) := by decide +kernel
theorem dX3_provesOut_28 : decode cX3_provesOut 28 = .ok (.iconst 0, 1) := by decide +kernel
theorem dX3_provesOut_29 : decode cX3_provesOut 29 = .ok (.ireturn, 1) := by decide +kernel
theorem dX3_provesOut_30 : decode cX3_provesOut 30 = .ok (.iload_n 1, 1) := by decide +kernel
theorem dX3_provesOut_31 : decode cX3_provesOut 31 = .ok (.iload_n 2, 1) := by decide +kernel
theorem dX3_provesOut_32 : decode cX3_provesOut 32 = .ok (.if_icmp .eq 23, 3) := by decide +kernel
theorem dX3_provesOut_35 : decode cX3_provesOut 35 = .ok (.aload_n 0, 1) := by decide +kernel
theorem dX3_provesOut_36 : decode cX3_provesOut 36 = .ok (.getfield 21, 3) := by decide +kernel
theorem dX3_provesOut_39 : decode cX3_provesOut 39 = .ok (.iload_n 1, 1) := by decide +kernel
theorem dX3_provesOut_40 : decode cX3_provesOut 40 = .ok (.iaload, 1) := by decide +kernel
theorem dX3_provesOut_41 : decode cX3_provesOut 41 = .ok (.iconst 3, 1) := by decide +kernel
theorem dX3_provesOut_42 : decode cX3_provesOut 42 = .ok (.if_icmp .ne 17, 3) := by decide +kernel
theorem dX3_provesOut_45 : decode cX3_provesOut 45 = .ok (.aload_n 0, 1) := by decide +kernel
theorem dX3_provesOut_46 : decode cX3_provesOut 46 = .ok (.getfield 25, 3) := by decide +kernel
theorem dX3_provesOut_49 : decode cX3_provesOut 49 = .ok (.iload_n 1, 1) := by decide +kernel
theorem dX3_provesOut_50 : decode cX3_provesOut 50 = .ok (.iaload, 1) := by decide +kernel
theorem dX3_provesOut_51 : decode cX3_provesOut 51 = .ok (.iload_n 2, 1) := by decide +kernel
theorem dX3_provesOut_52 : decode cX3_provesOut 52 = .ok (.if_icmp .ne 7, 3) := by decide +kernel
theorem dX3_provesOut_55 : decode cX3_provesOut 55 = .ok (.iconst 1, 1) := by decide +kernel
theorem dX3_provesOut_56 : decode cX3_provesOut 56 = .ok (.goto 4, 3) := by decide +kernel
theorem dX3_provesOut_59 : decode cX3_provesOut 59 = .ok (.iconst 0, 1) := by decide +kernel
theorem dX3_provesOut_60 : decode cX3_provesOut 60 = .ok (.ireturn, 1) := by decide +kernel
theorem dX3_clash_0 : decode cX3_clash 0 = .ok (.aload_n 0, 1) := by decide +kernel
theorem dX3_clash_1 : decode cX3_clash 1 = .ok (.getfield 34, 3) := by decide +kernel
theorem dX3_clash_4 : decode cX3_clash 4 = .ok (.iload_n 1, 1) := by decide +kernel
theorem dX3_clash_5 : decode cX3_clash 5 = .ok (.iaload, 1) := by decide +kernel
theorem dX3_clash_6 : decode cX3_clash 6 = .ok (.aload_n 0, 1) := by decide +kernel
theorem dX3_clash_7 : decode cX3_clash 7 = .ok (.getfield 34, 3) := by decide +kernel
theorem dX3_clash_10 : decode cX3_clash 10 = .ok (.iload_n 2, 1) := by decide +kernel
theorem dX3_clash_11 : decode cX3_clash 11 = .ok (.iaload, 1) := by decide +kernel
theorem dX3_clash_12 : decode cX3_clash 12 = .ok (.if_icmp .eq 18, 3) := by decide +kernel
theorem dX3_clash_15 : decode cX3_clash 15 = .ok (.aload_n 0, 1) := by decide +kernel
theorem dX3_clash_16 : decode cX3_clash 16 = .ok (.getfield 37, 3) := by decide +kernel
theorem dX3_clash_19 : decode cX3_clash 19 = .ok (.iload_n 1, 1) := by decide +kernel
theorem dX3_clash_20 : decode cX3_clash 20 = .ok (.iaload, 1) := by decide +kernel
theorem dX3_clash_21 : decode cX3_clash 21 = .ok (.aload_n 0, 1) := by decide +kernel
theorem dX3_clash_22 : decode cX3_clash 22 = .ok (.getfield 37, 3) := by decide +kernel
theorem dX3_clash_25 : decode cX3_clash 25 = .ok (.iload_n 2, 1) := by decide +kernel
theorem dX3_clash_26 : decode cX3_clash 26 = .ok (.iaload, 1) := by decide +kernel
theorem dX3_clash_27 : decode cX3_clash 27 = .ok (.if_icmp .ne 7, 3) := by decide +kernel
theorem dX3_clash_30 : decode cX3_clash 30 = .ok (.iconst 1, 1) := by decide +kernel
theorem dX3_clash_31 : decode cX3_clash 31 = .ok (.goto 4, 3) := by decide +kernel
theorem dX3_clash_34 : decode cX3_clash 34 = .ok (.iconst 0, 1) := by decide +kernel
theorem dX3_clash_35 : decode cX3_clash 35 = .ok (.ireturn, 1) := by decide +kernel
theorem dX3_oweOneAnother_0 : decode cX3_oweOneAnother 0 = .ok (.aload_n 0, 1) := by decide +kernel
theorem dX3_oweOneAnother_1 : decode cX3_oweOneAnother 1 = .ok (.getfield 34, 3) := by decide +kernel
theorem dX3_oweOneAnother_4 : decode cX3_oweOneAnother 4 = .ok (.iload_n 1, 1) := by decide +kernel
theorem dX3_oweOneAnother_5 : decode cX3_oweOneAnother 5 = .ok (.iaload, 1) := by decide +kernel
theorem dX3_oweOneAnother_6 : decode cX3_oweOneAnother 6 = .ok (.aload_n 0, 1) := by decide +kernel
theorem dX3_oweOneAnother_7 : decode cX3_oweOneAnother 7 = .ok (.getfield 37, 3) := by decide +kernel
theorem dX3_oweOneAnother_10 : decode cX3_oweOneAnother 10 = .ok (.iload_n 2, 1) := by decide +kernel
theorem dX3_oweOneAnother_11 : decode cX3_oweOneAnother 11 = .ok (.iaload, 1) := by decide +kernel
theorem dX3_oweOneAnother_12 : decode cX3_oweOneAnother 12 = .ok (.if_icmp .ne 22, 3) := by decide +kernel
theorem dX3_oweOneAnother_15 : decode cX3_oweOneAnother 15 = .ok (.aload_n 0, 1) := by decide +kernel
theorem dX3_oweOneAnother_16 : decode cX3_oweOneAnother 16 = .ok (.getfield 37, 3) := by decide +kernel
theorem dX3_oweOneAnother_19 : decode cX3_oweOneAnother 19 = .ok (.iload_n 1, 1) := by decide +kernel
theorem dX3_oweOneAnother_20 : decode cX3_oweOneAnother 20 = .ok (.iaload, 1) := by decide +kernel
theorem dX3_oweOneAnother_21 : decode cX3_oweOneAnother 21 = .ok (.aload_n 0, 1) := by decide +kernel
theorem dX3_oweOneAnother_22 : decode cX3_oweOneAnother 22 = .ok (.getfield 34, 3) := by decide +kernel
theorem dX3_oweOneAnother_25 : decode cX3_oweOneAnother 25 = .ok (.iload_n 2, 1) := by decide +kernel
theorem dX3_oweOneAnother_26 : decode cX3_oweOneAnother 26 = .ok (.iaload, 1) := by decide +kernel
theorem dX3_oweOneAnother_27 : decode cX3_oweOneAnother 27 = .ok (.if_icmp .ne 7, 3) := by decide +kernel
theorem dX3_oweOneAnother_30 : decode cX3_oweOneAnother 30 = .ok (.iconst 1, 1) := by decide +kernel
theorem dX3_oweOneAnother_31 : decode cX3_oweOneAnother 31 = .ok (.goto 4, 3) := by decide +kernel
theorem dX3_oweOneAnother_34 : decode cX3_oweOneAnother 34 = .ok (.iconst 0, 1) := by decide +kernel
theorem dX3_oweOneAnother_35 : decode cX3_oweOneAnother 35 = .ok (.ireturn, 1) := by decide +kernel
theorem dX3_cost_0 : decode cX3_cost 0 = .ok (.aload_n 0, 1) := by decide +kernel
theorem dX3_cost_1 : decode cX3_cost 1 = .ok (.getfield 40, 3) := by decide +kernel
theorem dX3_cost_4 : decode cX3_cost 4 = .ok (.iload_n 1, 1) := by decide +kernel
theorem dX3_cost_5 : decode cX3_cost 5 = .ok (.iaload, 1) := by decide +kernel
theorem dX3_cost_6 : decode cX3_cost 6 = .ok (.iload_n 2, 1) := by decide +kernel
theorem dX3_cost_7 : decode cX3_cost 7 = .ok (.bipush (-9), 2) := by decide +kernel
theorem dX3_cost_9 : decode cX3_cost 9 = .ok (.if_icmp .ne 8, 3) := by decide +kernel
theorem dX3_cost_12 : decode cX3_cost 12 = .ok (.bipush 12, 2) := by decide +kernel
theorem dX3_cost_14 : decode cX3_cost 14 = .ok (.goto 4, 3) := by decide +kernel
theorem dX3_cost_17 : decode cX3_cost 17 = .ok (.iload_n 2, 1) := by decide +kernel
theorem dX3_cost_18 : decode cX3_cost 18 = .ok (.aload_n 0, 1) := by decide +kernel
theorem dX3_cost_19 : decode cX3_cost 19 = .ok (.getfield 43, 3) := by decide +kernel
theorem dX3_cost_22 : decode cX3_cost 22 = .ok (.iload_n 1, 1) := by decide +kernel
theorem dX3_cost_23 : decode cX3_cost 23 = .ok (.iaload, 1) := by decide +kernel
theorem dX3_cost_24 : decode cX3_cost 24 = .ok (.imul, 1) := by decide +kernel
theorem dX3_cost_25 : decode cX3_cost 25 = .ok (.iadd, 1) := by decide +kernel
theorem dX3_cost_26 : decode cX3_cost 26 = .ok (.ireturn, 1) := by decide +kernel
theorem dX3_allValues_0 : decode cX3_allValues 0 = .ok (.iconst 0, 1) := by decide +kernel
theorem dX3_allValues_1 : decode cX3_allValues 1 = .ok (.istore_n 1, 1) := by decide +kernel
theorem dX3_allValues_2 : decode cX3_allValues 2 = .ok (.iconst 0, 1) := by decide +kernel
theorem dX3_allValues_3 : decode cX3_allValues 3 = .ok (.istore_n 2, 1) := by decide +kernel
theorem dX3_allValues_4 : decode cX3_allValues 4 = .ok (.iload_n 2, 1) := by decide +kernel
theorem dX3_allValues_5 : decode cX3_allValues 5 = .ok (.aload_n 0, 1) := by decide +kernel
theorem dX3_allValues_6 : decode cX3_allValues 6 = .ok (.getfield 15, 3) := by decide +kernel
theorem dX3_allValues_9 : decode cX3_allValues 9 = .ok (.if_icmp .ge 18, 3) := by decide +kernel
theorem dX3_allValues_12 : decode cX3_allValues 12 = .ok (.iload_n 1, 1) := by decide +kernel
theorem dX3_allValues_13 : decode cX3_allValues 13 = .ok (.aload_n 0, 1) := by decide +kernel
theorem dX3_allValues_14 : decode cX3_allValues 14 = .ok (.getfield 40, 3) := by decide +kernel
theorem dX3_allValues_17 : decode cX3_allValues 17 = .ok (.iload_n 2, 1) := by decide +kernel
theorem dX3_allValues_18 : decode cX3_allValues 18 = .ok (.iaload, 1) := by decide +kernel
theorem dX3_allValues_19 : decode cX3_allValues 19 = .ok (.iadd, 1) := by decide +kernel
theorem dX3_allValues_20 : decode cX3_allValues 20 = .ok (.istore_n 1, 1) := by decide +kernel
theorem dX3_allValues_21 : decode cX3_allValues 21 = .ok (.iinc 2 1, 3) := by decide +kernel
theorem dX3_allValues_24 : decode cX3_allValues 24 = .ok (.goto (-20), 3) := by decide +kernel
theorem dX3_allValues_27 : decode cX3_allValues 27 = .ok (.iload_n 1, 1) := by decide +kernel
theorem dX3_allValues_28 : decode cX3_allValues 28 = .ok (.ireturn, 1) := by decide +kernel
set_option maxRecDepth 20000 in
theorem ggX3_smallestRing_X3_owedBy : GoodIn wsX3_smallestRing wsX3_owedBy := goodIn_r _ [6, 7, 8, 9, 10, 11, 5, 12, 13, 14, 15, 16, 17, 18, 19, 20, 21, 22, 23] (by decide +kernel) (by decide +kernel)
set_option maxRecDepth 20000 in
theorem gX3_smallestRing_X3_owedBy : GoodIn wsX3_smallestRing (wsV RX3 85 RX3 yX3_owedBy wsX3_owedBy) := goodIn_app (goodIn_of _ (by decide +kernel)) ggX3_smallestRing_X3_owedBy
set_option maxRecDepth 20000 in
theorem ggX3_smallestRing_X3_holds : GoodIn wsX3_smallestRing wsX3_holds := goodIn_r _ [12] (by decide +kernel) (by decide +kernel)
set_option maxRecDepth 20000 in
theorem gX3_smallestRing_X3_holds : GoodIn wsX3_smallestRing (va_wsS RX3 79 yX3_holds wsX3_holds) := goodIn_app (goodIn_of _ (by decide +kernel)) ggX3_smallestRing_X3_holds
theorem dX3_smallestRing_0 : decode cX3_smallestRing 0 = .ok (.iconst 1, 1) := by decide +kernel
theorem dX3_smallestRing_1 : decode cX3_smallestRing 1 = .ok (.iload_n 1, 1) := by decide +kernel
theorem dX3_smallestRing_2 : decode cX3_smallestRing 2 = .ok (.ishl, 1) := by decide +kernel
theorem dX3_smallestRing_3 : decode cX3_smallestRing 3 = .ok (.istore_n 2, 1) := by decide +kernel
theorem dX3_smallestRing_4 : decode cX3_smallestRing 4 = .ok (.iconst 1, 1) := by decide +kernel
theorem dX3_smallestRing_5 : decode cX3_smallestRing 5 = .ok (.istore_n 3, 1) := by decide +kernel
theorem dX3_smallestRing_6 : decode cX3_smallestRing 6 = .ok (.iload_n 3, 1) := by decide +kernel
theorem dX3_smallestRing_7 : decode cX3_smallestRing 7 = .ok (.aload_n 0, 1) := by decide +kernel
theorem dX3_smallestRing_8 : decode cX3_smallestRing 8 = .ok (.getfield 9, 3) := by decide +kernel
theorem dX3_smallestRing_11 : decode cX3_smallestRing 11 = .ok (.if_icmp .gt 25, 3) := by decide +kernel
theorem dX3_smallestRing_14 : decode cX3_smallestRing 14 = .ok (.aload_n 0, 1) := by decide +kernel
theorem dX3_smallestRing_15 : decode cX3_smallestRing 15 = .ok (.iload_n 2, 1) := by decide +kernel
theorem dX3_smallestRing_16 : decode cX3_smallestRing 16 = .ok (.invokevirtual 85, 3) := by decide +kernel
theorem dX3_smallestRing_19 : decode cX3_smallestRing 19 = .ok (.istore_n 2, 1) := by decide +kernel
theorem dX3_smallestRing_20 : decode cX3_smallestRing 20 = .ok (.iload_n 2, 1) := by decide +kernel
theorem dX3_smallestRing_21 : decode cX3_smallestRing 21 = .ok (.iload_n 1, 1) := by decide +kernel
theorem dX3_smallestRing_22 : decode cX3_smallestRing 22 = .ok (.invokestatic 79, 3) := by decide +kernel
theorem dX3_smallestRing_25 : decode cX3_smallestRing 25 = .ok (.ifCond .eq 5, 3) := by decide +kernel
theorem dX3_smallestRing_28 : decode cX3_smallestRing 28 = .ok (.iload_n 3, 1) := by decide +kernel
theorem dX3_smallestRing_29 : decode cX3_smallestRing 29 = .ok (.ireturn, 1) := by decide +kernel
theorem dX3_smallestRing_30 : decode cX3_smallestRing 30 = .ok (.iinc 3 1, 3) := by decide +kernel
theorem dX3_smallestRing_33 : decode cX3_smallestRing 33 = .ok (.goto (-27), 3) := by decide +kernel
theorem dX3_smallestRing_36 : decode cX3_smallestRing 36 = .ok (.iconst 0, 1) := by decide +kernel
theorem dX3_smallestRing_37 : decode cX3_smallestRing 37 = .ok (.ireturn, 1) := by decide +kernel
set_option maxRecDepth 20000 in
theorem ggX3_owedBy_X3_holds : GoodIn wsX3_owedBy wsX3_holds := goodIn_r _ [7] (by decide +kernel) (by decide +kernel)
set_option maxRecDepth 20000 in
theorem gX3_owedBy_X3_holds : GoodIn wsX3_owedBy (va_wsS RX3 79 yX3_holds wsX3_holds) := goodIn_app (goodIn_of _ (by decide +kernel)) ggX3_owedBy_X3_holds
theorem dX3_owedBy_0 : decode cX3_owedBy 0 = .ok (.iconst 0, 1) := by decide +kernel
theorem dX3_owedBy_1 : decode cX3_owedBy 1 = .ok (.istore_n 2, 1) := by decide +kernel
theorem dX3_owedBy_2 : decode cX3_owedBy 2 = .ok (.iconst 0, 1) := by decide +kernel
theorem dX3_owedBy_3 : decode cX3_owedBy 3 = .ok (.istore_n 3, 1) := by decide +kernel
theorem dX3_owedBy_4 : decode cX3_owedBy 4 = .ok (.iload_n 3, 1) := by decide +kernel
theorem dX3_owedBy_5 : decode cX3_owedBy 5 = .ok (.aload_n 0, 1) := by decide +kernel
theorem dX3_owedBy_6 : decode cX3_owedBy 6 = .ok (.getfield 15, 3) := by decide +kernel
theorem dX3_owedBy_9 : decode cX3_owedBy 9 = .ok (.if_icmp .ge 33, 3) := by decide +kernel
theorem dX3_owedBy_12 : decode cX3_owedBy 12 = .ok (.iload_n 1, 1) := by decide +kernel
theorem dX3_owedBy_13 : decode cX3_owedBy 13 = .ok (.aload_n 0, 1) := by decide +kernel
theorem dX3_owedBy_14 : decode cX3_owedBy 14 = .ok (.getfield 34, 3) := by decide +kernel
theorem dX3_owedBy_17 : decode cX3_owedBy 17 = .ok (.iload_n 3, 1) := by decide +kernel
theorem dX3_owedBy_18 : decode cX3_owedBy 18 = .ok (.iaload, 1) := by decide +kernel
theorem dX3_owedBy_19 : decode cX3_owedBy 19 = .ok (.invokestatic 79, 3) := by decide +kernel
theorem dX3_owedBy_22 : decode cX3_owedBy 22 = .ok (.ifCond .eq 14, 3) := by decide +kernel
theorem dX3_owedBy_25 : decode cX3_owedBy 25 = .ok (.iload_n 2, 1) := by decide +kernel
theorem dX3_owedBy_26 : decode cX3_owedBy 26 = .ok (.iconst 1, 1) := by decide +kernel
theorem dX3_owedBy_27 : decode cX3_owedBy 27 = .ok (.aload_n 0, 1) := by decide +kernel
theorem dX3_owedBy_28 : decode cX3_owedBy 28 = .ok (.getfield 37, 3) := by decide +kernel
theorem dX3_owedBy_31 : decode cX3_owedBy 31 = .ok (.iload_n 3, 1) := by decide +kernel
theorem dX3_owedBy_32 : decode cX3_owedBy 32 = .ok (.iaload, 1) := by decide +kernel
theorem dX3_owedBy_33 : decode cX3_owedBy 33 = .ok (.ishl, 1) := by decide +kernel
theorem dX3_owedBy_34 : decode cX3_owedBy 34 = .ok (.ior, 1) := by decide +kernel
theorem dX3_owedBy_35 : decode cX3_owedBy 35 = .ok (.istore_n 2, 1) := by decide +kernel
theorem dX3_owedBy_36 : decode cX3_owedBy 36 = .ok (.iinc 3 1, 3) := by decide +kernel
theorem dX3_owedBy_39 : decode cX3_owedBy 39 = .ok (.goto (-35), 3) := by decide +kernel
theorem dX3_owedBy_42 : decode cX3_owedBy 42 = .ok (.iload_n 2, 1) := by decide +kernel
theorem dX3_owedBy_43 : decode cX3_owedBy 43 = .ok (.ireturn, 1) := by decide +kernel
