theorem dX0_init_0 : decode cX0_init 0 = .ok (.aload_n 0, 1) := by decide +kernel
theorem dX0_init_1 : decode cX0_init 1 = .ok (.invokespecial 3, 3) := by decide +kernel
theorem dX0_init_4 : decode cX0_init 4 = .ok (.aload_n 0, 1) := by decide +kernel
theorem dX0_init_5 : decode cX0_init 5 = .ok (.sipush 160, 3) := by decide +kernel
theorem dX0_init_8 : decode cX0_init 8 = .ok (.newarray .int, 2) := by decide +kernel
theorem dX0_init_10 : decode cX0_init 10 = .ok (.putfield 9, 3) := by decide +kernel
theorem dX0_init_13 : decode cX0_init 13 = .ok (.return_, 1) := by decide +kernel
theorem dX0_add_0 : decode cX0_add 0 = .ok (.aload_n 0, 1) := by decide +kernel
theorem dX0_add_1 : decode cX0_add 1 = .ok (.getfield 15, 3) := by decide +kernel
theorem dX0_add_4 : decode cX0_add 4 = .ok (.sipush 160, 3) := by decide +kernel
theorem dX0_add_7 : decode cX0_add 7 = .ok (.if_icmp .ge 23, 3) := by decide +kernel
theorem dX0_add_10 : decode cX0_add 10 = .ok (.aload_n 0, 1) := by decide +kernel
theorem dX0_add_11 : decode cX0_add 11 = .ok (.getfield 9, 3) := by decide +kernel
theorem dX0_add_14 : decode cX0_add 14 = .ok (.aload_n 0, 1) := by decide +kernel
theorem dX0_add_15 : decode cX0_add 15 = .ok (.getfield 15, 3) := by decide +kernel
theorem dX0_add_18 : decode cX0_add 18 = .ok (.iload_n 1, 1) := by decide +kernel
theorem dX0_add_19 : decode cX0_add 19 = .ok (.iastore, 1) := by decide +kernel
theorem dX0_add_20 : decode cX0_add 20 = .ok (.aload_n 0, 1) := by decide +kernel
theorem dX0_add_21 : decode cX0_add 21 = .ok (.dup, 1) := by decide +kernel
theorem dX0_add_22 : decode cX0_add 22 = .ok (.getfield 15, 3) := by decide +kernel
theorem dX0_add_25 : decode cX0_add 25 = .ok (.iconst 1, 1) := by decide +kernel
theorem dX0_add_26 : decode cX0_add 26 = .ok (.iadd, 1) := by decide +kernel
theorem dX0_add_27 : decode cX0_add 27 = .ok (.putfield 15, 3) := by decide +kernel
theorem dX0_add_30 : decode cX0_add 30 = .ok (.return_, 1) := by decide +kernel
theorem dX0_at_0 : decode cX0_at 0 = .ok (.iload_n 1, 1) := by decide +kernel
theorem dX0_at_1 : decode cX0_at 1 = .ok (.ifCond .lt 20, 3) := by decide +kernel
theorem dX0_at_4 : decode cX0_at 4 = .ok (.iload_n 1, 1) := by decide +kernel
theorem dX0_at_5 : decode cX0_at 5 = .ok (.aload_n 0, 1) := by decide +kernel
theorem dX0_at_6 : decode cX0_at 6 = .ok (.getfield 15, 3) := by decide +kernel
theorem dX0_at_9 : decode cX0_at 9 = .ok (.if_icmp .ge 12, 3) := by decide +kernel
theorem dX0_at_12 : decode cX0_at 12 = .ok (.aload_n 0, 1) := by decide +kernel
theorem dX0_at_13 : decode cX0_at 13 = .ok (.getfield 9, 3) := by decide +kernel
theorem dX0_at_16 : decode cX0_at 16 = .ok (.iload_n 1, 1) := by decide +kernel
theorem dX0_at_17 : decode cX0_at 17 = .ok (.iaload, 1) := by decide +kernel
theorem dX0_at_18 : decode cX0_at 18 = .ok (.goto 4, 3) := by decide +kernel
theorem dX0_at_21 : decode cX0_at 21 = .ok (.iconst (-1), 1) := by decide +kernel
theorem dX0_at_22 : decode cX0_at 22 = .ok (.ireturn, 1) := by decide +kernel
set_option maxRecDepth 20000 in
theorem ggX1_init_X7_init : GoodIn wsX1_init wsX7_init := goodIn_r _ [12, 13, 2, 3, 14, 15, 16, 22, 23, 24, 25] (by decide +kernel) (by decide +kernel)
set_option maxRecDepth 20000 in
theorem gX1_init_X7_init_n24 : GoodIn wsX1_init (wsX7_init) := ggX1_init_X7_init
theorem dX1_init_0 : decode cX1_init 0 = .ok (.aload_n 0, 1) := by decide +kernel
theorem dX1_init_1 : decode cX1_init 1 = .ok (.invokespecial 3, 3) := by decide +kernel
theorem dX1_init_4 : decode cX1_init 4 = .ok (.aload_n 0, 1) := by decide +kernel
theorem dX1_init_5 : decode cX1_init 5 = .ok (.bipush 8, 2) := by decide +kernel
theorem dX1_init_7 : decode cX1_init 7 = .ok (.anewarray 9, 3) := by decide +kernel
theorem dX1_init_10 : decode cX1_init 10 = .ok (.putfield 11, 3) := by decide +kernel
theorem dX1_init_13 : decode cX1_init 13 = .ok (.aload_n 0, 1) := by decide +kernel
theorem dX1_init_14 : decode cX1_init 14 = .ok (.iconst 2, 1) := by decide +kernel
theorem dX1_init_15 : decode cX1_init 15 = .ok (.anewarray 9, 3) := by decide +kernel
theorem dX1_init_18 : decode cX1_init 18 = .ok (.putfield 17, 3) := by decide +kernel
theorem dX1_init_21 : decode cX1_init 21 = .ok (.aload_n 0, 1) := by decide +kernel
theorem dX1_init_22 : decode cX1_init 22 = .ok (.iconst 2, 1) := by decide +kernel
theorem dX1_init_23 : decode cX1_init 23 = .ok (.newarray .boolean, 2) := by decide +kernel
theorem dX1_init_25 : decode cX1_init 25 = .ok (.putfield 20, 3) := by decide +kernel
theorem dX1_init_28 : decode cX1_init 28 = .ok (.iconst 0, 1) := by decide +kernel
theorem dX1_init_29 : decode cX1_init 29 = .ok (.istore_n 1, 1) := by decide +kernel
theorem dX1_init_30 : decode cX1_init 30 = .ok (.iload_n 1, 1) := by decide +kernel
theorem dX1_init_31 : decode cX1_init 31 = .ok (.bipush 8, 2) := by decide +kernel
theorem dX1_init_33 : decode cX1_init 33 = .ok (.if_icmp .ge 22, 3) := by decide +kernel
theorem dX1_init_36 : decode cX1_init 36 = .ok (.aload_n 0, 1) := by decide +kernel
theorem dX1_init_37 : decode cX1_init 37 = .ok (.getfield 11, 3) := by decide +kernel
theorem dX1_init_40 : decode cX1_init 40 = .ok (.iload_n 1, 1) := by decide +kernel
theorem dX1_init_41 : decode cX1_init 41 = .ok (.new 9, 3) := by decide +kernel
theorem dX1_init_44 : decode cX1_init 44 = .ok (.dup, 1) := by decide +kernel
theorem dX1_init_45 : decode cX1_init 45 = .ok (.invokespecial 24, 3) := by decide +kernel
theorem dX1_init_48 : decode cX1_init 48 = .ok (.aastore, 1) := by decide +kernel
theorem dX1_init_49 : decode cX1_init 49 = .ok (.iinc 1 1, 3) := by decide +kernel
theorem dX1_init_52 : decode cX1_init 52 = .ok (.goto (-22), 3) := by decide +kernel
theorem dX1_init_55 : decode cX1_init 55 = .ok (.iconst 0, 1) := by decide +kernel
theorem dX1_init_56 : decode cX1_init 56 = .ok (.istore_n 1, 1) := by decide +kernel
theorem dX1_init_57 : decode cX1_init 57 = .ok (.iload_n 1, 1) := by decide +kernel
theorem dX1_init_58 : decode cX1_init 58 = .ok (.iconst 2, 1) := by decide +kernel
theorem dX1_init_59 : decode cX1_init 59 = .ok (.if_icmp .ge 22, 3) := by decide +kernel
theorem dX1_init_62 : decode cX1_init 62 = .ok (.aload_n 0, 1) := by decide +kernel
theorem dX1_init_63 : decode cX1_init 63 = .ok (.getfield 17, 3) := by decide +kernel
theorem dX1_init_66 : decode cX1_init 66 = .ok (.iload_n 1, 1) := by decide +kernel
theorem dX1_init_67 : decode cX1_init 67 = .ok (.new 9, 3) := by decide +kernel
theorem dX1_init_70 : decode cX1_init 70 = .ok (.dup, 1) := by decide +kernel
theorem dX1_init_71 : decode cX1_init 71 = .ok (.invokespecial 24, 3) := by decide +kernel
theorem dX1_init_74 : decode cX1_init 74 = .ok (.aastore, 1) := by decide +kernel
theorem dX1_init_75 : decode cX1_init 75 = .ok (.iinc 1 1, 3) := by decide +kernel
theorem dX1_init_78 : decode cX1_init 78 = .ok (.goto (-21), 3) := by decide +kernel
theorem dX1_init_81 : decode cX1_init 81 = .ok (.return_, 1) := by decide +kernel
theorem dX1_forgetAll_0 : decode cX1_forgetAll 0 = .ok (.aload_n 0, 1) := by decide +kernel
theorem dX1_forgetAll_1 : decode cX1_forgetAll 1 = .ok (.iconst 0, 1) := by decide +kernel
theorem dX1_forgetAll_2 : decode cX1_forgetAll 2 = .ok (.putfield 25, 3) := by decide +kernel
theorem dX1_forgetAll_5 : decode cX1_forgetAll 5 = .ok (.iconst 0, 1) := by decide +kernel
theorem dX1_forgetAll_6 : decode cX1_forgetAll 6 = .ok (.istore_n 1, 1) := by decide +kernel
theorem dX1_forgetAll_7 : decode cX1_forgetAll 7 = .ok (.iload_n 1, 1) := by decide +kernel
theorem dX1_forgetAll_8 : decode cX1_forgetAll 8 = .ok (.iconst 2, 1) := by decide +kernel
theorem dX1_forgetAll_9 : decode cX1_forgetAll 9 = .ok (.if_icmp .ge 16, 3) := by decide +kernel
theorem dX1_forgetAll_12 : decode cX1_forgetAll 12 = .ok (.aload_n 0, 1) := by decide +kernel
theorem dX1_forgetAll_13 : decode cX1_forgetAll 13 = .ok (.getfield 20, 3) := by decide +kernel
theorem dX1_forgetAll_16 : decode cX1_forgetAll 16 = .ok (.iload_n 1, 1) := by decide +kernel
theorem dX1_forgetAll_17 : decode cX1_forgetAll 17 = .ok (.iconst 0, 1) := by decide +kernel
theorem dX1_forgetAll_18 : decode cX1_forgetAll 18 = .ok (.bastore, 1) := by decide +kernel
theorem dX1_forgetAll_19 : decode cX1_forgetAll 19 = .ok (.iinc 1 1, 3) := by decide +kernel
theorem dX1_forgetAll_22 : decode cX1_forgetAll 22 = .ok (.goto (-15), 3) := by decide +kernel
theorem dX1_forgetAll_25 : decode cX1_forgetAll 25 = .ok (.return_, 1) := by decide +kernel
set_option maxRecDepth 20000 in
theorem ggX1_remember_X7_copyFrom : GoodIn wsX1_remember wsX7_copyFrom := goodIn_r _ [12, 13, 14, 15, 16, 17, 18, 19, 20, 26, 27, 28, 29] (by decide +kernel) (by decide +kernel)
set_option maxRecDepth 20000 in
theorem gX1_remember_X7_copyFrom : GoodIn wsX1_remember (wsV RX1 32 RX7 yX7_copyFrom wsX7_copyFrom) := goodIn_app (goodIn_of _ (by decide +kernel)) ggX1_remember_X7_copyFrom
theorem dX1_remember_0 : decode cX1_remember 0 = .ok (.aload_n 0, 1) := by decide +kernel
theorem dX1_remember_1 : decode cX1_remember 1 = .ok (.aload_n 0, 1) := by decide +kernel
theorem dX1_remember_2 : decode cX1_remember 2 = .ok (.getfield 29, 3) := by decide +kernel
theorem dX1_remember_5 : decode cX1_remember 5 = .ok (.iconst 1, 1) := by decide +kernel
theorem dX1_remember_6 : decode cX1_remember 6 = .ok (.iadd, 1) := by decide +kernel
theorem dX1_remember_7 : decode cX1_remember 7 = .ok (.bipush 8, 2) := by decide +kernel
theorem dX1_remember_9 : decode cX1_remember 9 = .ok (.irem, 1) := by decide +kernel
theorem dX1_remember_10 : decode cX1_remember 10 = .ok (.putfield 29, 3) := by decide +kernel
theorem dX1_remember_13 : decode cX1_remember 13 = .ok (.aload_n 0, 1) := by decide +kernel
theorem dX1_remember_14 : decode cX1_remember 14 = .ok (.getfield 11, 3) := by decide +kernel
theorem dX1_remember_17 : decode cX1_remember 17 = .ok (.aload_n 0, 1) := by decide +kernel
theorem dX1_remember_18 : decode cX1_remember 18 = .ok (.getfield 29, 3) := by decide +kernel
theorem dX1_remember_21 : decode cX1_remember 21 = .ok (.aaload, 1) := by decide +kernel
theorem dX1_remember_22 : decode cX1_remember 22 = .ok (.aload_n 1, 1) := by decide +kernel
theorem dX1_remember_23 : decode cX1_remember 23 = .ok (.invokevirtual 32, 3) := by decide +kernel
theorem dX1_remember_26 : decode cX1_remember 26 = .ok (.aload_n 0, 1) := by decide +kernel
theorem dX1_remember_27 : decode cX1_remember 27 = .ok (.aload_n 0, 1) := by decide +kernel
theorem dX1_remember_28 : decode cX1_remember 28 = .ok (.getfield 25, 3) := by decide +kernel
theorem dX1_remember_31 : decode cX1_remember 31 = .ok (.iconst 1, 1) := by decide +kernel
theorem dX1_remember_32 : decode cX1_remember 32 = .ok (.iadd, 1) := by decide +kernel
theorem dX1_remember_33 : decode cX1_remember 33 = .ok (.bipush 8, 2) := by decide +kernel
theorem dX1_remember_35 : decode cX1_remember 35 = .ok (.invokestatic 36, 3) := by decide +kernel
theorem dX1_remember_38 : decode cX1_remember 38 = .ok (.putfield 25, 3) := by decide +kernel
theorem dX1_remember_41 : decode cX1_remember 41 = .ok (.return_, 1) := by decide +kernel
set_option maxRecDepth 20000 in
theorem ggX1_recall_X7_copyFrom : GoodIn wsX1_recall wsX7_copyFrom := goodIn_r _ [8, 9, 10, 11, 12, 13, 14, 15, 16, 22, 23, 24, 25] (by decide +kernel) (by decide +kernel)
set_option maxRecDepth 20000 in
theorem gX1_recall_X7_copyFrom : GoodIn wsX1_recall (wsV RX1 32 RX7 yX7_copyFrom wsX7_copyFrom) := goodIn_app (goodIn_of _ (by decide +kernel)) ggX1_recall_X7_copyFrom
theorem dX1_recall_0 : decode cX1_recall 0 = .ok (.aload_n 0, 1) := by decide +kernel
theorem dX1_recall_1 : decode cX1_recall 1 = .ok (.getfield 25, 3) := by decide +kernel
theorem dX1_recall_4 : decode cX1_recall 4 = .ok (.ifCond .le 42, 3) := by decide +kernel
theorem dX1_recall_7 : decode cX1_recall 7 = .ok (.aload_n 1, 1) := by decide +kernel
theorem dX1_recall_8 : decode cX1_recall 8 = .ok (.aload_n 0, 1) := by decide +kernel
theorem dX1_recall_9 : decode cX1_recall 9 = .ok (.getfield 11, 3) := by decide +kernel
theorem dX1_recall_12 : decode cX1_recall 12 = .ok (.aload_n 0, 1) := by decide +kernel
theorem dX1_recall_13 : decode cX1_recall 13 = .ok (.getfield 29, 3) := by decide +kernel
theorem dX1_recall_16 : decode cX1_recall 16 = .ok (.aaload, 1) := by decide +kernel
theorem dX1_recall_17 : decode cX1_recall 17 = .ok (.invokevirtual 32, 3) := by decide +kernel
theorem dX1_recall_20 : decode cX1_recall 20 = .ok (.aload_n 0, 1) := by decide +kernel
theorem dX1_recall_21 : decode cX1_recall 21 = .ok (.aload_n 0, 1) := by decide +kernel
theorem dX1_recall_22 : decode cX1_recall 22 = .ok (.getfield 29, 3) := by decide +kernel
theorem dX1_recall_25 : decode cX1_recall 25 = .ok (.bipush 8, 2) := by decide +kernel
theorem dX1_recall_27 : decode cX1_recall 27 = .ok (.iadd, 1) := by decide +kernel
theorem dX1_recall_28 : decode cX1_recall 28 = .ok (.iconst 1, 1) := by decide +kernel
theorem dX1_recall_29 : decode cX1_recall 29 = .ok (.isub, 1) := by decide +kernel
theorem dX1_recall_30 : decode cX1_recall 30 = .ok (.bipush 8, 2) := by decide +kernel
theorem dX1_recall_32 : decode cX1_recall 32 = .ok (.irem, 1) := by decide +kernel
theorem dX1_recall_33 : decode cX1_recall 33 = .ok (.putfield 29, 3) := by decide +kernel
theorem dX1_recall_36 : decode cX1_recall 36 = .ok (.aload_n 0, 1) := by decide +kernel
theorem dX1_recall_37 : decode cX1_recall 37 = .ok (.dup, 1) := by decide +kernel
theorem dX1_recall_38 : decode cX1_recall 38 = .ok (.getfield 25, 3) := by decide +kernel
theorem dX1_recall_41 : decode cX1_recall 41 = .ok (.iconst 1, 1) := by decide +kernel
theorem dX1_recall_42 : decode cX1_recall 42 = .ok (.isub, 1) := by decide +kernel
theorem dX1_recall_43 : decode cX1_recall 43 = .ok (.putfield 25, 3) := by decide +kernel
theorem dX1_recall_46 : decode cX1_recall 46 = .ok (.return_, 1) := by decide +kernel
set_option maxRecDepth 20000 in
theorem ggX2_init_X0_init : GoodIn wsX2_init wsX0_init := goodIn_r _ [13, 14, 2, 3, 15, 16, 26, 27] (by decide +kernel) (by decide +kernel)
set_option maxRecDepth 20000 in
theorem gX2_init_X0_init_n11 : GoodIn wsX2_init (wsX0_init) := ggX2_init_X0_init
set_option maxRecDepth 20000 in
theorem ggX2_init_X5_init : GoodIn wsX2_init wsX5_init := goodIn_r _ [18, 19, 2, 3, 20, 15, 21, 22, 23, 24, 25, 33, 34, 35, 36, 37, 38, 39, 40] (by decide +kernel) (by decide +kernel)
set_option maxRecDepth 20000 in
theorem gX2_init_X5_init_n20 : GoodIn wsX2_init (wsX5_init) := ggX2_init_X5_init
theorem dX2_init_0 : decode cX2_init 0 = .ok (.aload_n 0, 1) := by decide +kernel
theorem dX2_init_1 : decode cX2_init 1 = .ok (.invokespecial 3, 3) := by decide +kernel
theorem dX2_init_4 : decode cX2_init 4 = .ok (.aload_n 0, 1) := by decide +kernel
theorem dX2_init_5 : decode cX2_init 5 = .ok (.new 9, 3) := by decide +kernel
theorem dX2_init_8 : decode cX2_init 8 = .ok (.dup, 1) := by decide +kernel
theorem dX2_init_9 : decode cX2_init 9 = .ok (.invokespecial 11, 3) := by decide +kernel
theorem dX2_init_12 : decode cX2_init 12 = .ok (.putfield 12, 3) := by decide +kernel
theorem dX2_init_15 : decode cX2_init 15 = .ok (.aload_n 0, 1) := by decide +kernel
theorem dX2_init_16 : decode cX2_init 16 = .ok (.new 18, 3) := by decide +kernel
theorem dX2_init_19 : decode cX2_init 19 = .ok (.dup, 1) := by decide +kernel
theorem dX2_init_20 : decode cX2_init 20 = .ok (.invokespecial 20, 3) := by decide +kernel
theorem dX2_init_23 : decode cX2_init 23 = .ok (.putfield 21, 3) := by decide +kernel
theorem dX2_init_26 : decode cX2_init 26 = .ok (.return_, 1) := by decide +kernel
set_option maxRecDepth 20000 in
theorem ggX2_read_X5_copyFrom : GoodIn wsX2_read wsX5_copyFrom := goodIn_r _ [11, 12, 13, 14, 15, 16, 17, 18, 19, 20, 21, 22, 23, 158, 159, 160, 161, 162, 163, 164, 165] (by decide +kernel) (by decide +kernel)
set_option maxRecDepth 20000 in
theorem gX2_read_X5_copyFrom : GoodIn wsX2_read (wsV RX2 25 RX5 yX5_copyFrom wsX5_copyFrom) := goodIn_app (goodIn_of _ (by decide +kernel)) ggX2_read_X5_copyFrom
set_option maxRecDepth 20000 in
theorem ggX2_read_X2_next : GoodIn wsX2_read wsX2_next := goodIn_r _ [28, 2, 4, 5, 6, 29, 30, 31, 32, 33, 34, 35, 36, 37, 38, 27, 39, 40, 41, 42, 43, 151, 152, 153, 154, 155, 156, 157] (by decide +kernel) (by decide +kernel)
set_option maxRecDepth 20000 in
theorem gX2_read_X2_next : GoodIn wsX2_read (wsV RX2 33 RX2 yX2_next wsX2_next) := goodIn_app (goodIn_of _ (by decide +kernel)) ggX2_read_X2_next
set_option maxRecDepth 20000 in
theorem ggX2_read_X2_readClause : GoodIn wsX2_read wsX2_readClause := goodIn_r _ [47, 1, 48, 49, 50, 51, 27, 52, 53, 54, 55, 56, 2, 4, 5, 57, 58, 59, 60, 61, 62, 63, 64, 65, 66, 67, 68, 29, 30, 31, 32, 33, 34, 35, 69, 70, 71, 72, 73, 74, 75, 76, 77, 78, 79, 80, 81, 82, 83, 84, 85, 86, 87, 88, 89, 90, 91, 92, 93, 94, 95, 96, 97, 98, 99, 100, 101, 102, 103, 104, 105, 106, 107, 108, 109, 110, 24, 25, 26, 28, 6, 36, 37, 38, 39, 40, 41, 42, 43, 111, 112, 113, 10, 114, 12, 13, 14, 115, 116, 117, 118, 119, 120, 121, 122, 123, 124, 125, 126, 127, 128, 129, 130, 131, 23, 132, 133, 134, 135, 136, 137, 138, 139, 140, 141, 142, 143, 144, 145, 146, 147, 148, 149, 150, 15, 20, 21, 22, 151, 152, 153, 154, 155, 158, 159, 160, 161, 162, 163, 164, 165, 156, 157] (by decide +kernel) (by decide +kernel)
set_option maxRecDepth 20000 in
theorem gX2_read_X2_readClause : GoodIn wsX2_read (wsV RX2 39 RX2 yX2_readClause wsX2_readClause) := goodIn_app (goodIn_of _ (by decide +kernel)) ggX2_read_X2_readClause
set_option maxRecDepth 20000 in
theorem ggX2_read_X0_at : GoodIn wsX2_read wsX0_at := goodIn_r _ [33, 34, 35, 156, 157] (by decide +kernel) (by decide +kernel)
set_option maxRecDepth 20000 in
theorem gX2_read_X0_at : GoodIn wsX2_read (wsV RX2 49 RX0 yX0_at wsX0_at) := goodIn_app (goodIn_of _ (by decide +kernel)) ggX2_read_X0_at
theorem dX2_read_0 : decode cX2_read 0 = .ok (.aload_n 0, 1) := by decide +kernel
theorem dX2_read_1 : decode cX2_read 1 = .ok (.getfield 21, 3) := by decide +kernel
theorem dX2_read_4 : decode cX2_read 4 = .ok (.aload_n 1, 1) := by decide +kernel
theorem dX2_read_5 : decode cX2_read 5 = .ok (.invokevirtual 25, 3) := by decide +kernel
theorem dX2_read_8 : decode cX2_read 8 = .ok (.aload_n 0, 1) := by decide +kernel
theorem dX2_read_9 : decode cX2_read 9 = .ok (.iconst 0, 1) := by decide +kernel
theorem dX2_read_10 : decode cX2_read 10 = .ok (.putfield 29, 3) := by decide +kernel
theorem dX2_read_13 : decode cX2_read 13 = .ok (.aload_n 0, 1) := by decide +kernel
theorem dX2_read_14 : decode cX2_read 14 = .ok (.invokevirtual 33, 3) := by decide +kernel
theorem dX2_read_17 : decode cX2_read 17 = .ok (.aload_n 0, 1) := by decide +kernel
theorem dX2_read_18 : decode cX2_read 18 = .ok (.iconst 1, 1) := by decide +kernel
theorem dX2_read_19 : decode cX2_read 19 = .ok (.putfield 36, 3) := by decide +kernel
theorem dX2_read_22 : decode cX2_read 22 = .ok (.aload_n 0, 1) := by decide +kernel
theorem dX2_read_23 : decode cX2_read 23 = .ok (.getfield 36, 3) := by decide +kernel
theorem dX2_read_26 : decode cX2_read 26 = .ok (.bipush 14, 2) := by decide +kernel
theorem dX2_read_28 : decode cX2_read 28 = .ok (.if_icmp .gt 78, 3) := by decide +kernel
theorem dX2_read_31 : decode cX2_read 31 = .ok (.aload_n 0, 1) := by decide +kernel
theorem dX2_read_32 : decode cX2_read 32 = .ok (.invokevirtual 39, 3) := by decide +kernel
theorem dX2_read_35 : decode cX2_read 35 = .ok (.ifCond .ne 8, 3) := by decide +kernel
theorem dX2_read_38 : decode cX2_read 38 = .ok (.aload_n 0, 1) := by decide +kernel
theorem dX2_read_39 : decode cX2_read 39 = .ok (.getfield 43, 3) := by decide +kernel
theorem dX2_read_42 : decode cX2_read 42 = .ok (.ireturn, 1) := by decide +kernel
theorem dX2_read_43 : decode cX2_read 43 = .ok (.aload_n 0, 1) := by decide +kernel
theorem dX2_read_44 : decode cX2_read 44 = .ok (.getfield 43, 3) := by decide +kernel
theorem dX2_read_47 : decode cX2_read 47 = .ok (.aload_n 0, 1) := by decide +kernel
theorem dX2_read_48 : decode cX2_read 48 = .ok (.getfield 12, 3) := by decide +kernel
theorem dX2_read_51 : decode cX2_read 51 = .ok (.getfield 46, 3) := by decide +kernel
theorem dX2_read_54 : decode cX2_read 54 = .ok (.if_icmp .lt 5, 3) := by decide +kernel
theorem dX2_read_57 : decode cX2_read 57 = .ok (.iconst (-1), 1) := by decide +kernel
theorem dX2_read_58 : decode cX2_read 58 = .ok (.ireturn, 1) := by decide +kernel
theorem dX2_read_59 : decode cX2_read 59 = .ok (.aload_n 0, 1) := by decide +kernel
theorem dX2_read_60 : decode cX2_read 60 = .ok (.getfield 12, 3) := by decide +kernel
theorem dX2_read_63 : decode cX2_read 63 = .ok (.aload_n 0, 1) := by decide +kernel
theorem dX2_read_64 : decode cX2_read 64 = .ok (.getfield 43, 3) := by decide +kernel
theorem dX2_read_67 : decode cX2_read 67 = .ok (.invokevirtual 49, 3) := by decide +kernel
theorem dX2_read_70 : decode cX2_read 70 = .ok (.bipush 59, 2) := by decide +kernel
theorem dX2_read_72 : decode cX2_read 72 = .ok (.if_icmp .ne 12, 3) := by decide +kernel
theorem dX2_read_75 : decode cX2_read 75 = .ok (.aload_n 0, 1) := by decide +kernel
theorem dX2_read_76 : decode cX2_read 76 = .ok (.getfield 36, 3) := by decide +kernel
theorem dX2_read_79 : decode cX2_read 79 = .ok (.bipush 14, 2) := by decide +kernel
theorem dX2_read_81 : decode cX2_read 81 = .ok (.if_icmp .ne 8, 3) := by decide +kernel
theorem dX2_read_84 : decode cX2_read 84 = .ok (.aload_n 0, 1) := by decide +kernel
theorem dX2_read_85 : decode cX2_read 85 = .ok (.getfield 43, 3) := by decide +kernel
theorem dX2_read_88 : decode cX2_read 88 = .ok (.ireturn, 1) := by decide +kernel
theorem dX2_read_89 : decode cX2_read 89 = .ok (.aload_n 0, 1) := by decide +kernel
theorem dX2_read_90 : decode cX2_read 90 = .ok (.invokevirtual 33, 3) := by decide +kernel
theorem dX2_read_93 : decode cX2_read 93 = .ok (.aload_n 0, 1) := by decide +kernel
theorem dX2_read_94 : decode cX2_read 94 = .ok (.dup, 1) := by decide +kernel
theorem dX2_read_95 : decode cX2_read 95 = .ok (.getfield 36, 3) := by decide +kernel
theorem dX2_read_98 : decode cX2_read 98 = .ok (.iconst 1, 1) := by decide +kernel
theorem dX2_read_99 : decode cX2_read 99 = .ok (.iadd, 1) := by decide +kernel
theorem dX2_read_100 : decode cX2_read 100 = .ok (.putfield 36, 3) := by decide +kernel
theorem dX2_read_103 : decode cX2_read 103 = .ok (.goto (-81), 3) := by decide +kernel
theorem dX2_read_106 : decode cX2_read 106 = .ok (.aload_n 0, 1) := by decide +kernel
theorem dX2_read_107 : decode cX2_read 107 = .ok (.getfield 43, 3) := by decide +kernel
theorem dX2_read_110 : decode cX2_read 110 = .ok (.ireturn, 1) := by decide +kernel
set_option maxRecDepth 20000 in
theorem ggX2_next_X0_at : GoodIn wsX2_next wsX0_at := goodIn_r _ [9, 10, 11, 26, 27] (by decide +kernel) (by decide +kernel)
set_option maxRecDepth 20000 in
theorem gX2_next_X0_at : GoodIn wsX2_next (wsV RX2 49 RX0 yX0_at wsX0_at) := goodIn_app (goodIn_of _ (by decide +kernel)) ggX2_next_X0_at
set_option maxRecDepth 20000 in
theorem ggX2_next_X2_isSmall : GoodIn wsX2_next wsX2_isSmall := goodIn_r _ [16, 3, 5, 6, 7, 8, 9, 10, 11, 21, 22, 23, 24, 25, 26, 27] (by decide +kernel) (by decide +kernel)
set_option maxRecDepth 20000 in
theorem gX2_next_X2_isSmall : GoodIn wsX2_next (wsV RX2 53 RX2 yX2_isSmall wsX2_isSmall) := goodIn_app (goodIn_of _ (by decide +kernel)) ggX2_next_X2_isSmall
set_option maxRecDepth 20000 in
theorem ggX2_next_X2_isDigit : GoodIn wsX2_next wsX2_isDigit := goodIn_r _ [20, 3, 5, 6, 7, 8, 9, 10, 11, 21, 22, 23, 24, 25, 26, 27] (by decide +kernel) (by decide +kernel)
set_option maxRecDepth 20000 in
theorem gX2_next_X2_isDigit : GoodIn wsX2_next (wsV RX2 57 RX2 yX2_isDigit wsX2_isDigit) := goodIn_app (goodIn_of _ (by decide +kernel)) ggX2_next_X2_isDigit
theorem dX2_next_0 : decode cX2_next 0 = .ok (.aload_n 0, 1) := by decide +kernel
theorem dX2_next_1 : decode cX2_next 1 = .ok (.aload_n 0, 1) := by decide +kernel
theorem dX2_next_2 : decode cX2_next 2 = .ok (.getfield 29, 3) := by decide +kernel
theorem dX2_next_5 : decode cX2_next 5 = .ok (.putfield 43, 3) := by decide +kernel
theorem dX2_next_8 : decode cX2_next 8 = .ok (.aload_n 0, 1) := by decide +kernel
theorem dX2_next_9 : decode cX2_next 9 = .ok (.getfield 43, 3) := by decide +kernel
theorem dX2_next_12 : decode cX2_next 12 = .ok (.aload_n 0, 1) := by decide +kernel
theorem dX2_next_13 : decode cX2_next 13 = .ok (.getfield 12, 3) := by decide +kernel
theorem dX2_next_16 : decode cX2_next 16 = .ok (.getfield 46, 3) := by decide +kernel
theorem dX2_next_19 : decode cX2_next 19 = .ok (.if_icmp .ge 32, 3) := by decide +kernel
theorem dX2_next_22 : decode cX2_next 22 = .ok (.aload_n 0, 1) := by decide +kernel
theorem dX2_next_23 : decode cX2_next 23 = .ok (.getfield 12, 3) := by decide +kernel
theorem dX2_next_26 : decode cX2_next 26 = .ok (.aload_n 0, 1) := by decide +kernel
theorem dX2_next_27 : decode cX2_next 27 = .ok (.getfield 43, 3) := by decide +kernel
theorem dX2_next_30 : decode cX2_next 30 = .ok (.invokevirtual 49, 3) := by decide +kernel
theorem dX2_next_33 : decode cX2_next 33 = .ok (.bipush 32, 2) := by decide +kernel
theorem dX2_next_35 : decode cX2_next 35 = .ok (.if_icmp .ne 16, 3) := by decide +kernel
theorem dX2_next_38 : decode cX2_next 38 = .ok (.aload_n 0, 1) := by decide +kernel
theorem dX2_next_39 : decode cX2_next 39 = .ok (.dup, 1) := by decide +kernel
theorem dX2_next_40 : decode cX2_next 40 = .ok (.getfield 43, 3) := by decide +kernel
theorem dX2_next_43 : decode cX2_next 43 = .ok (.iconst 1, 1) := by decide +kernel
theorem dX2_next_44 : decode cX2_next 44 = .ok (.iadd, 1) := by decide +kernel
theorem dX2_next_45 : decode cX2_next 45 = .ok (.putfield 43, 3) := by decide +kernel
theorem dX2_next_48 : decode cX2_next 48 = .ok (.goto (-40), 3) := by decide +kernel
theorem dX2_next_51 : decode cX2_next 51 = .ok (.aload_n 0, 1) := by decide +kernel
theorem dX2_next_52 : decode cX2_next 52 = .ok (.aload_n 0, 1) := by decide +kernel
theorem dX2_next_53 : decode cX2_next 53 = .ok (.getfield 43, 3) := by decide +kernel
theorem dX2_next_56 : decode cX2_next 56 = .ok (.putfield 29, 3) := by decide +kernel
theorem dX2_next_59 : decode cX2_next 59 = .ok (.aload_n 0, 1) := by decide +kernel
theorem dX2_next_60 : decode cX2_next 60 = .ok (.aload_n 0, 1) := by decide +kernel
theorem dX2_next_61 : decode cX2_next 61 = .ok (.getfield 43, 3) := by decide +kernel
theorem dX2_next_64 : decode cX2_next 64 = .ok (.invokevirtual 53, 3) := by decide +kernel
theorem dX2_next_67 : decode cX2_next 67 = .ok (.ifCond .eq 41, 3) := by decide +kernel
theorem dX2_next_70 : decode cX2_next 70 = .ok (.aload_n 0, 1) := by decide +kernel
theorem dX2_next_71 : decode cX2_next 71 = .ok (.getfield 29, 3) := by decide +kernel
theorem dX2_next_74 : decode cX2_next 74 = .ok (.aload_n 0, 1) := by decide +kernel
theorem dX2_next_75 : decode cX2_next 75 = .ok (.getfield 12, 3) := by decide +kernel
theorem dX2_next_78 : decode cX2_next 78 = .ok (.getfield 46, 3) := by decide +kernel
theorem dX2_next_81 : decode cX2_next 81 = .ok (.if_icmp .ge 100, 3) := by decide +kernel
theorem dX2_next_84 : decode cX2_next 84 = .ok (.aload_n 0, 1) := by decide +kernel
theorem dX2_next_85 : decode cX2_next 85 = .ok (.aload_n 0, 1) := by decide +kernel
theorem dX2_next_86 : decode cX2_next 86 = .ok (.getfield 29, 3) := by decide +kernel
theorem dX2_next_89 : decode cX2_next 89 = .ok (.invokevirtual 53, 3) := by decide +kernel
theorem dX2_next_92 : decode cX2_next 92 = .ok (.ifCond .eq 89, 3) := by decide +kernel
theorem dX2_next_95 : decode cX2_next 95 = .ok (.aload_n 0, 1) := by decide +kernel
theorem dX2_next_96 : decode cX2_next 96 = .ok (.dup, 1) := by decide +kernel
theorem dX2_next_97 : decode cX2_next 97 = .ok (.getfield 29, 3) := by decide +kernel
theorem dX2_next_100 : decode cX2_next 100 = .ok (.iconst 1, 1) := by decide +kernel
theorem dX2_next_101 : decode cX2_next 101 = .ok (.iadd, 1) := by decide +kernel
theorem dX2_next_102 : decode cX2_next 102 = .ok (.putfield 29, 3) := by decide +kernel
theorem dX2_next_105 : decode cX2_next 105 = .ok (.goto (-35), 3) := by decide +kernel
theorem dX2_next_108 : decode cX2_next 108 = .ok (.aload_n 0, 1) := by decide +kernel
theorem dX2_next_109 : decode cX2_next 109 = .ok (.aload_n 0, 1) := by decide +kernel
theorem dX2_next_110 : decode cX2_next 110 = .ok (.getfield 43, 3) := by decide +kernel
theorem dX2_next_113 : decode cX2_next 113 = .ok (.invokevirtual 57, 3) := by decide +kernel
theorem dX2_next_116 : decode cX2_next 116 = .ok (.ifCond .eq 41, 3) := by decide +kernel
theorem dX2_next_119 : decode cX2_next 119 = .ok (.aload_n 0, 1) := by decide +kernel
theorem dX2_next_120 : decode cX2_next 120 = .ok (.getfield 29, 3) := by decide +kernel
theorem dX2_next_123 : decode cX2_next 123 = .ok (.aload_n 0, 1) := by decide +kernel
theorem dX2_next_124 : decode cX2_next 124 = .ok (.getfield 12, 3) := by decide +kernel
theorem dX2_next_127 : decode cX2_next 127 = .ok (.getfield 46, 3) := by decide +kernel
theorem dX2_next_130 : decode cX2_next 130 = .ok (.if_icmp .ge 51, 3) := by decide +kernel
theorem dX2_next_133 : decode cX2_next 133 = .ok (.aload_n 0, 1) := by decide +kernel
theorem dX2_next_134 : decode cX2_next 134 = .ok (.aload_n 0, 1) := by decide +kernel
theorem dX2_next_135 : decode cX2_next 135 = .ok (.getfield 29, 3) := by decide +kernel
theorem dX2_next_138 : decode cX2_next 138 = .ok (.invokevirtual 57, 3) := by decide +kernel
theorem dX2_next_141 : decode cX2_next 141 = .ok (.ifCond .eq 40, 3) := by decide +kernel
theorem dX2_next_144 : decode cX2_next 144 = .ok (.aload_n 0, 1) := by decide +kernel
theorem dX2_next_145 : decode cX2_next 145 = .ok (.dup, 1) := by decide +kernel
theorem dX2_next_146 : decode cX2_next 146 = .ok (.getfield 29, 3) := by decide +kernel
theorem dX2_next_149 : decode cX2_next 149 = .ok (.iconst 1, 1) := by decide +kernel
theorem dX2_next_150 : decode cX2_next 150 = .ok (.iadd, 1) := by decide +kernel
theorem dX2_next_151 : decode cX2_next 151 = .ok (.putfield 29, 3) := by decide +kernel
theorem dX2_next_154 : decode cX2_next 154 = .ok (.goto (-35), 3) := by decide +kernel
theorem dX2_next_157 : decode cX2_next 157 = .ok (.aload_n 0, 1) := by decide +kernel
theorem dX2_next_158 : decode cX2_next 158 = .ok (.getfield 29, 3) := by decide +kernel
theorem dX2_next_161 : decode cX2_next 161 = .ok (.aload_n 0, 1) := by decide +kernel
theorem dX2_next_162 : decode cX2_next 162 = .ok (.getfield 12, 3) := by decide +kernel
theorem dX2_next_165 : decode cX2_next 165 = .ok (.getfield 46, 3) := by decide +kernel
theorem dX2_next_168 : decode cX2_next 168 = .ok (.if_icmp .ge 13, 3) := by decide +kernel
theorem dX2_next_171 : decode cX2_next 171 = .ok (.aload_n 0, 1) := by decide +kernel
theorem dX2_next_172 : decode cX2_next 172 = .ok (.dup, 1) := by decide +kernel
theorem dX2_next_173 : decode cX2_next 173 = .ok (.getfield 29, 3) := by decide +kernel
theorem dX2_next_176 : decode cX2_next 176 = .ok (.iconst 1, 1) := by decide +kernel
theorem dX2_next_177 : decode cX2_next 177 = .ok (.iadd, 1) := by decide +kernel
theorem dX2_next_178 : decode cX2_next 178 = .ok (.putfield 29, 3) := by decide +kernel
theorem dX2_next_181 : decode cX2_next 181 = .ok (.return_, 1) := by decide +kernel
set_option maxRecDepth 20000 in
theorem ggX2_isSmall_X0_at : GoodIn wsX2_isSmall wsX0_at := goodIn_r _ [6, 7, 8, 14, 15] (by decide +kernel) (by decide +kernel)
set_option maxRecDepth 20000 in
theorem gX2_isSmall_X0_at : GoodIn wsX2_isSmall (wsV RX2 49 RX0 yX0_at wsX0_at) := goodIn_app (goodIn_of _ (by decide +kernel)) ggX2_isSmall_X0_at
theorem dX2_isSmall_0 : decode cX2_isSmall 0 = .ok (.aload_n 0, 1) := by decide +kernel
theorem dX2_isSmall_1 : decode cX2_isSmall 1 = .ok (.getfield 12, 3) := by decide +kernel
theorem dX2_isSmall_4 : decode cX2_isSmall 4 = .ok (.iload_n 1, 1) := by decide +kernel
theorem dX2_isSmall_5 : decode cX2_isSmall 5 = .ok (.invokevirtual 49, 3) := by decide +kernel
theorem dX2_isSmall_8 : decode cX2_isSmall 8 = .ok (.bipush 97, 2) := by decide +kernel
theorem dX2_isSmall_10 : decode cX2_isSmall 10 = .ok (.if_icmp .lt 20, 3) := by decide +kernel
theorem dX2_isSmall_13 : decode cX2_isSmall 13 = .ok (.aload_n 0, 1) := by decide +kernel
theorem dX2_isSmall_14 : decode cX2_isSmall 14 = .ok (.getfield 12, 3) := by decide +kernel
theorem dX2_isSmall_17 : decode cX2_isSmall 17 = .ok (.iload_n 1, 1) := by decide +kernel
theorem dX2_isSmall_18 : decode cX2_isSmall 18 = .ok (.invokevirtual 49, 3) := by decide +kernel
theorem dX2_isSmall_21 : decode cX2_isSmall 21 = .ok (.bipush 122, 2) := by decide +kernel
theorem dX2_isSmall_23 : decode cX2_isSmall 23 = .ok (.if_icmp .gt 7, 3) := by decide +kernel
theorem dX2_isSmall_26 : decode cX2_isSmall 26 = .ok (.iconst 1, 1) := by decide +kernel
theorem dX2_isSmall_27 : decode cX2_isSmall 27 = .ok (.goto 4, 3) := by decide +kernel
theorem dX2_isSmall_30 : decode cX2_isSmall 30 = .ok (.iconst 0, 1) := by decide +kernel
theorem dX2_isSmall_31 : decode cX2_isSmall 31 = .ok (.ireturn, 1) := by decide +kernel
set_option maxRecDepth 20000 in
theorem ggX2_isDigit_X0_at : GoodIn wsX2_isDigit wsX0_at := goodIn_r _ [6, 7, 8, 14, 15] (by decide +kernel) (by decide +kernel)
set_option maxRecDepth 20000 in
theorem gX2_isDigit_X0_at : GoodIn wsX2_isDigit (wsV RX2 49 RX0 yX0_at wsX0_at) := goodIn_app (goodIn_of _ (by decide +kernel)) ggX2_isDigit_X0_at
theorem dX2_isDigit_0 : decode cX2_isDigit 0 = .ok (.aload_n 0, 1) := by decide +kernel
theorem dX2_isDigit_1 : decode cX2_isDigit 1 = .ok (.getfield 12, 3) := by decide +kernel
theorem dX2_isDigit_4 : decode cX2_isDigit 4 = .ok (.iload_n 1, 1) := by decide +kernel
theorem dX2_isDigit_5 : decode cX2_isDigit 5 = .ok (.invokevirtual 49, 3) := by decide +kernel
theorem dX2_isDigit_8 : decode cX2_isDigit 8 = .ok (.bipush 48, 2) := by decide +kernel
theorem dX2_isDigit_10 : decode cX2_isDigit 10 = .ok (.if_icmp .lt 20, 3) := by decide +kernel
theorem dX2_isDigit_13 : decode cX2_isDigit 13 = .ok (.aload_n 0, 1) := by decide +kernel
theorem dX2_isDigit_14 : decode cX2_isDigit 14 = .ok (.getfield 12, 3) := by decide +kernel
theorem dX2_isDigit_17 : decode cX2_isDigit 17 = .ok (.iload_n 1, 1) := by decide +kernel
theorem dX2_isDigit_18 : decode cX2_isDigit 18 = .ok (.invokevirtual 49, 3) := by decide +kernel
theorem dX2_isDigit_21 : decode cX2_isDigit 21 = .ok (.bipush 57, 2) := by decide +kernel
theorem dX2_isDigit_23 : decode cX2_isDigit 23 = .ok (.if_icmp .gt 7, 3) := by decide +kernel
theorem dX2_isDigit_26 : decode cX2_isDigit 26 = .ok (.iconst 1, 1) := by decide +kernel
theorem dX2_isDigit_27 : decode cX2_isDigit 27 = .ok (.goto 4, 3) := by decide +kernel
theorem dX2_isDigit_30 : decode cX2_isDigit 30 = .ok (.iconst 0, 1) := by decide +kernel
theorem dX2_isDigit_31 : decode cX2_isDigit 31 = .ok (.ireturn, 1) := by decide +kernel
set_option maxRecDepth 20000 in
theorem ggX2_readClause_X2_wordHere : GoodIn wsX2_readClause wsX2_wordHere := goodIn_r _ [7, 8, 9, 10, 6, 11, 12, 13, 14, 15, 16, 17, 18, 19, 20, 21, 22, 23, 24, 25, 26, 27, 28, 29, 30, 31, 32, 33, 34, 35, 36, 37, 38, 39, 40, 41, 42, 43, 44, 45, 46, 47, 48, 49, 50, 51, 52, 53, 54, 55, 56, 57, 58, 59, 60, 61, 62, 63, 64, 65, 66, 67, 68, 69, 70, 138, 139, 140, 141, 142, 151, 152] (by decide +kernel) (by decide +kernel)
set_option maxRecDepth 20000 in
theorem gX2_readClause_X2_wordHere : GoodIn wsX2_readClause (wsV RX2 60 RX2 yX2_wordHere wsX2_wordHere) := goodIn_app (goodIn_of _ (by decide +kernel)) ggX2_readClause_X2_wordHere
set_option maxRecDepth 20000 in
theorem ggX2_readClause_X2_hasRoomFor : GoodIn wsX2_readClause wsX2_hasRoomFor := goodIn_r _ [74, 1, 2, 75, 138, 139, 140, 141, 142, 143, 144, 145, 146, 147, 148, 149, 150] (by decide +kernel) (by decide +kernel)
set_option maxRecDepth 20000 in
theorem gX2_readClause_X2_hasRoomFor : GoodIn wsX2_readClause (wsV RX2 64 RX2 yX2_hasRoomFor wsX2_hasRoomFor) := goodIn_app (goodIn_of _ (by decide +kernel)) ggX2_readClause_X2_hasRoomFor
set_option maxRecDepth 20000 in
theorem ggX2_readClause_X2_next : GoodIn wsX2_readClause wsX2_next := goodIn_r _ [79, 12, 13, 14, 80, 27, 28, 29, 30, 31, 32, 33, 81, 82, 83, 6, 84, 85, 86, 87, 88, 138, 139, 140, 141, 142, 151, 152] (by decide +kernel) (by decide +kernel)
set_option maxRecDepth 20000 in
theorem gX2_readClause_X2_next : GoodIn wsX2_readClause (wsV RX2 33 RX2 yX2_next wsX2_next) := goodIn_app (goodIn_of _ (by decide +kernel)) ggX2_readClause_X2_next
set_option maxRecDepth 20000 in
theorem ggX2_readClause_X5_clear : GoodIn wsX2_readClause wsX5_clear := goodIn_r _ [93, 94, 95, 96, 143, 144, 145, 146, 147, 148, 149, 150] (by decide +kernel) (by decide +kernel)
set_option maxRecDepth 20000 in
theorem gX2_readClause_X5_clear : GoodIn wsX2_readClause (wsV RX2 67 RX5 yX5_clear wsX5_clear) := goodIn_app (goodIn_of _ (by decide +kernel)) ggX2_readClause_X5_clear
set_option maxRecDepth 20000 in
theorem ggX2_readClause_X2_readQuota : GoodIn wsX2_readClause wsX2_readQuota := goodIn_r _ [100, 1, 101, 102, 103, 104, 6, 105, 13, 12, 14, 85, 86, 87, 88, 27, 28, 29, 30, 31, 32, 33, 76, 77, 78, 79, 80, 81, 82, 83, 84, 138, 139, 140, 141, 142, 143, 144, 145, 146, 147, 148, 149, 150, 151, 152] (by decide +kernel) (by decide +kernel)
set_option maxRecDepth 20000 in
theorem gX2_readClause_X2_readQuota : GoodIn wsX2_readClause (wsV RX2 73 RX2 yX2_readQuota wsX2_readQuota) := goodIn_app (goodIn_of _ (by decide +kernel)) ggX2_readClause_X2_readQuota
set_option maxRecDepth 20000 in
theorem ggX2_readClause_X2_readCold : GoodIn wsX2_readClause wsX2_readCold := goodIn_r _ [109, 1, 102, 103, 104, 6, 105, 13, 12, 14, 85, 86, 87, 88, 27, 28, 29, 30, 31, 32, 33, 76, 77, 78, 79, 80, 81, 82, 83, 84, 110, 111, 112, 92, 113, 96, 114, 138, 139, 140, 141, 142, 151, 152, 143, 144, 145, 146, 147, 148, 149, 150] (by decide +kernel) (by decide +kernel)
set_option maxRecDepth 20000 in
theorem gX2_readClause_X2_readCold : GoodIn wsX2_readClause (wsV RX2 76 RX2 yX2_readCold wsX2_readCold) := goodIn_app (goodIn_of _ (by decide +kernel)) ggX2_readClause_X2_readCold
set_option maxRecDepth 20000 in
theorem ggX2_readClause_X2_readFavour : GoodIn wsX2_readClause wsX2_readFavour := goodIn_r _ [118, 1, 75, 119, 102, 103, 104, 6, 105, 13, 12, 14, 85, 86, 87, 88, 27, 28, 29, 30, 31, 32, 33, 76, 77, 78, 79, 80, 81, 82, 83, 84, 120, 121, 122, 123, 124, 125, 138, 139, 140, 141, 142, 143, 144, 145, 146, 147, 148, 149, 150, 151, 152] (by decide +kernel) (by decide +kernel)
set_option maxRecDepth 20000 in
theorem gX2_readClause_X2_readFavour : GoodIn wsX2_readClause (wsV RX2 79 RX2 yX2_readFavour wsX2_readFavour) := goodIn_app (goodIn_of _ (by decide +kernel)) ggX2_readClause_X2_readFavour
set_option maxRecDepth 20000 in
theorem ggX2_readClause_X2_readButton : GoodIn wsX2_readClause wsX2_readButton := goodIn_r _ [129, 1, 102, 103, 104, 6, 105, 13, 12, 14, 85, 86, 87, 88, 27, 28, 29, 30, 31, 32, 33, 76, 77, 78, 79, 80, 81, 82, 83, 84, 130, 131, 132, 92, 133, 94, 134, 135, 136, 137, 138, 139, 140, 141, 142, 151, 152, 143, 144, 145, 146, 147, 148, 149, 150] (by decide +kernel) (by decide +kernel)
set_option maxRecDepth 20000 in
theorem gX2_readClause_X2_readButton : GoodIn wsX2_readClause (wsV RX2 83 RX2 yX2_readButton wsX2_readButton) := goodIn_app (goodIn_of _ (by decide +kernel)) ggX2_readClause_X2_readButton
theorem dX2_readClause_0 : decode cX2_readClause 0 = .ok (.aload_n 0, 1) := by decide +kernel
theorem dX2_readClause_1 : decode cX2_readClause 1 = .ok (.invokevirtual 60, 3) := by decide +kernel
theorem dX2_readClause_4 : decode cX2_readClause 4 = .ok (.istore_n 1, 1) := by decide +kernel
theorem dX2_readClause_5 : decode cX2_readClause 5 = .ok (.iload_n 1, 1) := by decide +kernel
theorem dX2_readClause_6 : decode cX2_readClause 6 = .ok (.iconst (-1), 1) := by decide +kernel
theorem dX2_readClause_7 : decode cX2_readClause 7 = .ok (.if_icmp .eq 11, 3) := by decide +kernel
theorem dX2_readClause_10 : decode cX2_readClause 10 = .ok (.aload_n 0, 1) := by decide +kernel
theorem dX2_readClause_11 : decode cX2_readClause 11 = .ok (.iload_n 1, 1) := by decide +kernel
theorem dX2_readClause_12 : decode cX2_readClause 12 = .ok (.invokevirtual 64, 3) := by decide +kernel
theorem dX2_readClause_15 : decode cX2_readClause 15 = .ok (.ifCond .ne 5, 3) := by decide +kernel
theorem dX2_readClause_18 : decode cX2_readClause 18 = .ok (.iconst 0, 1) := by decide +kernel
theorem dX2_readClause_19 : decode cX2_readClause 19 = .ok (.ireturn, 1) := by decide +kernel
theorem dX2_readClause_20 : decode cX2_readClause 20 = .ok (.aload_n 0, 1) := by decide +kernel
theorem dX2_readClause_21 : decode cX2_readClause 21 = .ok (.invokevirtual 33, 3) := by decide +kernel
theorem dX2_readClause_24 : decode cX2_readClause 24 = .ok (.iload_n 1, 1) := by decide +kernel
theorem dX2_readClause_25 : decode cX2_readClause 25 = .ok (.tableswitch 83 4 9 #[68, 68, 58, 63, 48, 39], 39) := by decide +kernel
theorem dX2_readClause_64 : decode cX2_readClause 64 = .ok (.aload_n 0, 1) := by decide +kernel
theorem dX2_readClause_65 : decode cX2_readClause 65 = .ok (.getfield 21, 3) := by decide +kernel
theorem dX2_readClause_68 : decode cX2_readClause 68 = .ok (.invokevirtual 67, 3) := by decide +kernel
theorem dX2_readClause_71 : decode cX2_readClause 71 = .ok (.iconst 1, 1) := by decide +kernel
theorem dX2_readClause_72 : decode cX2_readClause 72 = .ok (.ireturn, 1) := by decide +kernel
theorem dX2_readClause_73 : decode cX2_readClause 73 = .ok (.aload_n 0, 1) := by decide +kernel
theorem dX2_readClause_74 : decode cX2_readClause 74 = .ok (.getfield 21, 3) := by decide +kernel
theorem dX2_readClause_77 : decode cX2_readClause 77 = .ok (.iconst 0, 1) := by decide +kernel
theorem dX2_readClause_78 : decode cX2_readClause 78 = .ok (.putfield 70, 3) := by decide +kernel
theorem dX2_readClause_81 : decode cX2_readClause 81 = .ok (.iconst 1, 1) := by decide +kernel
theorem dX2_readClause_82 : decode cX2_readClause 82 = .ok (.ireturn, 1) := by decide +kernel
theorem dX2_readClause_83 : decode cX2_readClause 83 = .ok (.aload_n 0, 1) := by decide +kernel
theorem dX2_readClause_84 : decode cX2_readClause 84 = .ok (.invokevirtual 73, 3) := by decide +kernel
theorem dX2_readClause_87 : decode cX2_readClause 87 = .ok (.ireturn, 1) := by decide +kernel
theorem dX2_readClause_88 : decode cX2_readClause 88 = .ok (.aload_n 0, 1) := by decide +kernel
theorem dX2_readClause_89 : decode cX2_readClause 89 = .ok (.invokevirtual 76, 3) := by decide +kernel
theorem dX2_readClause_92 : decode cX2_readClause 92 = .ok (.ireturn, 1) := by decide +kernel
theorem dX2_readClause_93 : decode cX2_readClause 93 = .ok (.aload_n 0, 1) := by decide +kernel
theorem dX2_readClause_94 : decode cX2_readClause 94 = .ok (.iload_n 1, 1) := by decide +kernel
theorem dX2_readClause_95 : decode cX2_readClause 95 = .ok (.iconst 4, 1) := by decide +kernel
theorem dX2_readClause_96 : decode cX2_readClause 96 = .ok (.if_icmp .ne 7, 3) := by decide +kernel
theorem dX2_readClause_99 : decode cX2_readClause 99 = .ok (.iconst 1, 1) := by decide +kernel
theorem dX2_readClause_100 : decode cX2_readClause 100 = .ok (.goto 4, 3) := by decide +kernel
theorem dX2_readClause_103 : decode cX2_readClause 103 = .ok (.iconst 0, 1) := by decide +kernel
theorem dX2_readClause_104 : decode cX2_readClause 104 = .ok (.invokevirtual 79, 3) := by decide +kernel
theorem dX2_readClause_107 : decode cX2_readClause 107 = .ok (.ireturn, 1) := by decide +kernel
theorem dX2_readClause_108 : decode cX2_readClause 108 = .ok (.aload_n 0, 1) := by decide +kernel
theorem dX2_readClause_109 : decode cX2_readClause 109 = .ok (.iload_n 1, 1) := by decide +kernel
theorem dX2_readClause_110 : decode cX2_readClause 110 = .ok (.invokevirtual 83, 3) := by decide +kernel
theorem dX2_readClause_113 : decode cX2_readClause 113 = .ok (.ireturn, 1) := by decide +kernel
set_option maxRecDepth 20000 in
theorem ggX2_wordHere_X2_isWord : GoodIn wsX2_wordHere wsX2_isWord := goodIn_r _ [5, 6, 7, 8, 9, 10, 11, 12, 13, 14, 15, 16, 17, 18, 19, 20, 21, 22, 23, 24, 25, 26, 27, 28, 29, 30, 31, 32, 33, 34, 35, 36, 37, 38, 39, 40, 41, 42, 43, 44, 45, 46, 47, 48, 49, 50, 51, 52, 53, 54, 55, 56, 57, 58, 59, 60, 61, 62, 63, 64, 65, 66, 67, 68, 69, 70, 71] (by decide +kernel) (by decide +kernel)
set_option maxRecDepth 20000 in
theorem gX2_wordHere_X2_isWord : GoodIn wsX2_wordHere (wsV RX2 88 RX2 yX2_isWord wsX2_isWord) := goodIn_app (goodIn_of _ (by decide +kernel)) ggX2_wordHere_X2_isWord
theorem dX2_wordHere_0 : decode cX2_wordHere 0 = .ok (.aload_n 0, 1) := by decide +kernel
theorem dX2_wordHere_1 : decode cX2_wordHere 1 = .ok (.ldc 86, 2) := by decide +kernel
theorem dX2_wordHere_3 : decode cX2_wordHere 3 = .ok (.invokevirtual 88, 3) := by decide +kernel
theorem dX2_wordHere_6 : decode cX2_wordHere 6 = .ok (.ifCond .eq 5, 3) := by decide +kernel
theorem dX2_wordHere_9 : decode cX2_wordHere 9 = .ok (.iconst 0, 1) := by decide +kernel
theorem dX2_wordHere_10 : decode cX2_wordHere 10 = .ok (.ireturn, 1) := by decide +kernel
theorem dX2_wordHere_11 : decode cX2_wordHere 11 = .ok (.aload_n 0, 1) := by decide +kernel
theorem dX2_wordHere_12 : decode cX2_wordHere 12 = .ok (.ldc 92, 2) := by decide +kernel
theorem dX2_wordHere_14 : decode cX2_wordHere 14 = .ok (.invokevirtual 88, 3) := by decide +kernel
theorem dX2_wordHere_17 : decode cX2_wordHere 17 = .ok (.ifCond .eq 5, 3) := by decide +kernel
theorem dX2_wordHere_20 : decode cX2_wordHere 20 = .ok (.iconst 1, 1) := by decide +kernel
theorem dX2_wordHere_21 : decode cX2_wordHere 21 = .ok (.ireturn, 1) := by decide +kernel
theorem dX2_wordHere_22 : decode cX2_wordHere 22 = .ok (.aload_n 0, 1) := by decide +kernel
theorem dX2_wordHere_23 : decode cX2_wordHere 23 = .ok (.ldc 94, 2) := by decide +kernel
theorem dX2_wordHere_25 : decode cX2_wordHere 25 = .ok (.invokevirtual 88, 3) := by decide +kernel
theorem dX2_wordHere_28 : decode cX2_wordHere 28 = .ok (.ifCond .eq 5, 3) := by decide +kernel
theorem dX2_wordHere_31 : decode cX2_wordHere 31 = .ok (.iconst 2, 1) := by decide +kernel
theorem dX2_wordHere_32 : decode cX2_wordHere 32 = .ok (.ireturn, 1) := by decide +kernel
theorem dX2_wordHere_33 : decode cX2_wordHere 33 = .ok (.aload_n 0, 1) := by decide +kernel
theorem dX2_wordHere_34 : decode cX2_wordHere 34 = .ok (.ldc 96, 2) := by decide +kernel
theorem dX2_wordHere_36 : decode cX2_wordHere 36 = .ok (.invokevirtual 88, 3) := by decide +kernel
theorem dX2_wordHere_39 : decode cX2_wordHere 39 = .ok (.ifCond .eq 5, 3) := by decide +kernel
theorem dX2_wordHere_42 : decode cX2_wordHere 42 = .ok (.iconst 3, 1) := by decide +kernel
theorem dX2_wordHere_43 : decode cX2_wordHere 43 = .ok (.ireturn, 1) := by decide +kernel
theorem dX2_wordHere_44 : decode cX2_wordHere 44 = .ok (.aload_n 0, 1) := by decide +kernel
theorem dX2_wordHere_45 : decode cX2_wordHere 45 = .ok (.ldc 98, 2) := by decide +kernel
theorem dX2_wordHere_47 : decode cX2_wordHere 47 = .ok (.invokevirtual 88, 3) := by decide +kernel
theorem dX2_wordHere_50 : decode cX2_wordHere 50 = .ok (.ifCond .eq 5, 3) := by decide +kernel
theorem dX2_wordHere_53 : decode cX2_wordHere 53 = .ok (.iconst 4, 1) := by decide +kernel
theorem dX2_wordHere_54 : decode cX2_wordHere 54 = .ok (.ireturn, 1) := by decide +kernel
theorem dX2_wordHere_55 : decode cX2_wordHere 55 = .ok (.aload_n 0, 1) := by decide +kernel
theorem dX2_wordHere_56 : decode cX2_wordHere 56 = .ok (.ldc 100, 2) := by decide +kernel
theorem dX2_wordHere_58 : decode cX2_wordHere 58 = .ok (.invokevirtual 88, 3) := by decide +kernel
theorem dX2_wordHere_61 : decode cX2_wordHere 61 = .ok (.ifCond .eq 5, 3) := by decide +kernel
theorem dX2_wordHere_64 : decode cX2_wordHere 64 = .ok (.iconst 5, 1) := by decide +kernel
theorem dX2_wordHere_65 : decode cX2_wordHere 65 = .ok (.ireturn, 1) := by decide +kernel
theorem dX2_wordHere_66 : decode cX2_wordHere 66 = .ok (.aload_n 0, 1) := by decide +kernel
theorem dX2_wordHere_67 : decode cX2_wordHere 67 = .ok (.ldc 102, 2) := by decide +kernel
theorem dX2_wordHere_69 : decode cX2_wordHere 69 = .ok (.invokevirtual 88, 3) := by decide +kernel
theorem dX2_wordHere_72 : decode cX2_wordHere 72 = .ok (.ifCond .eq 6, 3) := by decide +kernel
theorem dX2_wordHere_75 : decode cX2_wordHere 75 = .ok (.bipush 6, 2) := by decide +kernel
theorem dX2_wordHere_77 : decode cX2_wordHere 77 = .ok (.ireturn, 1) := by decide +kernel
theorem dX2_wordHere_78 : decode cX2_wordHere 78 = .ok (.aload_n 0, 1) := by decide +kernel
theorem dX2_wordHere_79 : decode cX2_wordHere 79 = .ok (.ldc 104, 2) := by decide +kernel
theorem dX2_wordHere_81 : decode cX2_wordHere 81 = .ok (.invokevirtual 88, 3) := by decide +kernel
theorem dX2_wordHere_84 : decode cX2_wordHere 84 = .ok (.ifCond .eq 6, 3) := by decide +kernel
theorem dX2_wordHere_87 : decode cX2_wordHere 87 = .ok (.bipush 7, 2) := by decide +kernel
theorem dX2_wordHere_89 : decode cX2_wordHere 89 = .ok (.ireturn, 1) := by decide +kernel
theorem dX2_wordHere_90 : decode cX2_wordHere 90 = .ok (.aload_n 0, 1) := by decide +kernel
theorem dX2_wordHere_91 : decode cX2_wordHere 91 = .ok (.ldc 106, 2) := by decide +kernel
theorem dX2_wordHere_93 : decode cX2_wordHere 93 = .ok (.invokevirtual 88, 3) := by decide +kernel
theorem dX2_wordHere_96 : decode cX2_wordHere 96 = .ok (.ifCond .eq 6, 3) := by decide +kernel
theorem dX2_wordHere_99 : decode cX2_wordHere 99 = .ok (.bipush 8, 2) := by decide +kernel
theorem dX2_wordHere_101 : decode cX2_wordHere 101 = .ok (.ireturn, 1) := by decide +kernel
theorem dX2_wordHere_102 : decode cX2_wordHere 102 = .ok (.aload_n 0, 1) := by decide +kernel
theorem dX2_wordHere_103 : decode cX2_wordHere 103 = .ok (.ldc 108, 2) := by decide +kernel
theorem dX2_wordHere_105 : decode cX2_wordHere 105 = .ok (.invokevirtual 88, 3) := by decide +kernel
theorem dX2_wordHere_108 : decode cX2_wordHere 108 = .ok (.ifCond .eq 8, 3) := by decide +kernel
theorem dX2_wordHere_111 : decode cX2_wordHere 111 = .ok (.bipush 9, 2) := by decide +kernel
theorem dX2_wordHere_113 : decode cX2_wordHere 113 = .ok (.goto 4, 3) := by decide +kernel
theorem dX2_wordHere_116 : decode cX2_wordHere 116 = .ok (.iconst (-1), 1) := by decide +kernel
theorem dX2_wordHere_117 : decode cX2_wordHere 117 = .ok (.ireturn, 1) := by decide +kernel
set_option maxRecDepth 20000 in
theorem ggX2_isWord_J0_length_8abf5 : GoodIn wsX2_isWord wsJ0_length_8abf5 := goodIn_r _ [8, 9, 10, 11, 12, 7, 13, 14, 15] (by decide +kernel) (by decide +kernel)
set_option maxRecDepth 20000 in
theorem gX2_isWord_J0_length_8abf5 : GoodIn wsX2_isWord (wsV RX2 110 RJ0 yJ0_length_8abf5 wsJ0_length_8abf5) := goodIn_app (goodIn_of _ (by decide +kernel)) ggX2_isWord_J0_length_8abf5
set_option maxRecDepth 20000 in
theorem ggX2_isWord_X0_at : GoodIn wsX2_isWord wsX0_at := goodIn_r _ [20, 21, 22, 65, 66] (by decide +kernel) (by decide +kernel)
set_option maxRecDepth 20000 in
theorem gX2_isWord_X0_at : GoodIn wsX2_isWord (wsV RX2 49 RX0 yX0_at wsX0_at) := goodIn_app (goodIn_of _ (by decide +kernel)) ggX2_isWord_X0_at
set_option maxRecDepth 20000 in
theorem ggX2_isWord_J0_charAt_5068e : GoodIn wsX2_isWord wsJ0_charAt_5068e := goodIn_r _ [26, 9, 27, 28, 29, 7, 30, 14, 15, 31, 32, 33, 34, 35, 36, 37, 38, 39, 40, 41, 42, 43, 44, 45, 46, 47, 48, 49, 50, 51, 52, 53, 54, 55, 56, 57, 58, 59] (by decide +kernel) (by decide +kernel)
set_option maxRecDepth 20000 in
theorem gX2_isWord_J0_charAt_5068e : GoodIn wsX2_isWord (wsV RX2 114 RJ0 yJ0_charAt_5068e wsJ0_charAt_5068e) := goodIn_app (goodIn_of _ (by decide +kernel)) ggX2_isWord_J0_charAt_5068e
theorem dX2_isWord_0 : decode cX2_isWord 0 = .ok (.aload_n 0, 1) := by decide +kernel
theorem dX2_isWord_1 : decode cX2_isWord 1 = .ok (.getfield 29, 3) := by decide +kernel
theorem dX2_isWord_4 : decode cX2_isWord 4 = .ok (.aload_n 0, 1) := by decide +kernel
theorem dX2_isWord_5 : decode cX2_isWord 5 = .ok (.getfield 43, 3) := by decide +kernel
theorem dX2_isWord_8 : decode cX2_isWord 8 = .ok (.isub, 1) := by decide +kernel
theorem dX2_isWord_9 : decode cX2_isWord 9 = .ok (.aload_n 1, 1) := by decide +kernel
theorem dX2_isWord_10 : decode cX2_isWord 10 = .ok (.invokevirtual 110, 3) := by decide +kernel
theorem dX2_isWord_13 : decode cX2_isWord 13 = .ok (.if_icmp .eq 5, 3) := by decide +kernel
theorem dX2_isWord_16 : decode cX2_isWord 16 = .ok (.iconst 0, 1) := by decide +kernel
theorem dX2_isWord_17 : decode cX2_isWord 17 = .ok (.ireturn, 1) := by decide +kernel
theorem dX2_isWord_18 : decode cX2_isWord 18 = .ok (.iconst 0, 1) := by decide +kernel
theorem dX2_isWord_19 : decode cX2_isWord 19 = .ok (.istore_n 2, 1) := by decide +kernel
theorem dX2_isWord_20 : decode cX2_isWord 20 = .ok (.iload_n 2, 1) := by decide +kernel
theorem dX2_isWord_21 : decode cX2_isWord 21 = .ok (.aload_n 1, 1) := by decide +kernel
theorem dX2_isWord_22 : decode cX2_isWord 22 = .ok (.invokevirtual 110, 3) := by decide +kernel
theorem dX2_isWord_25 : decode cX2_isWord 25 = .ok (.if_icmp .ge 32, 3) := by decide +kernel
theorem dX2_isWord_28 : decode cX2_isWord 28 = .ok (.aload_n 0, 1) := by decide +kernel
theorem dX2_isWord_29 : decode cX2_isWord 29 = .ok (.getfield 12, 3) := by decide +kernel
theorem dX2_isWord_32 : decode cX2_isWord 32 = .ok (.aload_n 0, 1) := by decide +kernel
theorem dX2_isWord_33 : decode cX2_isWord 33 = .ok (.getfield 43, 3) := by decide +kernel
theorem dX2_isWord_36 : decode cX2_isWord 36 = .ok (.iload_n 2, 1) := by decide +kernel
theorem dX2_isWord_37 : decode cX2_isWord 37 = .ok (.iadd, 1) := by decide +kernel
theorem dX2_isWord_38 : decode cX2_isWord 38 = .ok (.invokevirtual 49, 3) := by decide +kernel
theorem dX2_isWord_41 : decode cX2_isWord 41 = .ok (.aload_n 1, 1) := by decide +kernel
theorem dX2_isWord_42 : decode cX2_isWord 42 = .ok (.iload_n 2, 1) := by decide +kernel
theorem dX2_isWord_43 : decode cX2_isWord 43 = .ok (.invokevirtual 114, 3) := by decide +kernel
theorem dX2_isWord_46 : decode cX2_isWord 46 = .ok (.if_icmp .eq 5, 3) := by decide +kernel
theorem dX2_isWord_49 : decode cX2_isWord 49 = .ok (.iconst 0, 1) := by decide +kernel
theorem dX2_isWord_50 : decode cX2_isWord 50 = .ok (.ireturn, 1) := by decide +kernel
theorem dX2_isWord_51 : decode cX2_isWord 51 = .ok (.iinc 2 1, 3) := by decide +kernel
theorem dX2_isWord_54 : decode cX2_isWord 54 = .ok (.goto (-34), 3) := by decide +kernel
theorem dX2_isWord_57 : decode cX2_isWord 57 = .ok (.iconst 1, 1) := by decide +kernel
theorem dX2_isWord_58 : decode cX2_isWord 58 = .ok (.ireturn, 1) := by decide +kernel
theorem dX2_hasRoomFor_0 : decode cX2_hasRoomFor 0 = .ok (.iload_n 1, 1) := by decide +kernel
theorem dX2_hasRoomFor_1 : decode cX2_hasRoomFor 1 = .ok (.bipush 7, 2) := by decide +kernel
theorem dX2_hasRoomFor_3 : decode cX2_hasRoomFor 3 = .ok (.if_icmp .ne 21, 3) := by decide +kernel
theorem dX2_hasRoomFor_6 : decode cX2_hasRoomFor 6 = .ok (.aload_n 0, 1) := by decide +kernel
theorem dX2_hasRoomFor_7 : decode cX2_hasRoomFor 7 = .ok (.getfield 21, 3) := by decide +kernel
theorem dX2_hasRoomFor_10 : decode cX2_hasRoomFor 10 = .ok (.getfield 70, 3) := by decide +kernel
theorem dX2_hasRoomFor_13 : decode cX2_hasRoomFor 13 = .ok (.bipush 6, 2) := by decide +kernel
theorem dX2_hasRoomFor_15 : decode cX2_hasRoomFor 15 = .ok (.if_icmp .ge 7, 3) := by decide +kernel
theorem dX2_hasRoomFor_18 : decode cX2_hasRoomFor 18 = .ok (.iconst 1, 1) := by decide +kernel
theorem dX2_hasRoomFor_19 : decode cX2_hasRoomFor 19 = .ok (.goto 4, 3) := by decide +kernel
theorem dX2_hasRoomFor_22 : decode cX2_hasRoomFor 22 = .ok (.iconst 0, 1) := by decide +kernel
theorem dX2_hasRoomFor_23 : decode cX2_hasRoomFor 23 = .ok (.ireturn, 1) := by decide +kernel
theorem dX2_hasRoomFor_24 : decode cX2_hasRoomFor 24 = .ok (.iload_n 1, 1) := by decide +kernel
theorem dX2_hasRoomFor_25 : decode cX2_hasRoomFor 25 = .ok (.iconst 3, 1) := by decide +kernel
theorem dX2_hasRoomFor_26 : decode cX2_hasRoomFor 26 = .ok (.if_icmp .gt 15, 3) := by decide +kernel
theorem dX2_hasRoomFor_29 : decode cX2_hasRoomFor 29 = .ok (.aload_n 0, 1) := by decide +kernel
theorem dX2_hasRoomFor_30 : decode cX2_hasRoomFor 30 = .ok (.getfield 21, 3) := by decide +kernel
theorem dX2_hasRoomFor_33 : decode cX2_hasRoomFor 33 = .ok (.getfield 118, 3) := by decide +kernel
theorem dX2_hasRoomFor_36 : decode cX2_hasRoomFor 36 = .ok (.bipush 7, 2) := by decide +kernel
theorem dX2_hasRoomFor_38 : decode cX2_hasRoomFor 38 = .ok (.if_icmp .ge 7, 3) := by decide +kernel
theorem dX2_hasRoomFor_41 : decode cX2_hasRoomFor 41 = .ok (.iconst 1, 1) := by decide +kernel
theorem dX2_hasRoomFor_42 : decode cX2_hasRoomFor 42 = .ok (.goto 4, 3) := by decide +kernel
theorem dX2_hasRoomFor_45 : decode cX2_hasRoomFor 45 = .ok (.iconst 0, 1) := by decide +kernel
theorem dX2_hasRoomFor_46 : decode cX2_hasRoomFor 46 = .ok (.ireturn, 1) := by decide +kernel
set_option maxRecDepth 20000 in
theorem ggX2_readButton_X2_numberHere : GoodIn wsX2_readButton wsX2_numberHere := goodIn_r _ [6, 7, 8, 9, 10, 11, 12, 5, 13, 14, 15, 16, 17, 18, 19, 20, 40, 41, 42, 43, 44, 45, 46] (by decide +kernel) (by decide +kernel)
set_option maxRecDepth 20000 in
theorem gX2_readButton_X2_numberHere : GoodIn wsX2_readButton (wsV RX2 121 RX2 yX2_numberHere wsX2_numberHere) := goodIn_app (goodIn_of _ (by decide +kernel)) ggX2_readButton_X2_numberHere
set_option maxRecDepth 20000 in
theorem ggX2_readButton_X2_next : GoodIn wsX2_readButton wsX2_next := goodIn_r _ [24, 8, 7, 9, 25, 14, 15, 16, 17, 18, 19, 20, 26, 27, 28, 5, 29, 10, 11, 12, 13, 40, 41, 42, 43, 44, 45, 46] (by decide +kernel) (by decide +kernel)
set_option maxRecDepth 20000 in
theorem gX2_readButton_X2_next : GoodIn wsX2_readButton (wsV RX2 33 RX2 yX2_next wsX2_next) := goodIn_app (goodIn_of _ (by decide +kernel)) ggX2_readButton_X2_next
set_option maxRecDepth 20000 in
theorem ggX2_readButton_X5_addFamily : GoodIn wsX2_readButton wsX5_addFamily := goodIn_r _ [34, 35, 36, 37, 38, 39, 47, 48, 49, 50, 51, 52, 53, 54] (by decide +kernel) (by decide +kernel)
set_option maxRecDepth 20000 in
theorem gX2_readButton_X5_addFamily : GoodIn wsX2_readButton (wsV RX2 125 RX5 yX5_addFamily wsX5_addFamily) := goodIn_app (goodIn_of _ (by decide +kernel)) ggX2_readButton_X5_addFamily
theorem dX2_readButton_0 : decode cX2_readButton 0 = .ok (.aload_n 0, 1) := by decide +kernel
theorem dX2_readButton_1 : decode cX2_readButton 1 = .ok (.iconst 1, 1) := by decide +kernel
theorem dX2_readButton_2 : decode cX2_readButton 2 = .ok (.bipush 9, 2) := by decide +kernel
theorem dX2_readButton_4 : decode cX2_readButton 4 = .ok (.invokevirtual 121, 3) := by decide +kernel
theorem dX2_readButton_7 : decode cX2_readButton 7 = .ok (.istore_n 2, 1) := by decide +kernel
theorem dX2_readButton_8 : decode cX2_readButton 8 = .ok (.iload_n 2, 1) := by decide +kernel
theorem dX2_readButton_9 : decode cX2_readButton 9 = .ok (.iconst (-1), 1) := by decide +kernel
theorem dX2_readButton_10 : decode cX2_readButton 10 = .ok (.if_icmp .ne 5, 3) := by decide +kernel
theorem dX2_readButton_13 : decode cX2_readButton 13 = .ok (.iconst 0, 1) := by decide +kernel
theorem dX2_readButton_14 : decode cX2_readButton 14 = .ok (.ireturn, 1) := by decide +kernel
theorem dX2_readButton_15 : decode cX2_readButton 15 = .ok (.aload_n 0, 1) := by decide +kernel
theorem dX2_readButton_16 : decode cX2_readButton 16 = .ok (.invokevirtual 33, 3) := by decide +kernel
theorem dX2_readButton_19 : decode cX2_readButton 19 = .ok (.aload_n 0, 1) := by decide +kernel
theorem dX2_readButton_20 : decode cX2_readButton 20 = .ok (.iconst 0, 1) := by decide +kernel
theorem dX2_readButton_21 : decode cX2_readButton 21 = .ok (.bipush 99, 2) := by decide +kernel
theorem dX2_readButton_23 : decode cX2_readButton 23 = .ok (.invokevirtual 121, 3) := by decide +kernel
theorem dX2_readButton_26 : decode cX2_readButton 26 = .ok (.istore_n 3, 1) := by decide +kernel
theorem dX2_readButton_27 : decode cX2_readButton 27 = .ok (.iload_n 3, 1) := by decide +kernel
theorem dX2_readButton_28 : decode cX2_readButton 28 = .ok (.iconst (-1), 1) := by decide +kernel
theorem dX2_readButton_29 : decode cX2_readButton 29 = .ok (.if_icmp .ne 5, 3) := by decide +kernel
theorem dX2_readButton_32 : decode cX2_readButton 32 = .ok (.iconst 0, 1) := by decide +kernel
theorem dX2_readButton_33 : decode cX2_readButton 33 = .ok (.ireturn, 1) := by decide +kernel
theorem dX2_readButton_34 : decode cX2_readButton 34 = .ok (.aload_n 0, 1) := by decide +kernel
theorem dX2_readButton_35 : decode cX2_readButton 35 = .ok (.invokevirtual 33, 3) := by decide +kernel
theorem dX2_readButton_38 : decode cX2_readButton 38 = .ok (.aload_n 0, 1) := by decide +kernel
theorem dX2_readButton_39 : decode cX2_readButton 39 = .ok (.getfield 21, 3) := by decide +kernel
theorem dX2_readButton_42 : decode cX2_readButton 42 = .ok (.iload_n 1, 1) := by decide +kernel
theorem dX2_readButton_43 : decode cX2_readButton 43 = .ok (.iload_n 2, 1) := by decide +kernel
theorem dX2_readButton_44 : decode cX2_readButton 44 = .ok (.iload_n 3, 1) := by decide +kernel
theorem dX2_readButton_45 : decode cX2_readButton 45 = .ok (.invokevirtual 125, 3) := by decide +kernel
theorem dX2_readButton_48 : decode cX2_readButton 48 = .ok (.iconst 1, 1) := by decide +kernel
theorem dX2_readButton_49 : decode cX2_readButton 49 = .ok (.ireturn, 1) := by decide +kernel
set_option maxRecDepth 20000 in
theorem ggX2_readFavour_X2_numberHere : GoodIn wsX2_readFavour wsX2_numberHere := goodIn_r _ [8, 9, 10, 11, 12, 13, 14, 7, 15, 16, 17, 18, 19, 20, 21, 22, 38, 39, 40, 41, 42, 51, 52] (by decide +kernel) (by decide +kernel)
set_option maxRecDepth 20000 in
theorem gX2_readFavour_X2_numberHere : GoodIn wsX2_readFavour (wsV RX2 121 RX2 yX2_numberHere wsX2_numberHere) := goodIn_app (goodIn_of _ (by decide +kernel)) ggX2_readFavour_X2_numberHere
set_option maxRecDepth 20000 in
theorem ggX2_readFavour_X2_next : GoodIn wsX2_readFavour wsX2_next := goodIn_r _ [26, 10, 9, 11, 27, 16, 17, 18, 19, 20, 21, 22, 28, 29, 30, 7, 31, 12, 13, 14, 15, 38, 39, 40, 41, 42, 51, 52] (by decide +kernel) (by decide +kernel)
set_option maxRecDepth 20000 in
theorem gX2_readFavour_X2_next : GoodIn wsX2_readFavour (wsV RX2 33 RX2 yX2_next wsX2_next) := goodIn_app (goodIn_of _ (by decide +kernel)) ggX2_readFavour_X2_next
set_option maxRecDepth 20000 in
theorem ggX2_readFavour_X8_with : GoodIn wsX2_readFavour wsX8_with := goodIn_r _ [34, 35, 36, 33, 37] (by decide +kernel) (by decide +kernel)
set_option maxRecDepth 20000 in
theorem gX2_readFavour_X8_with_n133 : GoodIn wsX2_readFavour (wsX8_with) := ggX2_readFavour_X8_with
theorem dX2_readFavour_0 : decode cX2_readFavour 0 = .ok (.aload_n 0, 1) := by decide +kernel
theorem dX2_readFavour_1 : decode cX2_readFavour 1 = .ok (.iconst 0, 1) := by decide +kernel
theorem dX2_readFavour_2 : decode cX2_readFavour 2 = .ok (.aload_n 0, 1) := by decide +kernel
theorem dX2_readFavour_3 : decode cX2_readFavour 3 = .ok (.getfield 21, 3) := by decide +kernel
theorem dX2_readFavour_6 : decode cX2_readFavour 6 = .ok (.getfield 118, 3) := by decide +kernel
theorem dX2_readFavour_9 : decode cX2_readFavour 9 = .ok (.iconst 1, 1) := by decide +kernel
theorem dX2_readFavour_10 : decode cX2_readFavour 10 = .ok (.isub, 1) := by decide +kernel
theorem dX2_readFavour_11 : decode cX2_readFavour 11 = .ok (.invokevirtual 121, 3) := by decide +kernel
theorem dX2_readFavour_14 : decode cX2_readFavour 14 = .ok (.istore_n 2, 1) := by decide +kernel
theorem dX2_readFavour_15 : decode cX2_readFavour 15 = .ok (.iload_n 2, 1) := by decide +kernel
theorem dX2_readFavour_16 : decode cX2_readFavour 16 = .ok (.iconst (-1), 1) := by decide +kernel
theorem dX2_readFavour_17 : decode cX2_readFavour 17 = .ok (.if_icmp .ne 5, 3) := by decide +kernel
theorem dX2_readFavour_20 : decode cX2_readFavour 20 = .ok (.iconst 0, 1) := by decide +kernel
theorem dX2_readFavour_21 : decode cX2_readFavour 21 = .ok (.ireturn, 1) := by decide +kernel
theorem dX2_readFavour_22 : decode cX2_readFavour 22 = .ok (.aload_n 0, 1) := by decide +kernel
theorem dX2_readFavour_23 : decode cX2_readFavour 23 = .ok (.invokevirtual 33, 3) := by decide +kernel
theorem dX2_readFavour_26 : decode cX2_readFavour 26 = .ok (.aload_n 0, 1) := by decide +kernel
theorem dX2_readFavour_27 : decode cX2_readFavour 27 = .ok (.iconst 0, 1) := by decide +kernel
theorem dX2_readFavour_28 : decode cX2_readFavour 28 = .ok (.aload_n 0, 1) := by decide +kernel
theorem dX2_readFavour_29 : decode cX2_readFavour 29 = .ok (.getfield 21, 3) := by decide +kernel
theorem dX2_readFavour_32 : decode cX2_readFavour 32 = .ok (.getfield 118, 3) := by decide +kernel
theorem dX2_readFavour_35 : decode cX2_readFavour 35 = .ok (.iconst 1, 1) := by decide +kernel
theorem dX2_readFavour_36 : decode cX2_readFavour 36 = .ok (.isub, 1) := by decide +kernel
theorem dX2_readFavour_37 : decode cX2_readFavour 37 = .ok (.invokevirtual 121, 3) := by decide +kernel
theorem dX2_readFavour_40 : decode cX2_readFavour 40 = .ok (.istore_n 3, 1) := by decide +kernel
theorem dX2_readFavour_41 : decode cX2_readFavour 41 = .ok (.iload_n 3, 1) := by decide +kernel
theorem dX2_readFavour_42 : decode cX2_readFavour 42 = .ok (.iconst (-1), 1) := by decide +kernel
theorem dX2_readFavour_43 : decode cX2_readFavour 43 = .ok (.if_icmp .eq 8, 3) := by decide +kernel
theorem dX2_readFavour_46 : decode cX2_readFavour 46 = .ok (.iload_n 3, 1) := by decide +kernel
theorem dX2_readFavour_47 : decode cX2_readFavour 47 = .ok (.iload_n 2, 1) := by decide +kernel
theorem dX2_readFavour_48 : decode cX2_readFavour 48 = .ok (.if_icmp .ne 5, 3) := by decide +kernel
theorem dX2_readFavour_51 : decode cX2_readFavour 51 = .ok (.iconst 0, 1) := by decide +kernel
theorem dX2_readFavour_52 : decode cX2_readFavour 52 = .ok (.ireturn, 1) := by decide +kernel
theorem dX2_readFavour_53 : decode cX2_readFavour 53 = .ok (.aload_n 0, 1) := by decide +kernel
theorem dX2_readFavour_54 : decode cX2_readFavour 54 = .ok (.invokevirtual 33, 3) := by decide +kernel
theorem dX2_readFavour_57 : decode cX2_readFavour 57 = .ok (.aload_n 0, 1) := by decide +kernel
theorem dX2_readFavour_58 : decode cX2_readFavour 58 = .ok (.getfield 21, 3) := by decide +kernel
theorem dX2_readFavour_61 : decode cX2_readFavour 61 = .ok (.getfield 129, 3) := by decide +kernel
theorem dX2_readFavour_64 : decode cX2_readFavour 64 = .ok (.iload_n 3, 1) := by decide +kernel
theorem dX2_readFavour_65 : decode cX2_readFavour 65 = .ok (.aload_n 0, 1) := by decide +kernel
theorem dX2_readFavour_66 : decode cX2_readFavour 66 = .ok (.getfield 21, 3) := by decide +kernel
theorem dX2_readFavour_69 : decode cX2_readFavour 69 = .ok (.getfield 129, 3) := by decide +kernel
theorem dX2_readFavour_72 : decode cX2_readFavour 72 = .ok (.iload_n 3, 1) := by decide +kernel
theorem dX2_readFavour_73 : decode cX2_readFavour 73 = .ok (.iaload, 1) := by decide +kernel
theorem dX2_readFavour_74 : decode cX2_readFavour 74 = .ok (.iload_n 2, 1) := by decide +kernel
theorem dX2_readFavour_75 : decode cX2_readFavour 75 = .ok (.iload_n 1, 1) := by decide +kernel
theorem dX2_readFavour_76 : decode cX2_readFavour 76 = .ok (.invokestatic 133, 3) := by decide +kernel
theorem dX2_readFavour_79 : decode cX2_readFavour 79 = .ok (.iastore, 1) := by decide +kernel
theorem dX2_readFavour_80 : decode cX2_readFavour 80 = .ok (.iconst 1, 1) := by decide +kernel
theorem dX2_readFavour_81 : decode cX2_readFavour 81 = .ok (.ireturn, 1) := by decide +kernel
set_option maxRecDepth 20000 in
theorem ggX2_readQuota_X2_numberHere : GoodIn wsX2_readQuota wsX2_numberHere := goodIn_r _ [7, 8, 9, 10, 11, 12, 13, 6, 14, 15, 16, 17, 18, 19, 20, 21, 31, 32, 33, 34, 35, 44, 45] (by decide +kernel) (by decide +kernel)
set_option maxRecDepth 20000 in
theorem gX2_readQuota_X2_numberHere : GoodIn wsX2_readQuota (wsV RX2 121 RX2 yX2_numberHere wsX2_numberHere) := goodIn_app (goodIn_of _ (by decide +kernel)) ggX2_readQuota_X2_numberHere
set_option maxRecDepth 20000 in
theorem ggX2_readQuota_X2_next : GoodIn wsX2_readQuota wsX2_next := goodIn_r _ [25, 9, 8, 10, 26, 15, 16, 17, 18, 19, 20, 21, 27, 28, 29, 6, 30, 11, 12, 13, 14, 31, 32, 33, 34, 35, 44, 45] (by decide +kernel) (by decide +kernel)
set_option maxRecDepth 20000 in
theorem gX2_readQuota_X2_next : GoodIn wsX2_readQuota (wsV RX2 33 RX2 yX2_next wsX2_next) := goodIn_app (goodIn_of _ (by decide +kernel)) ggX2_readQuota_X2_next
theorem dX2_readQuota_0 : decode cX2_readQuota 0 = .ok (.aload_n 0, 1) := by decide +kernel
theorem dX2_readQuota_1 : decode cX2_readQuota 1 = .ok (.iconst 1, 1) := by decide +kernel
theorem dX2_readQuota_2 : decode cX2_readQuota 2 = .ok (.bipush 20, 2) := by decide +kernel
theorem dX2_readQuota_4 : decode cX2_readQuota 4 = .ok (.invokevirtual 121, 3) := by decide +kernel
theorem dX2_readQuota_7 : decode cX2_readQuota 7 = .ok (.istore_n 1, 1) := by decide +kernel
theorem dX2_readQuota_8 : decode cX2_readQuota 8 = .ok (.iload_n 1, 1) := by decide +kernel
theorem dX2_readQuota_9 : decode cX2_readQuota 9 = .ok (.iconst (-1), 1) := by decide +kernel
theorem dX2_readQuota_10 : decode cX2_readQuota 10 = .ok (.if_icmp .ne 5, 3) := by decide +kernel
theorem dX2_readQuota_13 : decode cX2_readQuota 13 = .ok (.iconst 0, 1) := by decide +kernel
theorem dX2_readQuota_14 : decode cX2_readQuota 14 = .ok (.ireturn, 1) := by decide +kernel
theorem dX2_readQuota_15 : decode cX2_readQuota 15 = .ok (.aload_n 0, 1) := by decide +kernel
theorem dX2_readQuota_16 : decode cX2_readQuota 16 = .ok (.invokevirtual 33, 3) := by decide +kernel
theorem dX2_readQuota_19 : decode cX2_readQuota 19 = .ok (.aload_n 0, 1) := by decide +kernel
theorem dX2_readQuota_20 : decode cX2_readQuota 20 = .ok (.getfield 21, 3) := by decide +kernel
theorem dX2_readQuota_23 : decode cX2_readQuota 23 = .ok (.iload_n 1, 1) := by decide +kernel
theorem dX2_readQuota_24 : decode cX2_readQuota 24 = .ok (.putfield 137, 3) := by decide +kernel
theorem dX2_readQuota_27 : decode cX2_readQuota 27 = .ok (.iconst 1, 1) := by decide +kernel
theorem dX2_readQuota_28 : decode cX2_readQuota 28 = .ok (.ireturn, 1) := by decide +kernel
set_option maxRecDepth 20000 in
theorem ggX2_readCold_X2_numberHere : GoodIn wsX2_readCold wsX2_numberHere := goodIn_r _ [6, 7, 8, 9, 10, 11, 12, 5, 13, 14, 15, 16, 17, 18, 19, 20, 37, 38, 39, 40, 41, 42, 43] (by decide +kernel) (by decide +kernel)
set_option maxRecDepth 20000 in
theorem gX2_readCold_X2_numberHere : GoodIn wsX2_readCold (wsV RX2 121 RX2 yX2_numberHere wsX2_numberHere) := goodIn_app (goodIn_of _ (by decide +kernel)) ggX2_readCold_X2_numberHere
set_option maxRecDepth 20000 in
theorem ggX2_readCold_X2_next : GoodIn wsX2_readCold wsX2_next := goodIn_r _ [24, 8, 7, 9, 25, 14, 15, 16, 17, 18, 19, 20, 26, 27, 28, 5, 29, 10, 11, 12, 13, 37, 38, 39, 40, 41, 42, 43] (by decide +kernel) (by decide +kernel)
set_option maxRecDepth 20000 in
theorem gX2_readCold_X2_next : GoodIn wsX2_readCold (wsV RX2 33 RX2 yX2_next wsX2_next) := goodIn_app (goodIn_of _ (by decide +kernel)) ggX2_readCold_X2_next
set_option maxRecDepth 20000 in
theorem ggX2_readCold_X5_addCold : GoodIn wsX2_readCold wsX5_addCold := goodIn_r _ [34, 35, 36, 44, 45, 46, 47, 48, 49, 50, 51] (by decide +kernel) (by decide +kernel)
set_option maxRecDepth 20000 in
theorem gX2_readCold_X5_addCold : GoodIn wsX2_readCold (wsV RX2 139 RX5 yX5_addCold wsX5_addCold) := goodIn_app (goodIn_of _ (by decide +kernel)) ggX2_readCold_X5_addCold
theorem dX2_readCold_0 : decode cX2_readCold 0 = .ok (.aload_n 0, 1) := by decide +kernel
theorem dX2_readCold_1 : decode cX2_readCold 1 = .ok (.iconst 0, 1) := by decide +kernel
theorem dX2_readCold_2 : decode cX2_readCold 2 = .ok (.bipush 40, 2) := by decide +kernel
theorem dX2_readCold_4 : decode cX2_readCold 4 = .ok (.invokevirtual 121, 3) := by decide +kernel
theorem dX2_readCold_7 : decode cX2_readCold 7 = .ok (.istore_n 1, 1) := by decide +kernel
theorem dX2_readCold_8 : decode cX2_readCold 8 = .ok (.iload_n 1, 1) := by decide +kernel
theorem dX2_readCold_9 : decode cX2_readCold 9 = .ok (.iconst (-1), 1) := by decide +kernel
theorem dX2_readCold_10 : decode cX2_readCold 10 = .ok (.if_icmp .ne 5, 3) := by decide +kernel
theorem dX2_readCold_13 : decode cX2_readCold 13 = .ok (.iconst 0, 1) := by decide +kernel
theorem dX2_readCold_14 : decode cX2_readCold 14 = .ok (.ireturn, 1) := by decide +kernel
theorem dX2_readCold_15 : decode cX2_readCold 15 = .ok (.aload_n 0, 1) := by decide +kernel
theorem dX2_readCold_16 : decode cX2_readCold 16 = .ok (.invokevirtual 33, 3) := by decide +kernel
theorem dX2_readCold_19 : decode cX2_readCold 19 = .ok (.aload_n 0, 1) := by decide +kernel
theorem dX2_readCold_20 : decode cX2_readCold 20 = .ok (.getfield 21, 3) := by decide +kernel
theorem dX2_readCold_23 : decode cX2_readCold 23 = .ok (.iload_n 1, 1) := by decide +kernel
theorem dX2_readCold_24 : decode cX2_readCold 24 = .ok (.invokevirtual 139, 3) := by decide +kernel
theorem dX2_readCold_27 : decode cX2_readCold 27 = .ok (.iconst 1, 1) := by decide +kernel
theorem dX2_readCold_28 : decode cX2_readCold 28 = .ok (.ireturn, 1) := by decide +kernel
set_option maxRecDepth 20000 in
theorem ggX2_numberHere_X2_isDigit : GoodIn wsX2_numberHere wsX2_isDigit := goodIn_r _ [8, 3, 9, 10, 11, 12, 13, 14, 15, 16, 17, 18, 19, 20, 21, 22] (by decide +kernel) (by decide +kernel)
set_option maxRecDepth 20000 in
theorem gX2_numberHere_X2_isDigit : GoodIn wsX2_numberHere (wsV RX2 57 RX2 yX2_isDigit wsX2_isDigit) := goodIn_app (goodIn_of _ (by decide +kernel)) ggX2_numberHere_X2_isDigit
set_option maxRecDepth 20000 in
theorem ggX2_numberHere_X0_at : GoodIn wsX2_numberHere wsX0_at := goodIn_r _ [13, 14, 15, 21, 22] (by decide +kernel) (by decide +kernel)
set_option maxRecDepth 20000 in
theorem gX2_numberHere_X0_at : GoodIn wsX2_numberHere (wsV RX2 49 RX0 yX0_at wsX0_at) := goodIn_app (goodIn_of _ (by decide +kernel)) ggX2_numberHere_X0_at
theorem dX2_numberHere_0 : decode cX2_numberHere 0 = .ok (.aload_n 0, 1) := by decide +kernel
theorem dX2_numberHere_1 : decode cX2_numberHere 1 = .ok (.aload_n 0, 1) := by decide +kernel
theorem dX2_numberHere_2 : decode cX2_numberHere 2 = .ok (.getfield 43, 3) := by decide +kernel
theorem dX2_numberHere_5 : decode cX2_numberHere 5 = .ok (.invokevirtual 57, 3) := by decide +kernel
theorem dX2_numberHere_8 : decode cX2_numberHere 8 = .ok (.ifCond .eq 16, 3) := by decide +kernel
theorem dX2_numberHere_11 : decode cX2_numberHere 11 = .ok (.aload_n 0, 1) := by decide +kernel
theorem dX2_numberHere_12 : decode cX2_numberHere 12 = .ok (.getfield 29, 3) := by decide +kernel
theorem dX2_numberHere_15 : decode cX2_numberHere 15 = .ok (.aload_n 0, 1) := by decide +kernel
theorem dX2_numberHere_16 : decode cX2_numberHere 16 = .ok (.getfield 43, 3) := by decide +kernel
theorem dX2_numberHere_19 : decode cX2_numberHere 19 = .ok (.isub, 1) := by decide +kernel
theorem dX2_numberHere_20 : decode cX2_numberHere 20 = .ok (.iconst 2, 1) := by decide +kernel
theorem dX2_numberHere_21 : decode cX2_numberHere 21 = .ok (.if_icmp .le 5, 3) := by decide +kernel
theorem dX2_numberHere_24 : decode cX2_numberHere 24 = .ok (.iconst (-1), 1) := by decide +kernel
theorem dX2_numberHere_25 : decode cX2_numberHere 25 = .ok (.ireturn, 1) := by decide +kernel
theorem dX2_numberHere_26 : decode cX2_numberHere 26 = .ok (.iconst 0, 1) := by decide +kernel
theorem dX2_numberHere_27 : decode cX2_numberHere 27 = .ok (.istore_n 3, 1) := by decide +kernel
theorem dX2_numberHere_28 : decode cX2_numberHere 28 = .ok (.aload_n 0, 1) := by decide +kernel
theorem dX2_numberHere_29 : decode cX2_numberHere 29 = .ok (.getfield 43, 3) := by decide +kernel
theorem dX2_numberHere_32 : decode cX2_numberHere 32 = .ok (.istore 4, 2) := by decide +kernel
theorem dX2_numberHere_34 : decode cX2_numberHere 34 = .ok (.iload 4, 2) := by decide +kernel
theorem dX2_numberHere_36 : decode cX2_numberHere 36 = .ok (.aload_n 0, 1) := by decide +kernel
theorem dX2_numberHere_37 : decode cX2_numberHere 37 = .ok (.getfield 29, 3) := by decide +kernel
theorem dX2_numberHere_40 : decode cX2_numberHere 40 = .ok (.if_icmp .ge 27, 3) := by decide +kernel
theorem dX2_numberHere_43 : decode cX2_numberHere 43 = .ok (.bipush 10, 2) := by decide +kernel
theorem dX2_numberHere_45 : decode cX2_numberHere 45 = .ok (.iload_n 3, 1) := by decide +kernel
theorem dX2_numberHere_46 : decode cX2_numberHere 46 = .ok (.imul, 1) := by decide +kernel
theorem dX2_numberHere_47 : decode cX2_numberHere 47 = .ok (.aload_n 0, 1) := by decide +kernel
theorem dX2_numberHere_48 : decode cX2_numberHere 48 = .ok (.getfield 12, 3) := by decide +kernel
theorem dX2_numberHere_51 : decode cX2_numberHere 51 = .ok (.iload 4, 2) := by decide +kernel
theorem dX2_numberHere_53 : decode cX2_numberHere 53 = .ok (.invokevirtual 49, 3) := by decide +kernel
theorem dX2_numberHere_56 : decode cX2_numberHere 56 = .ok (.iadd, 1) := by decide +kernel
theorem dX2_numberHere_57 : decode cX2_numberHere 57 = .ok (.bipush 48, 2) := by decide +kernel
theorem dX2_numberHere_59 : decode cX2_numberHere 59 = .ok (.isub, 1) := by decide +kernel
theorem dX2_numberHere_60 : decode cX2_numberHere 60 = .ok (.istore_n 3, 1) := by decide +kernel
theorem dX2_numberHere_61 : decode cX2_numberHere 61 = .ok (.iinc 4 1, 3) := by decide +kernel
theorem dX2_numberHere_64 : decode cX2_numberHere 64 = .ok (.goto (-30), 3) := by decide +kernel
theorem dX2_numberHere_67 : decode cX2_numberHere 67 = .ok (.iload_n 3, 1) := by decide +kernel
theorem dX2_numberHere_68 : decode cX2_numberHere 68 = .ok (.iload_n 1, 1) := by decide +kernel
theorem dX2_numberHere_69 : decode cX2_numberHere 69 = .ok (.if_icmp .lt 12, 3) := by decide +kernel
theorem dX2_numberHere_72 : decode cX2_numberHere 72 = .ok (.iload_n 3, 1) := by decide +kernel
theorem dX2_numberHere_73 : decode cX2_numberHere 73 = .ok (.iload_n 2, 1) := by decide +kernel
theorem dX2_numberHere_74 : decode cX2_numberHere 74 = .ok (.if_icmp .gt 7, 3) := by decide +kernel
theorem dX2_numberHere_77 : decode cX2_numberHere 77 = .ok (.iload_n 3, 1) := by decide +kernel
theorem dX2_numberHere_78 : decode cX2_numberHere 78 = .ok (.goto 4, 3) := by decide +kernel
theorem dX2_numberHere_81 : decode cX2_numberHere 81 = .ok (.iconst (-1), 1) := by decide +kernel
theorem dX2_numberHere_82 : decode cX2_numberHere 82 = .ok (.ireturn, 1) := by decide +kernel
set_option maxRecDepth 20000 in
theorem ggX3_init_X7_init : GoodIn wsX3_init wsX7_init := goodIn_r _ [12, 13, 2, 3, 4, 14, 15, 21, 22, 23, 24] (by decide +kernel) (by decide +kernel)
set_option maxRecDepth 20000 in
theorem gX3_init_X7_init_n24 : GoodIn wsX3_init (wsX7_init) := ggX3_init_X7_init
theorem dX3_init_0 : decode cX3_init 0 = .ok (.aload_n 0, 1) := by decide +kernel
theorem dX3_init_1 : decode cX3_init 1 = .ok (.invokespecial 3, 3) := by decide +kernel
theorem dX3_init_4 : decode cX3_init 4 = .ok (.aload_n 0, 1) := by decide +kernel
theorem dX3_init_5 : decode cX3_init 5 = .ok (.iconst 4, 1) := by decide +kernel
theorem dX3_init_6 : decode cX3_init 6 = .ok (.newarray .int, 2) := by decide +kernel
theorem dX3_init_8 : decode cX3_init 8 = .ok (.putfield 9, 3) := by decide +kernel
theorem dX3_init_11 : decode cX3_init 11 = .ok (.aload_n 0, 1) := by decide +kernel
theorem dX3_init_12 : decode cX3_init 12 = .ok (.iconst 4, 1) := by decide +kernel
theorem dX3_init_13 : decode cX3_init 13 = .ok (.newarray .int, 2) := by decide +kernel
theorem dX3_init_15 : decode cX3_init 15 = .ok (.putfield 15, 3) := by decide +kernel
theorem dX3_init_18 : decode cX3_init 18 = .ok (.aload_n 0, 1) := by decide +kernel
theorem dX3_init_19 : decode cX3_init 19 = .ok (.iconst 5, 1) := by decide +kernel
theorem dX3_init_20 : decode cX3_init 20 = .ok (.anewarray 18, 3) := by decide +kernel
theorem dX3_init_23 : decode cX3_init 23 = .ok (.putfield 20, 3) := by decide +kernel
theorem dX3_init_26 : decode cX3_init 26 = .ok (.iconst 0, 1) := by decide +kernel
theorem dX3_init_27 : decode cX3_init 27 = .ok (.istore_n 1, 1) := by decide +kernel
theorem dX3_init_28 : decode cX3_init 28 = .ok (.iload_n 1, 1) := by decide +kernel
theorem dX3_init_29 : decode cX3_init 29 = .ok (.iconst 4, 1) := by decide +kernel
theorem dX3_init_30 : decode cX3_init 30 = .ok (.if_icmp .gt 22, 3) := by decide +kernel
theorem dX3_init_33 : decode cX3_init 33 = .ok (.aload_n 0, 1) := by decide +kernel
theorem dX3_init_34 : decode cX3_init 34 = .ok (.getfield 20, 3) := by decide +kernel
theorem dX3_init_37 : decode cX3_init 37 = .ok (.iload_n 1, 1) := by decide +kernel
theorem dX3_init_38 : decode cX3_init 38 = .ok (.new 18, 3) := by decide +kernel
theorem dX3_init_41 : decode cX3_init 41 = .ok (.dup, 1) := by decide +kernel
theorem dX3_init_42 : decode cX3_init 42 = .ok (.invokespecial 24, 3) := by decide +kernel
theorem dX3_init_45 : decode cX3_init 45 = .ok (.aastore, 1) := by decide +kernel
theorem dX3_init_46 : decode cX3_init 46 = .ok (.iinc 1 1, 3) := by decide +kernel
theorem dX3_init_49 : decode cX3_init 49 = .ok (.goto (-21), 3) := by decide +kernel
theorem dX3_init_52 : decode cX3_init 52 = .ok (.return_, 1) := by decide +kernel
set_option maxRecDepth 20000 in
theorem ggX3_find_X7_copyFrom : GoodIn wsX3_find wsX7_copyFrom := goodIn_r _ [8, 9, 10, 11, 12, 13, 14, 15, 16, 114, 115, 116, 117] (by decide +kernel) (by decide +kernel)
set_option maxRecDepth 20000 in
theorem gX3_find_X7_copyFrom : GoodIn wsX3_find (wsV RX3 32 RX7 yX7_copyFrom wsX7_copyFrom) := goodIn_app (goodIn_of _ (by decide +kernel)) ggX3_find_X7_copyFrom
set_option maxRecDepth 20000 in
theorem ggX3_find_X3_tryFrom : GoodIn wsX3_find wsX3_tryFrom := goodIn_r _ [21, 3, 22, 23, 24, 25, 26, 20, 27, 28, 1, 2, 29, 30, 13, 14, 15, 31, 32, 33, 34, 35, 36, 37, 38, 39, 40, 7, 41, 11, 42, 43, 44, 45, 46, 47, 48, 49, 16, 10, 50, 51, 52, 53, 54, 55, 56, 57, 58, 59, 60, 61, 62, 9, 63, 64, 65, 66, 67, 68, 69, 70, 71, 72, 73, 74, 75, 76, 77, 78, 4, 5, 6, 8, 12, 79, 80, 81, 82, 83, 84, 85, 86, 87, 88, 89, 90, 91, 92, 93, 94, 95, 96, 97, 98, 99, 100, 101, 102, 103, 104, 105, 106, 107, 108, 17, 18, 19, 109, 110, 111, 112, 113, 118, 119, 120, 121, 122, 123, 124, 125, 114, 115, 116, 117] (by decide +kernel) (by decide +kernel)
set_option maxRecDepth 20000 in
theorem gX3_find_X3_tryFrom : GoodIn wsX3_find (wsV RX3 36 RX3 yX3_tryFrom wsX3_tryFrom) := goodIn_app (goodIn_of _ (by decide +kernel)) ggX3_find_X3_tryFrom
theorem dX3_find_0 : decode cX3_find 0 = .ok (.aload_n 0, 1) := by decide +kernel
theorem dX3_find_1 : decode cX3_find 1 = .ok (.bipush 8, 2) := by decide +kernel
theorem dX3_find_3 : decode cX3_find 3 = .ok (.putfield 25, 3) := by decide +kernel
theorem dX3_find_6 : decode cX3_find 6 = .ok (.aload_n 0, 1) := by decide +kernel
theorem dX3_find_7 : decode cX3_find 7 = .ok (.iconst 0, 1) := by decide +kernel
theorem dX3_find_8 : decode cX3_find 8 = .ok (.putfield 29, 3) := by decide +kernel
theorem dX3_find_11 : decode cX3_find 11 = .ok (.aload_n 0, 1) := by decide +kernel
theorem dX3_find_12 : decode cX3_find 12 = .ok (.getfield 20, 3) := by decide +kernel
theorem dX3_find_15 : decode cX3_find 15 = .ok (.iconst 0, 1) := by decide +kernel
theorem dX3_find_16 : decode cX3_find 16 = .ok (.aaload, 1) := by decide +kernel
theorem dX3_find_17 : decode cX3_find 17 = .ok (.aload_n 2, 1) := by decide +kernel
theorem dX3_find_18 : decode cX3_find 18 = .ok (.invokevirtual 32, 3) := by decide +kernel
theorem dX3_find_21 : decode cX3_find 21 = .ok (.aload_n 0, 1) := by decide +kernel
theorem dX3_find_22 : decode cX3_find 22 = .ok (.aload_n 1, 1) := by decide +kernel
theorem dX3_find_23 : decode cX3_find 23 = .ok (.iconst 0, 1) := by decide +kernel
theorem dX3_find_24 : decode cX3_find 24 = .ok (.iload_n 3, 1) := by decide +kernel
theorem dX3_find_25 : decode cX3_find 25 = .ok (.invokevirtual 36, 3) := by decide +kernel
theorem dX3_find_28 : decode cX3_find 28 = .ok (.return_, 1) := by decide +kernel
set_option maxRecDepth 20000 in
theorem ggX3_tryFrom_X3_compare : GoodIn wsX3_tryFrom wsX3_compare := goodIn_r _ [8, 9, 10, 11, 3, 12, 13, 14, 15, 16, 17, 18, 19, 20, 21, 22, 23, 24, 25, 26, 27, 28, 29, 121, 122, 123, 124, 108, 109, 110, 111, 112] (by decide +kernel) (by decide +kernel)
set_option maxRecDepth 20000 in
theorem gX3_tryFrom_X3_compare : GoodIn wsX3_tryFrom (wsV RX3 40 RX3 yX3_compare wsX3_compare) := goodIn_app (goodIn_of _ (by decide +kernel)) ggX3_tryFrom_X3_compare
set_option maxRecDepth 20000 in
theorem ggX3_tryFrom_X7_isCarriedFor : GoodIn wsX3_tryFrom wsX7_isCarriedFor := goodIn_r _ [33, 34, 35, 36, 27, 37, 38, 39, 40, 41, 42, 43, 44, 45, 46, 47, 48, 49, 50, 51, 52, 53, 54, 55, 56, 57, 58, 59, 60, 61, 62, 63, 64, 65, 66, 67, 68, 69, 121, 122, 123, 124, 113, 114, 115, 116, 117, 118, 119, 120] (by decide +kernel) (by decide +kernel)
set_option maxRecDepth 20000 in
theorem gX3_tryFrom_X7_isCarriedFor : GoodIn wsX3_tryFrom (wsV RX3 48 RX7 yX7_isCarriedFor wsX7_isCarriedFor) := goodIn_app (goodIn_of _ (by decide +kernel)) ggX3_tryFrom_X7_isCarriedFor
set_option maxRecDepth 20000 in
theorem ggX3_tryFrom_X7_copyFrom : GoodIn wsX3_tryFrom wsX7_copyFrom := goodIn_r _ [73, 53, 39, 29, 74, 14, 15, 16, 38, 121, 122, 123, 124] (by decide +kernel) (by decide +kernel)
set_option maxRecDepth 20000 in
theorem gX3_tryFrom_X7_copyFrom : GoodIn wsX3_tryFrom (wsV RX3 32 RX7 yX7_copyFrom wsX7_copyFrom) := goodIn_app (goodIn_of _ (by decide +kernel)) ggX3_tryFrom_X7_copyFrom
set_option maxRecDepth 20000 in
theorem ggX3_tryFrom_X7_passDay : GoodIn wsX3_tryFrom wsX7_passDay := goodIn_r _ [78, 39, 53, 79, 80, 81, 82, 57, 83, 84, 85, 34, 35, 36, 27, 37, 38, 40, 41, 42, 43, 44, 45, 46, 47, 48, 49, 50, 51, 52, 54, 55, 56, 58, 59, 60, 61, 62, 63, 64, 65, 66, 67, 68, 69, 86, 87, 88, 89, 90, 91, 92, 93, 94, 29, 95, 96, 97, 98, 99, 100, 101, 102, 103, 104, 121, 122, 123, 124, 113, 114, 115, 116, 117, 118, 119, 120] (by decide +kernel) (by decide +kernel)
set_option maxRecDepth 20000 in
theorem gX3_tryFrom_X7_passDay : GoodIn wsX3_tryFrom (wsV RX3 52 RX7 yX7_passDay wsX7_passDay) := goodIn_app (goodIn_of _ (by decide +kernel)) ggX3_tryFrom_X7_passDay
set_option maxRecDepth 20000 in
theorem ggX3_tryFrom_X3_tryFrom : GoodIn wsX3_tryFrom wsX3_tryFrom := goodIn_r _ [0, 1, 2, 3, 4, 5, 6, 7, 8, 9, 10, 11, 12, 13, 14, 15, 16, 17, 18, 19, 20, 21, 22, 23, 24, 25, 26, 27, 28, 29, 30, 31, 32, 33, 34, 35, 36, 37, 38, 39, 40, 41, 42, 43, 44, 45, 46, 47, 48, 49, 50, 51, 52, 53, 54, 55, 56, 57, 58, 59, 60, 61, 62, 63, 64, 65, 66, 67, 68, 69, 70, 71, 72, 73, 74, 75, 76, 77, 78, 79, 80, 81, 82, 83, 84, 85, 86, 87, 88, 89, 90, 91, 92, 93, 94, 95, 96, 97, 98, 99, 100, 101, 102, 103, 104, 105, 106, 107, 108, 109, 110, 111, 112, 113, 114, 115, 116, 117, 118, 119, 120, 121, 122, 123, 124] (by decide +kernel) (by decide +kernel)
set_option maxRecDepth 20000 in
theorem gX3_tryFrom_X3_tryFrom : GoodIn wsX3_tryFrom (wsV RX3 36 RX3 yX3_tryFrom wsX3_tryFrom) := goodIn_app (goodIn_of _ (by decide +kernel)) ggX3_tryFrom_X3_tryFrom
theorem dX3_tryFrom_0 : decode cX3_tryFrom 0 = .ok (.iload_n 2, 1) := by decide +kernel
theorem dX3_tryFrom_1 : decode cX3_tryFrom 1 = .ok (.iload_n 3, 1) := by decide +kernel
theorem dX3_tryFrom_2 : decode cX3_tryFrom 2 = .ok (.if_icmp .ge 8, 3) := by decide +kernel
theorem dX3_tryFrom_5 : decode cX3_tryFrom 5 = .ok (.iload_n 2, 1) := by decide +kernel
theorem dX3_tryFrom_6 : decode cX3_tryFrom 6 = .ok (.iconst 4, 1) := by decide +kernel
theorem dX3_tryFrom_7 : decode cX3_tryFrom 7 = .ok (.if_icmp .lt 14, 3) := by decide +kernel
theorem dX3_tryFrom_10 : decode cX3_tryFrom 10 = .ok (.aload_n 0, 1) := by decide +kernel
theorem dX3_tryFrom_11 : decode cX3_tryFrom 11 = .ok (.aload_n 0, 1) := by decide +kernel
theorem dX3_tryFrom_12 : decode cX3_tryFrom 12 = .ok (.getfield 20, 3) := by decide +kernel
theorem dX3_tryFrom_15 : decode cX3_tryFrom 15 = .ok (.iload_n 2, 1) := by decide +kernel
theorem dX3_tryFrom_16 : decode cX3_tryFrom 16 = .ok (.aaload, 1) := by decide +kernel
theorem dX3_tryFrom_17 : decode cX3_tryFrom 17 = .ok (.invokevirtual 40, 3) := by decide +kernel
theorem dX3_tryFrom_20 : decode cX3_tryFrom 20 = .ok (.return_, 1) := by decide +kernel
theorem dX3_tryFrom_21 : decode cX3_tryFrom 21 = .ok (.aload_n 0, 1) := by decide +kernel
theorem dX3_tryFrom_22 : decode cX3_tryFrom 22 = .ok (.getfield 20, 3) := by decide +kernel
theorem dX3_tryFrom_25 : decode cX3_tryFrom 25 = .ok (.iload_n 2, 1) := by decide +kernel
theorem dX3_tryFrom_26 : decode cX3_tryFrom 26 = .ok (.aaload, 1) := by decide +kernel
theorem dX3_tryFrom_27 : decode cX3_tryFrom 27 = .ok (.astore 4, 2) := by decide +kernel
theorem dX3_tryFrom_29 : decode cX3_tryFrom 29 = .ok (.iconst (-1), 1) := by decide +kernel
theorem dX3_tryFrom_30 : decode cX3_tryFrom 30 = .ok (.istore 5, 2) := by decide +kernel
theorem dX3_tryFrom_32 : decode cX3_tryFrom 32 = .ok (.iload 5, 2) := by decide +kernel
theorem dX3_tryFrom_34 : decode cX3_tryFrom 34 = .ok (.aload_n 1, 1) := by decide +kernel
theorem dX3_tryFrom_35 : decode cX3_tryFrom 35 = .ok (.getfield 43, 3) := by decide +kernel
theorem dX3_tryFrom_38 : decode cX3_tryFrom 38 = .ok (.if_icmp .ge 74, 3) := by decide +kernel
theorem dX3_tryFrom_41 : decode cX3_tryFrom 41 = .ok (.iload 5, 2) := by decide +kernel
theorem dX3_tryFrom_43 : decode cX3_tryFrom 43 = .ok (.iconst (-1), 1) := by decide +kernel
theorem dX3_tryFrom_44 : decode cX3_tryFrom 44 = .ok (.if_icmp .eq 17, 3) := by decide +kernel
theorem dX3_tryFrom_47 : decode cX3_tryFrom 47 = .ok (.aload 4, 2) := by decide +kernel
theorem dX3_tryFrom_49 : decode cX3_tryFrom 49 = .ok (.aload_n 1, 1) := by decide +kernel
theorem dX3_tryFrom_50 : decode cX3_tryFrom 50 = .ok (.iload 5, 2) := by decide +kernel
theorem dX3_tryFrom_52 : decode cX3_tryFrom 52 = .ok (.invokevirtual 48, 3) := by decide +kernel
theorem dX3_tryFrom_55 : decode cX3_tryFrom 55 = .ok (.ifCond .ne 6, 3) := by decide +kernel
theorem dX3_tryFrom_58 : decode cX3_tryFrom 58 = .ok (.goto 48, 3) := by decide +kernel
theorem dX3_tryFrom_61 : decode cX3_tryFrom 61 = .ok (.aload_n 0, 1) := by decide +kernel
theorem dX3_tryFrom_62 : decode cX3_tryFrom 62 = .ok (.getfield 15, 3) := by decide +kernel
theorem dX3_tryFrom_65 : decode cX3_tryFrom 65 = .ok (.iload_n 2, 1) := by decide +kernel
theorem dX3_tryFrom_66 : decode cX3_tryFrom 66 = .ok (.iload 5, 2) := by decide +kernel
theorem dX3_tryFrom_68 : decode cX3_tryFrom 68 = .ok (.iastore, 1) := by decide +kernel
theorem dX3_tryFrom_69 : decode cX3_tryFrom 69 = .ok (.aload_n 0, 1) := by decide +kernel
theorem dX3_tryFrom_70 : decode cX3_tryFrom 70 = .ok (.getfield 20, 3) := by decide +kernel
theorem dX3_tryFrom_73 : decode cX3_tryFrom 73 = .ok (.iload_n 2, 1) := by decide +kernel
theorem dX3_tryFrom_74 : decode cX3_tryFrom 74 = .ok (.iconst 1, 1) := by decide +kernel
theorem dX3_tryFrom_75 : decode cX3_tryFrom 75 = .ok (.iadd, 1) := by decide +kernel
theorem dX3_tryFrom_76 : decode cX3_tryFrom 76 = .ok (.aaload, 1) := by decide +kernel
theorem dX3_tryFrom_77 : decode cX3_tryFrom 77 = .ok (.aload 4, 2) := by decide +kernel
theorem dX3_tryFrom_79 : decode cX3_tryFrom 79 = .ok (.invokevirtual 32, 3) := by decide +kernel
theorem dX3_tryFrom_82 : decode cX3_tryFrom 82 = .ok (.aload_n 0, 1) := by decide +kernel
theorem dX3_tryFrom_83 : decode cX3_tryFrom 83 = .ok (.getfield 20, 3) := by decide +kernel
theorem dX3_tryFrom_86 : decode cX3_tryFrom 86 = .ok (.iload_n 2, 1) := by decide +kernel
theorem dX3_tryFrom_87 : decode cX3_tryFrom 87 = .ok (.iconst 1, 1) := by decide +kernel
theorem dX3_tryFrom_88 : decode cX3_tryFrom 88 = .ok (.iadd, 1) := by decide +kernel
theorem dX3_tryFrom_89 : decode cX3_tryFrom 89 = .ok (.aaload, 1) := by decide +kernel
theorem dX3_tryFrom_90 : decode cX3_tryFrom 90 = .ok (.aload_n 1, 1) := by decide +kernel
theorem dX3_tryFrom_91 : decode cX3_tryFrom 91 = .ok (.iload 5, 2) := by decide +kernel
theorem dX3_tryFrom_93 : decode cX3_tryFrom 93 = .ok (.invokevirtual 52, 3) := by decide +kernel
theorem dX3_tryFrom_96 : decode cX3_tryFrom 96 = .ok (.pop, 1) := by decide +kernel
theorem dX3_tryFrom_97 : decode cX3_tryFrom 97 = .ok (.aload_n 0, 1) := by decide +kernel
theorem dX3_tryFrom_98 : decode cX3_tryFrom 98 = .ok (.aload_n 1, 1) := by decide +kernel
theorem dX3_tryFrom_99 : decode cX3_tryFrom 99 = .ok (.iload_n 2, 1) := by decide +kernel
theorem dX3_tryFrom_100 : decode cX3_tryFrom 100 = .ok (.iconst 1, 1) := by decide +kernel
theorem dX3_tryFrom_101 : decode cX3_tryFrom 101 = .ok (.iadd, 1) := by decide +kernel
theorem dX3_tryFrom_102 : decode cX3_tryFrom 102 = .ok (.iload_n 3, 1) := by decide +kernel
theorem dX3_tryFrom_103 : decode cX3_tryFrom 103 = .ok (.invokevirtual 36, 3) := by decide +kernel
theorem dX3_tryFrom_106 : decode cX3_tryFrom 106 = .ok (.iinc 5 1, 3) := by decide +kernel
theorem dX3_tryFrom_109 : decode cX3_tryFrom 109 = .ok (.goto (-77), 3) := by decide +kernel
theorem dX3_tryFrom_112 : decode cX3_tryFrom 112 = .ok (.return_, 1) := by decide +kernel
set_option maxRecDepth 20000 in
theorem ggX3_compare_J6_bitCount_0f7a4 : GoodIn wsX3_compare wsJ6_bitCount_0f7a4 := goodIn_r _ [13, 14, 15, 16] (by decide +kernel) (by decide +kernel)
set_option maxRecDepth 20000 in
theorem gX3_compare_J6_bitCount_0f7a4 : GoodIn wsX3_compare (va_wsS RX3 59 yJ6_bitCount_0f7a4 wsJ6_bitCount_0f7a4) := goodIn_app (goodIn_of _ (by decide +kernel)) ggX3_compare_J6_bitCount_0f7a4
set_option maxRecDepth 20000 in
theorem ggX3_compare_X7_healthOfAll : GoodIn wsX3_compare wsX7_healthOfAll := goodIn_r _ [21, 22, 23, 24, 25, 26] (by decide +kernel) (by decide +kernel)
set_option maxRecDepth 20000 in
theorem gX3_compare_X7_healthOfAll : GoodIn wsX3_compare (wsV RX3 65 RX7 yX7_healthOfAll wsX7_healthOfAll) := goodIn_app (goodIn_of _ (by decide +kernel)) ggX3_compare_X7_healthOfAll
theorem dX3_compare_0 : decode cX3_compare 0 = .ok (.aload_n 1, 1) := by decide +kernel
theorem dX3_compare_1 : decode cX3_compare 1 = .ok (.getfield 56, 3) := by decide +kernel
theorem dX3_compare_4 : decode cX3_compare 4 = .ok (.invokestatic 59, 3) := by decide +kernel
theorem dX3_compare_7 : decode cX3_compare 7 = .ok (.istore_n 2, 1) := by decide +kernel
theorem dX3_compare_8 : decode cX3_compare 8 = .ok (.aload_n 1, 1) := by decide +kernel
theorem dX3_compare_9 : decode cX3_compare 9 = .ok (.invokevirtual 65, 3) := by decide +kernel
theorem dX3_compare_12 : decode cX3_compare 12 = .ok (.istore_n 3, 1) := by decide +kernel
theorem dX3_compare_13 : decode cX3_compare 13 = .ok (.iload_n 2, 1) := by decide +kernel
theorem dX3_compare_14 : decode cX3_compare 14 = .ok (.aload_n 0, 1) := by decide +kernel
theorem dX3_compare_15 : decode cX3_compare 15 = .ok (.getfield 25, 3) := by decide +kernel
theorem dX3_compare_18 : decode cX3_compare 18 = .ok (.if_icmp .lt 19, 3) := by decide +kernel
theorem dX3_compare_21 : decode cX3_compare 21 = .ok (.iload_n 2, 1) := by decide +kernel
theorem dX3_compare_22 : decode cX3_compare 22 = .ok (.aload_n 0, 1) := by decide +kernel
theorem dX3_compare_23 : decode cX3_compare 23 = .ok (.getfield 25, 3) := by decide +kernel
theorem dX3_compare_26 : decode cX3_compare 26 = .ok (.if_icmp .ne 35, 3) := by decide +kernel
theorem dX3_compare_29 : decode cX3_compare 29 = .ok (.iload_n 3, 1) := by decide +kernel
theorem dX3_compare_30 : decode cX3_compare 30 = .ok (.aload_n 0, 1) := by decide +kernel
theorem dX3_compare_31 : decode cX3_compare 31 = .ok (.getfield 29, 3) := by decide +kernel
theorem dX3_compare_34 : decode cX3_compare 34 = .ok (.if_icmp .le 27, 3) := by decide +kernel
theorem dX3_compare_37 : decode cX3_compare 37 = .ok (.aload_n 0, 1) := by decide +kernel
theorem dX3_compare_38 : decode cX3_compare 38 = .ok (.iload_n 2, 1) := by decide +kernel
theorem dX3_compare_39 : decode cX3_compare 39 = .ok (.putfield 25, 3) := by decide +kernel
theorem dX3_compare_42 : decode cX3_compare 42 = .ok (.aload_n 0, 1) := by decide +kernel
theorem dX3_compare_43 : decode cX3_compare 43 = .ok (.iload_n 3, 1) := by decide +kernel
theorem dX3_compare_44 : decode cX3_compare 44 = .ok (.putfield 29, 3) := by decide +kernel
theorem dX3_compare_47 : decode cX3_compare 47 = .ok (.aload_n 0, 1) := by decide +kernel
theorem dX3_compare_48 : decode cX3_compare 48 = .ok (.getfield 15, 3) := by decide +kernel
theorem dX3_compare_51 : decode cX3_compare 51 = .ok (.iconst 0, 1) := by decide +kernel
theorem dX3_compare_52 : decode cX3_compare 52 = .ok (.aload_n 0, 1) := by decide +kernel
theorem dX3_compare_53 : decode cX3_compare 53 = .ok (.getfield 9, 3) := by decide +kernel
theorem dX3_compare_56 : decode cX3_compare 56 = .ok (.iconst 0, 1) := by decide +kernel
theorem dX3_compare_57 : decode cX3_compare 57 = .ok (.iconst 4, 1) := by decide +kernel
theorem dX3_compare_58 : decode cX3_compare 58 = .ok (.invokestatic 69, 3) := by decide +kernel
theorem dX3_compare_61 : decode cX3_compare 61 = .ok (.return_, 1) := by decide +kernel
theorem dX4_init_0 : decode cX4_init 0 = .ok (.aload_n 0, 1) := by decide +kernel
theorem dX4_init_1 : decode cX4_init 1 = .ok (.invokespecial 3, 3) := by decide +kernel
theorem dX4_init_4 : decode cX4_init 4 = .ok (.aload_n 0, 1) := by decide +kernel
theorem dX4_init_5 : decode cX4_init 5 = .ok (.bipush 7, 2) := by decide +kernel
theorem dX4_init_7 : decode cX4_init 7 = .ok (.newarray .int, 2) := by decide +kernel
theorem dX4_init_9 : decode cX4_init 9 = .ok (.putfield 9, 3) := by decide +kernel
theorem dX4_init_12 : decode cX4_init 12 = .ok (.return_, 1) := by decide +kernel
set_option maxRecDepth 20000 in
theorem ggX4_search_X5_coldOn : GoodIn wsX4_search wsX5_coldOn := goodIn_r _ [9, 10, 11, 55, 56, 57, 58, 59, 60, 61, 62] (by decide +kernel) (by decide +kernel)
set_option maxRecDepth 20000 in
theorem gX4_search_X5_coldOn : GoodIn wsX4_search (wsV RX4 21 RX5 yX5_coldOn wsX5_coldOn) := goodIn_app (goodIn_of _ (by decide +kernel)) ggX4_search_X5_coldOn
set_option maxRecDepth 20000 in
theorem ggX4_search_X5_all : GoodIn wsX4_search wsX5_all := goodIn_r _ [15, 16, 17, 18, 19, 55, 56, 57, 58, 59, 60, 61, 62] (by decide +kernel) (by decide +kernel)
set_option maxRecDepth 20000 in
theorem gX4_search_X5_all : GoodIn wsX4_search (wsV RX4 27 RX5 yX5_all wsX5_all) := goodIn_app (goodIn_of _ (by decide +kernel)) ggX4_search_X5_all
set_option maxRecDepth 20000 in
theorem ggX4_search_X8_isWithin : GoodIn wsX4_search wsX8_isWithin := goodIn_r _ [21] (by decide +kernel) (by decide +kernel)
set_option maxRecDepth 20000 in
theorem gX4_search_X8_isWithin_n40 : GoodIn wsX4_search (wsX8_isWithin) := ggX4_search_X8_isWithin
set_option maxRecDepth 20000 in
theorem ggX4_search_X8_holds : GoodIn wsX4_search wsX8_holds := goodIn_r _ [23] (by decide +kernel) (by decide +kernel)
set_option maxRecDepth 20000 in
theorem gX4_search_X8_holds_n44 : GoodIn wsX4_search (wsX8_holds) := ggX4_search_X8_holds
set_option maxRecDepth 20000 in
theorem ggX4_search_J6_bitCount_0f7a4 : GoodIn wsX4_search wsJ6_bitCount_0f7a4 := goodIn_r _ [27, 28, 29, 30] (by decide +kernel) (by decide +kernel)
set_option maxRecDepth 20000 in
theorem gX4_search_J6_bitCount_0f7a4 : GoodIn wsX4_search (va_wsS RX4 47 yJ6_bitCount_0f7a4 wsJ6_bitCount_0f7a4) := goodIn_app (goodIn_of _ (by decide +kernel)) ggX4_search_J6_bitCount_0f7a4
set_option maxRecDepth 20000 in
theorem ggX4_search_X5_warmthOfSet : GoodIn wsX4_search wsX5_warmthOfSet := goodIn_r _ [34, 16, 35, 22, 18, 23, 55, 56, 57, 58, 59, 60, 61, 62] (by decide +kernel) (by decide +kernel)
set_option maxRecDepth 20000 in
theorem gX4_search_X5_warmthOfSet : GoodIn wsX4_search (wsV RX4 52 RX5 yX5_warmthOfSet wsX5_warmthOfSet) := goodIn_app (goodIn_of _ (by decide +kernel)) ggX4_search_X5_warmthOfSet
set_option maxRecDepth 20000 in
theorem ggX4_search_X4_take : GoodIn wsX4_search wsX4_take := goodIn_r _ [40, 3, 4, 41, 42, 24, 25, 26, 27, 28, 29, 30, 43, 44, 45, 46, 22, 18, 23, 51, 52, 53, 54] (by decide +kernel) (by decide +kernel)
set_option maxRecDepth 20000 in
theorem gX4_search_X4_take : GoodIn wsX4_search (wsV RX4 55 RX4 yX4_take wsX4_take) := goodIn_app (goodIn_of _ (by decide +kernel)) ggX4_search_X4_take
theorem dX4_search_0 : decode cX4_search 0 = .ok (.aload_n 1, 1) := by decide +kernel
theorem dX4_search_1 : decode cX4_search 1 = .ok (.aload_n 2, 1) := by decide +kernel
theorem dX4_search_2 : decode cX4_search 2 = .ok (.getfield 15, 3) := by decide +kernel
theorem dX4_search_5 : decode cX4_search 5 = .ok (.invokevirtual 21, 3) := by decide +kernel
theorem dX4_search_8 : decode cX4_search 8 = .ok (.istore 4, 2) := by decide +kernel
theorem dX4_search_10 : decode cX4_search 10 = .ok (.aload_n 1, 1) := by decide +kernel
theorem dX4_search_11 : decode cX4_search 11 = .ok (.invokevirtual 27, 3) := by decide +kernel
theorem dX4_search_14 : decode cX4_search 14 = .ok (.aload_n 2, 1) := by decide +kernel
theorem dX4_search_15 : decode cX4_search 15 = .ok (.getfield 31, 3) := by decide +kernel
theorem dX4_search_18 : decode cX4_search 18 = .ok (.iconst (-1), 1) := by decide +kernel
theorem dX4_search_19 : decode cX4_search 19 = .ok (.ixor, 1) := by decide +kernel
theorem dX4_search_20 : decode cX4_search 20 = .ok (.iand, 1) := by decide +kernel
theorem dX4_search_21 : decode cX4_search 21 = .ok (.istore 5, 2) := by decide +kernel
theorem dX4_search_23 : decode cX4_search 23 = .ok (.aload_n 0, 1) := by decide +kernel
theorem dX4_search_24 : decode cX4_search 24 = .ok (.bipush 8, 2) := by decide +kernel
theorem dX4_search_26 : decode cX4_search 26 = .ok (.putfield 34, 3) := by decide +kernel
theorem dX4_search_29 : decode cX4_search 29 = .ok (.aload_n 0, 1) := by decide +kernel
theorem dX4_search_30 : decode cX4_search 30 = .ok (.iconst 0, 1) := by decide +kernel
theorem dX4_search_31 : decode cX4_search 31 = .ok (.putfield 37, 3) := by decide +kernel
theorem dX4_search_34 : decode cX4_search 34 = .ok (.iconst 0, 1) := by decide +kernel
theorem dX4_search_35 : decode cX4_search 35 = .ok (.istore 6, 2) := by decide +kernel
theorem dX4_search_37 : decode cX4_search 37 = .ok (.iload 6, 2) := by decide +kernel
theorem dX4_search_39 : decode cX4_search 39 = .ok (.aload_n 1, 1) := by decide +kernel
theorem dX4_search_40 : decode cX4_search 40 = .ok (.invokevirtual 27, 3) := by decide +kernel
theorem dX4_search_43 : decode cX4_search 43 = .ok (.if_icmp .gt 70, 3) := by decide +kernel
theorem dX4_search_46 : decode cX4_search 46 = .ok (.iload 6, 2) := by decide +kernel
theorem dX4_search_48 : decode cX4_search 48 = .ok (.iload 5, 2) := by decide +kernel
theorem dX4_search_50 : decode cX4_search 50 = .ok (.invokestatic 40, 3) := by decide +kernel
theorem dX4_search_53 : decode cX4_search 53 = .ok (.ifCond .eq 16, 3) := by decide +kernel
theorem dX4_search_56 : decode cX4_search 56 = .ok (.iload 6, 2) := by decide +kernel
theorem dX4_search_58 : decode cX4_search 58 = .ok (.iload_n 3, 1) := by decide +kernel
theorem dX4_search_59 : decode cX4_search 59 = .ok (.invokestatic 44, 3) := by decide +kernel
theorem dX4_search_62 : decode cX4_search 62 = .ok (.ifCond .eq 7, 3) := by decide +kernel
theorem dX4_search_65 : decode cX4_search 65 = .ok (.iconst 1, 1) := by decide +kernel
theorem dX4_search_66 : decode cX4_search 66 = .ok (.goto 4, 3) := by decide +kernel
theorem dX4_search_69 : decode cX4_search 69 = .ok (.iconst 0, 1) := by decide +kernel
theorem dX4_search_70 : decode cX4_search 70 = .ok (.istore 7, 2) := by decide +kernel
theorem dX4_search_72 : decode cX4_search 72 = .ok (.iload 7, 2) := by decide +kernel
theorem dX4_search_74 : decode cX4_search 74 = .ok (.ifCond .eq 33, 3) := by decide +kernel
theorem dX4_search_77 : decode cX4_search 77 = .ok (.iload 6, 2) := by decide +kernel
theorem dX4_search_79 : decode cX4_search 79 = .ok (.invokestatic 47, 3) := by decide +kernel
theorem dX4_search_82 : decode cX4_search 82 = .ok (.aload_n 0, 1) := by decide +kernel
theorem dX4_search_83 : decode cX4_search 83 = .ok (.getfield 34, 3) := by decide +kernel
theorem dX4_search_86 : decode cX4_search 86 = .ok (.if_icmp .gt 21, 3) := by decide +kernel
theorem dX4_search_89 : decode cX4_search 89 = .ok (.aload_n 1, 1) := by decide +kernel
theorem dX4_search_90 : decode cX4_search 90 = .ok (.iload 6, 2) := by decide +kernel
theorem dX4_search_92 : decode cX4_search 92 = .ok (.invokevirtual 52, 3) := by decide +kernel
theorem dX4_search_95 : decode cX4_search 95 = .ok (.iload 4, 2) := by decide +kernel
theorem dX4_search_97 : decode cX4_search 97 = .ok (.if_icmp .lt 10, 3) := by decide +kernel
theorem dX4_search_100 : decode cX4_search 100 = .ok (.aload_n 0, 1) := by decide +kernel
theorem dX4_search_101 : decode cX4_search 101 = .ok (.iload 6, 2) := by decide +kernel
theorem dX4_search_103 : decode cX4_search 103 = .ok (.iload_n 3, 1) := by decide +kernel
theorem dX4_search_104 : decode cX4_search 104 = .ok (.invokevirtual 55, 3) := by decide +kernel
theorem dX4_search_107 : decode cX4_search 107 = .ok (.iinc 6 1, 3) := by decide +kernel
theorem dX4_search_110 : decode cX4_search 110 = .ok (.goto (-73), 3) := by decide +kernel
theorem dX4_search_113 : decode cX4_search 113 = .ok (.return_, 1) := by decide +kernel
set_option maxRecDepth 20000 in
theorem ggX4_take_J6_bitCount_0f7a4 : GoodIn wsX4_take wsJ6_bitCount_0f7a4 := goodIn_r _ [8, 9, 10, 11] (by decide +kernel) (by decide +kernel)
set_option maxRecDepth 20000 in
theorem gX4_take_J6_bitCount_0f7a4 : GoodIn wsX4_take (va_wsS RX4 47 yJ6_bitCount_0f7a4 wsJ6_bitCount_0f7a4) := goodIn_app (goodIn_of _ (by decide +kernel)) ggX4_take_J6_bitCount_0f7a4
set_option maxRecDepth 20000 in
theorem ggX4_take_J7_fill_53178 : GoodIn wsX4_take wsJ7_fill_53178 := goodIn_r _ [15] (by decide +kernel) (by decide +kernel)
set_option maxRecDepth 20000 in
theorem gX4_take_J7_fill_53178 : GoodIn wsX4_take (va_wsS RX4 62 yJ7_fill_53178 wsJ7_fill_53178) := goodIn_app (goodIn_of _ (by decide +kernel)) ggX4_take_J7_fill_53178
set_option maxRecDepth 20000 in
theorem ggX4_take_X8_holds : GoodIn wsX4_take wsX8_holds := goodIn_r _ [18] (by decide +kernel) (by decide +kernel)
set_option maxRecDepth 20000 in
theorem gX4_take_X8_holds_n44 : GoodIn wsX4_take (wsX8_holds) := ggX4_take_X8_holds
theorem dX4_take_0 : decode cX4_take 0 = .ok (.iload_n 1, 1) := by decide +kernel
theorem dX4_take_1 : decode cX4_take 1 = .ok (.invokestatic 47, 3) := by decide +kernel
theorem dX4_take_4 : decode cX4_take 4 = .ok (.istore_n 3, 1) := by decide +kernel
theorem dX4_take_5 : decode cX4_take 5 = .ok (.iload_n 3, 1) := by decide +kernel
theorem dX4_take_6 : decode cX4_take 6 = .ok (.aload_n 0, 1) := by decide +kernel
theorem dX4_take_7 : decode cX4_take 7 = .ok (.getfield 34, 3) := by decide +kernel
theorem dX4_take_10 : decode cX4_take 10 = .ok (.if_icmp .ge 26, 3) := by decide +kernel
theorem dX4_take_13 : decode cX4_take 13 = .ok (.aload_n 0, 1) := by decide +kernel
theorem dX4_take_14 : decode cX4_take 14 = .ok (.iload_n 3, 1) := by decide +kernel
theorem dX4_take_15 : decode cX4_take 15 = .ok (.putfield 34, 3) := by decide +kernel
theorem dX4_take_18 : decode cX4_take 18 = .ok (.aload_n 0, 1) := by decide +kernel
theorem dX4_take_19 : decode cX4_take 19 = .ok (.iconst 0, 1) := by decide +kernel
theorem dX4_take_20 : decode cX4_take 20 = .ok (.putfield 37, 3) := by decide +kernel
theorem dX4_take_23 : decode cX4_take 23 = .ok (.aload_n 0, 1) := by decide +kernel
theorem dX4_take_24 : decode cX4_take 24 = .ok (.iload_n 1, 1) := by decide +kernel
theorem dX4_take_25 : decode cX4_take 25 = .ok (.putfield 59, 3) := by decide +kernel
theorem dX4_take_28 : decode cX4_take 28 = .ok (.aload_n 0, 1) := by decide +kernel
theorem dX4_take_29 : decode cX4_take 29 = .ok (.getfield 9, 3) := by decide +kernel
theorem dX4_take_32 : decode cX4_take 32 = .ok (.iconst 0, 1) := by decide +kernel
theorem dX4_take_33 : decode cX4_take 33 = .ok (.invokestatic 62, 3) := by decide +kernel
theorem dX4_take_36 : decode cX4_take 36 = .ok (.aload_n 0, 1) := by decide +kernel
theorem dX4_take_37 : decode cX4_take 37 = .ok (.dup, 1) := by decide +kernel
theorem dX4_take_38 : decode cX4_take 38 = .ok (.getfield 37, 3) := by decide +kernel
theorem dX4_take_41 : decode cX4_take 41 = .ok (.iconst 1, 1) := by decide +kernel
theorem dX4_take_42 : decode cX4_take 42 = .ok (.iadd, 1) := by decide +kernel
theorem dX4_take_43 : decode cX4_take 43 = .ok (.putfield 37, 3) := by decide +kernel
theorem dX4_take_46 : decode cX4_take 46 = .ok (.iconst 0, 1) := by decide +kernel
theorem dX4_take_47 : decode cX4_take 47 = .ok (.istore 4, 2) := by decide +kernel
theorem dX4_take_49 : decode cX4_take 49 = .ok (.iload 4, 2) := by decide +kernel
theorem dX4_take_51 : decode cX4_take 51 = .ok (.bipush 7, 2) := by decide +kernel
theorem dX4_take_53 : decode cX4_take 53 = .ok (.if_icmp .ge 35, 3) := by decide +kernel
theorem dX4_take_56 : decode cX4_take 56 = .ok (.iload 4, 2) := by decide +kernel
theorem dX4_take_58 : decode cX4_take 58 = .ok (.iload_n 2, 1) := by decide +kernel
theorem dX4_take_59 : decode cX4_take 59 = .ok (.if_icmp .eq 23, 3) := by decide +kernel
theorem dX4_take_62 : decode cX4_take 62 = .ok (.iload_n 1, 1) := by decide +kernel
theorem dX4_take_63 : decode cX4_take 63 = .ok (.iload 4, 2) := by decide +kernel
theorem dX4_take_65 : decode cX4_take 65 = .ok (.invokestatic 44, 3) := by decide +kernel
theorem dX4_take_68 : decode cX4_take 68 = .ok (.ifCond .eq 14, 3) := by decide +kernel
theorem dX4_take_71 : decode cX4_take 71 = .ok (.aload_n 0, 1) := by decide +kernel
theorem dX4_take_72 : decode cX4_take 72 = .ok (.getfield 9, 3) := by decide +kernel
theorem dX4_take_75 : decode cX4_take 75 = .ok (.iload 4, 2) := by decide +kernel
theorem dX4_take_77 : decode cX4_take 77 = .ok (.dup2, 1) := by decide +kernel
theorem dX4_take_78 : decode cX4_take 78 = .ok (.iaload, 1) := by decide +kernel
theorem dX4_take_79 : decode cX4_take 79 = .ok (.iconst 1, 1) := by decide +kernel
theorem dX4_take_80 : decode cX4_take 80 = .ok (.iadd, 1) := by decide +kernel
theorem dX4_take_81 : decode cX4_take 81 = .ok (.iastore, 1) := by decide +kernel
theorem dX4_take_82 : decode cX4_take 82 = .ok (.iinc 4 1, 3) := by decide +kernel
theorem dX4_take_85 : decode cX4_take 85 = .ok (.goto (-36), 3) := by decide +kernel
theorem dX4_take_88 : decode cX4_take 88 = .ok (.return_, 1) := by decide +kernel
set_option maxRecDepth 20000 in
theorem ggX4_inMost_X8_with : GoodIn wsX4_inMost wsX8_with := goodIn_r _ [4, 5, 6, 3, 7] (by decide +kernel) (by decide +kernel)
set_option maxRecDepth 20000 in
theorem gX4_inMost_X8_with_n68 : GoodIn wsX4_inMost (wsX8_with) := ggX4_inMost_X8_with
theorem dX4_inMost_0 : decode cX4_inMost 0 = .ok (.iconst 1, 1) := by decide +kernel
theorem dX4_inMost_1 : decode cX4_inMost 1 = .ok (.istore_n 1, 1) := by decide +kernel
theorem dX4_inMost_2 : decode cX4_inMost 2 = .ok (.iconst 0, 1) := by decide +kernel
theorem dX4_inMost_3 : decode cX4_inMost 3 = .ok (.istore_n 2, 1) := by decide +kernel
theorem dX4_inMost_4 : decode cX4_inMost 4 = .ok (.iconst 0, 1) := by decide +kernel
theorem dX4_inMost_5 : decode cX4_inMost 5 = .ok (.istore_n 3, 1) := by decide +kernel
theorem dX4_inMost_6 : decode cX4_inMost 6 = .ok (.iload_n 3, 1) := by decide +kernel
theorem dX4_inMost_7 : decode cX4_inMost 7 = .ok (.bipush 7, 2) := by decide +kernel
theorem dX4_inMost_9 : decode cX4_inMost 9 = .ok (.if_icmp .ge 49, 3) := by decide +kernel
theorem dX4_inMost_12 : decode cX4_inMost 12 = .ok (.aload_n 0, 1) := by decide +kernel
theorem dX4_inMost_13 : decode cX4_inMost 13 = .ok (.getfield 9, 3) := by decide +kernel
theorem dX4_inMost_16 : decode cX4_inMost 16 = .ok (.iload_n 3, 1) := by decide +kernel
theorem dX4_inMost_17 : decode cX4_inMost 17 = .ok (.iaload, 1) := by decide +kernel
theorem dX4_inMost_18 : decode cX4_inMost 18 = .ok (.iload_n 1, 1) := by decide +kernel
theorem dX4_inMost_19 : decode cX4_inMost 19 = .ok (.if_icmp .le 12, 3) := by decide +kernel
theorem dX4_inMost_22 : decode cX4_inMost 22 = .ok (.aload_n 0, 1) := by decide +kernel
theorem dX4_inMost_23 : decode cX4_inMost 23 = .ok (.getfield 9, 3) := by decide +kernel
theorem dX4_inMost_26 : decode cX4_inMost 26 = .ok (.iload_n 3, 1) := by decide +kernel
theorem dX4_inMost_27 : decode cX4_inMost 27 = .ok (.iaload, 1) := by decide +kernel
theorem dX4_inMost_28 : decode cX4_inMost 28 = .ok (.istore_n 1, 1) := by decide +kernel
theorem dX4_inMost_29 : decode cX4_inMost 29 = .ok (.iconst 0, 1) := by decide +kernel
theorem dX4_inMost_30 : decode cX4_inMost 30 = .ok (.istore_n 2, 1) := by decide +kernel
theorem dX4_inMost_31 : decode cX4_inMost 31 = .ok (.iload_n 2, 1) := by decide +kernel
theorem dX4_inMost_32 : decode cX4_inMost 32 = .ok (.iload_n 3, 1) := by decide +kernel
theorem dX4_inMost_33 : decode cX4_inMost 33 = .ok (.aload_n 0, 1) := by decide +kernel
theorem dX4_inMost_34 : decode cX4_inMost 34 = .ok (.getfield 9, 3) := by decide +kernel
theorem dX4_inMost_37 : decode cX4_inMost 37 = .ok (.iload_n 3, 1) := by decide +kernel
theorem dX4_inMost_38 : decode cX4_inMost 38 = .ok (.iaload, 1) := by decide +kernel
theorem dX4_inMost_39 : decode cX4_inMost 39 = .ok (.iload_n 1, 1) := by decide +kernel
theorem dX4_inMost_40 : decode cX4_inMost 40 = .ok (.if_icmp .ne 7, 3) := by decide +kernel
theorem dX4_inMost_43 : decode cX4_inMost 43 = .ok (.iconst 1, 1) := by decide +kernel
theorem dX4_inMost_44 : decode cX4_inMost 44 = .ok (.goto 4, 3) := by decide +kernel
theorem dX4_inMost_47 : decode cX4_inMost 47 = .ok (.iconst 0, 1) := by decide +kernel
theorem dX4_inMost_48 : decode cX4_inMost 48 = .ok (.invokestatic 68, 3) := by decide +kernel
theorem dX4_inMost_51 : decode cX4_inMost 51 = .ok (.istore_n 2, 1) := by decide +kernel
theorem dX4_inMost_52 : decode cX4_inMost 52 = .ok (.iinc 3 1, 3) := by decide +kernel
theorem dX4_inMost_55 : decode cX4_inMost 55 = .ok (.goto (-49), 3) := by decide +kernel
theorem dX4_inMost_58 : decode cX4_inMost 58 = .ok (.iload_n 2, 1) := by decide +kernel
theorem dX4_inMost_59 : decode cX4_inMost 59 = .ok (.ireturn, 1) := by decide +kernel
theorem dX5_init_0 : decode cX5_init 0 = .ok (.aload_n 0, 1) := by decide +kernel
theorem dX5_init_1 : decode cX5_init 1 = .ok (.invokespecial 3, 3) := by decide +kernel
theorem dX5_init_4 : decode cX5_init 4 = .ok (.aload_n 0, 1) := by decide +kernel
theorem dX5_init_5 : decode cX5_init 5 = .ok (.iconst 3, 1) := by decide +kernel
theorem dX5_init_6 : decode cX5_init 6 = .ok (.putfield 9, 3) := by decide +kernel
theorem dX5_init_9 : decode cX5_init 9 = .ok (.aload_n 0, 1) := by decide +kernel
theorem dX5_init_10 : decode cX5_init 10 = .ok (.bipush 7, 2) := by decide +kernel
theorem dX5_init_12 : decode cX5_init 12 = .ok (.newarray .int, 2) := by decide +kernel
theorem dX5_init_14 : decode cX5_init 14 = .ok (.putfield 15, 3) := by decide +kernel
theorem dX5_init_17 : decode cX5_init 17 = .ok (.aload_n 0, 1) := by decide +kernel
theorem dX5_init_18 : decode cX5_init 18 = .ok (.bipush 7, 2) := by decide +kernel
theorem dX5_init_20 : decode cX5_init 20 = .ok (.newarray .int, 2) := by decide +kernel
theorem dX5_init_22 : decode cX5_init 22 = .ok (.putfield 19, 3) := by decide +kernel
theorem dX5_init_25 : decode cX5_init 25 = .ok (.aload_n 0, 1) := by decide +kernel
theorem dX5_init_26 : decode cX5_init 26 = .ok (.bipush 7, 2) := by decide +kernel
theorem dX5_init_28 : decode cX5_init 28 = .ok (.newarray .int, 2) := by decide +kernel
theorem dX5_init_30 : decode cX5_init 30 = .ok (.putfield 22, 3) := by decide +kernel
theorem dX5_init_33 : decode cX5_init 33 = .ok (.aload_n 0, 1) := by decide +kernel
theorem dX5_init_34 : decode cX5_init 34 = .ok (.bipush 7, 2) := by decide +kernel
theorem dX5_init_36 : decode cX5_init 36 = .ok (.newarray .int, 2) := by decide +kernel
theorem dX5_init_38 : decode cX5_init 38 = .ok (.putfield 25, 3) := by decide +kernel
theorem dX5_init_41 : decode cX5_init 41 = .ok (.aload_n 0, 1) := by decide +kernel
theorem dX5_init_42 : decode cX5_init 42 = .ok (.bipush 6, 2) := by decide +kernel
theorem dX5_init_44 : decode cX5_init 44 = .ok (.newarray .int, 2) := by decide +kernel
theorem dX5_init_46 : decode cX5_init 46 = .ok (.putfield 28, 3) := by decide +kernel
theorem dX5_init_49 : decode cX5_init 49 = .ok (.return_, 1) := by decide +kernel
theorem dX5_clear_0 : decode cX5_clear 0 = .ok (.aload_n 0, 1) := by decide +kernel
theorem dX5_clear_1 : decode cX5_clear 1 = .ok (.iconst 0, 1) := by decide +kernel
theorem dX5_clear_2 : decode cX5_clear 2 = .ok (.putfield 31, 3) := by decide +kernel
theorem dX5_clear_5 : decode cX5_clear 5 = .ok (.aload_n 0, 1) := by decide +kernel
theorem dX5_clear_6 : decode cX5_clear 6 = .ok (.iconst 3, 1) := by decide +kernel
theorem dX5_clear_7 : decode cX5_clear 7 = .ok (.putfield 9, 3) := by decide +kernel
theorem dX5_clear_10 : decode cX5_clear 10 = .ok (.aload_n 0, 1) := by decide +kernel
theorem dX5_clear_11 : decode cX5_clear 11 = .ok (.iconst 0, 1) := by decide +kernel
theorem dX5_clear_12 : decode cX5_clear 12 = .ok (.putfield 34, 3) := by decide +kernel
theorem dX5_clear_15 : decode cX5_clear 15 = .ok (.return_, 1) := by decide +kernel
theorem dX5_copyFrom_0 : decode cX5_copyFrom 0 = .ok (.aload_n 0, 1) := by decide +kernel
theorem dX5_copyFrom_1 : decode cX5_copyFrom 1 = .ok (.aload_n 1, 1) := by decide +kernel
theorem dX5_copyFrom_2 : decode cX5_copyFrom 2 = .ok (.getfield 31, 3) := by decide +kernel
theorem dX5_copyFrom_5 : decode cX5_copyFrom 5 = .ok (.putfield 31, 3) := by decide +kernel
theorem dX5_copyFrom_8 : decode cX5_copyFrom 8 = .ok (.aload_n 0, 1) := by decide +kernel
theorem dX5_copyFrom_9 : decode cX5_copyFrom 9 = .ok (.aload_n 1, 1) := by decide +kernel
theorem dX5_copyFrom_10 : decode cX5_copyFrom 10 = .ok (.getfield 9, 3) := by decide +kernel
theorem dX5_copyFrom_13 : decode cX5_copyFrom 13 = .ok (.putfield 9, 3) := by decide +kernel
theorem dX5_copyFrom_16 : decode cX5_copyFrom 16 = .ok (.aload_n 0, 1) := by decide +kernel
theorem dX5_copyFrom_17 : decode cX5_copyFrom 17 = .ok (.aload_n 1, 1) := by decide +kernel
theorem dX5_copyFrom_18 : decode cX5_copyFrom 18 = .ok (.getfield 34, 3) := by decide +kernel
theorem dX5_copyFrom_21 : decode cX5_copyFrom 21 = .ok (.putfield 34, 3) := by decide +kernel
theorem dX5_copyFrom_24 : decode cX5_copyFrom 24 = .ok (.aload_n 1, 1) := by decide +kernel
theorem dX5_copyFrom_25 : decode cX5_copyFrom 25 = .ok (.getfield 15, 3) := by decide +kernel
theorem dX5_copyFrom_28 : decode cX5_copyFrom 28 = .ok (.iconst 0, 1) := by decide +kernel
theorem dX5_copyFrom_29 : decode cX5_copyFrom 29 = .ok (.aload_n 0, 1) := by decide +kernel
theorem dX5_copyFrom_30 : decode cX5_copyFrom 30 = .ok (.getfield 15, 3) := by decide +kernel
theorem dX5_copyFrom_33 : decode cX5_copyFrom 33 = .ok (.iconst 0, 1) := by decide +kernel
theorem dX5_copyFrom_34 : decode cX5_copyFrom 34 = .ok (.bipush 7, 2) := by decide +kernel
theorem dX5_copyFrom_36 : decode cX5_copyFrom 36 = .ok (.invokestatic 37, 3) := by decide +kernel
theorem dX5_copyFrom_39 : decode cX5_copyFrom 39 = .ok (.aload_n 1, 1) := by decide +kernel
theorem dX5_copyFrom_40 : decode cX5_copyFrom 40 = .ok (.getfield 19, 3) := by decide +kernel
theorem dX5_copyFrom_43 : decode cX5_copyFrom 43 = .ok (.iconst 0, 1) := by decide +kernel
theorem dX5_copyFrom_44 : decode cX5_copyFrom 44 = .ok (.aload_n 0, 1) := by decide +kernel
theorem dX5_copyFrom_45 : decode cX5_copyFrom 45 = .ok (.getfield 19, 3) := by decide +kernel
theorem dX5_copyFrom_48 : decode cX5_copyFrom 48 = .ok (.iconst 0, 1) := by decide +kernel
theorem dX5_copyFrom_49 : decode cX5_copyFrom 49 = .ok (.bipush 7, 2) := by decide +kernel
theorem dX5_copyFrom_51 : decode cX5_copyFrom 51 = .ok (.invokestatic 37, 3) := by decide +kernel
theorem dX5_copyFrom_54 : decode cX5_copyFrom 54 = .ok (.aload_n 1, 1) := by decide +kernel
theorem dX5_copyFrom_55 : decode cX5_copyFrom 55 = .ok (.getfield 22, 3) := by decide +kernel
theorem dX5_copyFrom_58 : decode cX5_copyFrom 58 = .ok (.iconst 0, 1) := by decide +kernel
theorem dX5_copyFrom_59 : decode cX5_copyFrom 59 = .ok (.aload_n 0, 1) := by decide +kernel
theorem dX5_copyFrom_60 : decode cX5_copyFrom 60 = .ok (.getfield 22, 3) := by decide +kernel
theorem dX5_copyFrom_63 : decode cX5_copyFrom 63 = .ok (.iconst 0, 1) := by decide +kernel
theorem dX5_copyFrom_64 : decode cX5_copyFrom 64 = .ok (.bipush 7, 2) := by decide +kernel
theorem dX5_copyFrom_66 : decode cX5_copyFrom 66 = .ok (.invokestatic 37, 3) := by decide +kernel
theorem dX5_copyFrom_69 : decode cX5_copyFrom 69 = .ok (.aload_n 1, 1) := by decide +kernel
theorem dX5_copyFrom_70 : decode cX5_copyFrom 70 = .ok (.getfield 25, 3) := by decide +kernel
theorem dX5_copyFrom_73 : decode cX5_copyFrom 73 = .ok (.iconst 0, 1) := by decide +kernel
theorem dX5_copyFrom_74 : decode cX5_copyFrom 74 = .ok (.aload_n 0, 1) := by decide +kernel
theorem dX5_copyFrom_75 : decode cX5_copyFrom 75 = .ok (.getfield 25, 3) := by decide +kernel
theorem dX5_copyFrom_78 : decode cX5_copyFrom 78 = .ok (.iconst 0, 1) := by decide +kernel
theorem dX5_copyFrom_79 : decode cX5_copyFrom 79 = .ok (.bipush 7, 2) := by decide +kernel
theorem dX5_copyFrom_81 : decode cX5_copyFrom 81 = .ok (.invokestatic 37, 3) := by decide +kernel
theorem dX5_copyFrom_84 : decode cX5_copyFrom 84 = .ok (.aload_n 1, 1) := by decide +kernel
theorem dX5_copyFrom_85 : decode cX5_copyFrom 85 = .ok (.getfield 28, 3) := by decide +kernel
theorem dX5_copyFrom_88 : decode cX5_copyFrom 88 = .ok (.iconst 0, 1) := by decide +kernel
theorem dX5_copyFrom_89 : decode cX5_copyFrom 89 = .ok (.aload_n 0, 1) := by decide +kernel
theorem dX5_copyFrom_90 : decode cX5_copyFrom 90 = .ok (.getfield 28, 3) := by decide +kernel
theorem dX5_copyFrom_93 : decode cX5_copyFrom 93 = .ok (.iconst 0, 1) := by decide +kernel
theorem dX5_copyFrom_94 : decode cX5_copyFrom 94 = .ok (.bipush 6, 2) := by decide +kernel
theorem dX5_copyFrom_96 : decode cX5_copyFrom 96 = .ok (.invokestatic 37, 3) := by decide +kernel
theorem dX5_copyFrom_99 : decode cX5_copyFrom 99 = .ok (.return_, 1) := by decide +kernel
theorem dX5_addFamily_0 : decode cX5_addFamily 0 = .ok (.aload_n 0, 1) := by decide +kernel
theorem dX5_addFamily_1 : decode cX5_addFamily 1 = .ok (.getfield 31, 3) := by decide +kernel
theorem dX5_addFamily_4 : decode cX5_addFamily 4 = .ok (.bipush 7, 2) := by decide +kernel
theorem dX5_addFamily_6 : decode cX5_addFamily 6 = .ok (.if_icmp .ge 53, 3) := by decide +kernel
theorem dX5_addFamily_9 : decode cX5_addFamily 9 = .ok (.aload_n 0, 1) := by decide +kernel
theorem dX5_addFamily_10 : decode cX5_addFamily 10 = .ok (.getfield 15, 3) := by decide +kernel
theorem dX5_addFamily_13 : decode cX5_addFamily 13 = .ok (.aload_n 0, 1) := by decide +kernel
theorem dX5_addFamily_14 : decode cX5_addFamily 14 = .ok (.getfield 31, 3) := by decide +kernel
theorem dX5_addFamily_17 : decode cX5_addFamily 17 = .ok (.iload_n 1, 1) := by decide +kernel
theorem dX5_addFamily_18 : decode cX5_addFamily 18 = .ok (.iastore, 1) := by decide +kernel
theorem dX5_addFamily_19 : decode cX5_addFamily 19 = .ok (.aload_n 0, 1) := by decide +kernel
theorem dX5_addFamily_20 : decode cX5_addFamily 20 = .ok (.getfield 19, 3) := by decide +kernel
theorem dX5_addFamily_23 : decode cX5_addFamily 23 = .ok (.aload_n 0, 1) := by decide +kernel
theorem dX5_addFamily_24 : decode cX5_addFamily 24 = .ok (.getfield 31, 3) := by decide +kernel
theorem dX5_addFamily_27 : decode cX5_addFamily 27 = .ok (.iload_n 2, 1) := by decide +kernel
theorem dX5_addFamily_28 : decode cX5_addFamily 28 = .ok (.iastore, 1) := by decide +kernel
theorem dX5_addFamily_29 : decode cX5_addFamily 29 = .ok (.aload_n 0, 1) := by decide +kernel
theorem dX5_addFamily_30 : decode cX5_addFamily 30 = .ok (.getfield 22, 3) := by decide +kernel
theorem dX5_addFamily_33 : decode cX5_addFamily 33 = .ok (.aload_n 0, 1) := by decide +kernel
theorem dX5_addFamily_34 : decode cX5_addFamily 34 = .ok (.getfield 31, 3) := by decide +kernel
theorem dX5_addFamily_37 : decode cX5_addFamily 37 = .ok (.iload_n 3, 1) := by decide +kernel
theorem dX5_addFamily_38 : decode cX5_addFamily 38 = .ok (.iastore, 1) := by decide +kernel
theorem dX5_addFamily_39 : decode cX5_addFamily 39 = .ok (.aload_n 0, 1) := by decide +kernel
theorem dX5_addFamily_40 : decode cX5_addFamily 40 = .ok (.getfield 25, 3) := by decide +kernel
theorem dX5_addFamily_43 : decode cX5_addFamily 43 = .ok (.aload_n 0, 1) := by decide +kernel
theorem dX5_addFamily_44 : decode cX5_addFamily 44 = .ok (.getfield 31, 3) := by decide +kernel
theorem dX5_addFamily_47 : decode cX5_addFamily 47 = .ok (.iconst 0, 1) := by decide +kernel
theorem dX5_addFamily_48 : decode cX5_addFamily 48 = .ok (.iastore, 1) := by decide +kernel
theorem dX5_addFamily_49 : decode cX5_addFamily 49 = .ok (.aload_n 0, 1) := by decide +kernel
theorem dX5_addFamily_50 : decode cX5_addFamily 50 = .ok (.dup, 1) := by decide +kernel
theorem dX5_addFamily_51 : decode cX5_addFamily 51 = .ok (.getfield 31, 3) := by decide +kernel
theorem dX5_addFamily_54 : decode cX5_addFamily 54 = .ok (.iconst 1, 1) := by decide +kernel
theorem dX5_addFamily_55 : decode cX5_addFamily 55 = .ok (.iadd, 1) := by decide +kernel
theorem dX5_addFamily_56 : decode cX5_addFamily 56 = .ok (.putfield 31, 3) := by decide +kernel
theorem dX5_addFamily_59 : decode cX5_addFamily 59 = .ok (.return_, 1) := by decide +kernel
theorem dX5_addCold_0 : decode cX5_addCold 0 = .ok (.aload_n 0, 1) := by decide +kernel
theorem dX5_addCold_1 : decode cX5_addCold 1 = .ok (.getfield 34, 3) := by decide +kernel
theorem dX5_addCold_4 : decode cX5_addCold 4 = .ok (.bipush 6, 2) := by decide +kernel
theorem dX5_addCold_6 : decode cX5_addCold 6 = .ok (.if_icmp .ge 23, 3) := by decide +kernel
theorem dX5_addCold_9 : decode cX5_addCold 9 = .ok (.aload_n 0, 1) := by decide +kernel
theorem dX5_addCold_10 : decode cX5_addCold 10 = .ok (.getfield 28, 3) := by decide +kernel
theorem dX5_addCold_13 : decode cX5_addCold 13 = .ok (.aload_n 0, 1) := by decide +kernel
theorem dX5_addCold_14 : decode cX5_addCold 14 = .ok (.getfield 34, 3) := by decide +kernel
theorem dX5_addCold_17 : decode cX5_addCold 17 = .ok (.iload_n 1, 1) := by decide +kernel
theorem dX5_addCold_18 : decode cX5_addCold 18 = .ok (.iastore, 1) := by decide +kernel
theorem dX5_addCold_19 : decode cX5_addCold 19 = .ok (.aload_n 0, 1) := by decide +kernel
theorem dX5_addCold_20 : decode cX5_addCold 20 = .ok (.dup, 1) := by decide +kernel
theorem dX5_addCold_21 : decode cX5_addCold 21 = .ok (.getfield 34, 3) := by decide +kernel
theorem dX5_addCold_24 : decode cX5_addCold 24 = .ok (.iconst 1, 1) := by decide +kernel
theorem dX5_addCold_25 : decode cX5_addCold 25 = .ok (.iadd, 1) := by decide +kernel
theorem dX5_addCold_26 : decode cX5_addCold 26 = .ok (.putfield 34, 3) := by decide +kernel
theorem dX5_addCold_29 : decode cX5_addCold 29 = .ok (.return_, 1) := by decide +kernel
set_option maxRecDepth 20000 in
theorem ggX5_all_X8_bit : GoodIn wsX5_all wsX8_bit := goodIn_r _ [4] (by decide +kernel) (by decide +kernel)
set_option maxRecDepth 20000 in
theorem gX5_all_X8_bit_n43 : GoodIn wsX5_all (wsX8_bit) := ggX5_all_X8_bit
theorem dX5_all_0 : decode cX5_all 0 = .ok (.aload_n 0, 1) := by decide +kernel
theorem dX5_all_1 : decode cX5_all 1 = .ok (.getfield 31, 3) := by decide +kernel
theorem dX5_all_4 : decode cX5_all 4 = .ok (.invokestatic 43, 3) := by decide +kernel
theorem dX5_all_7 : decode cX5_all 7 = .ok (.iconst 1, 1) := by decide +kernel
theorem dX5_all_8 : decode cX5_all 8 = .ok (.isub, 1) := by decide +kernel
theorem dX5_all_9 : decode cX5_all 9 = .ok (.ireturn, 1) := by decide +kernel
theorem dX5_coldOn_0 : decode cX5_coldOn 0 = .ok (.aload_n 0, 1) := by decide +kernel
theorem dX5_coldOn_1 : decode cX5_coldOn 1 = .ok (.getfield 34, 3) := by decide +kernel
theorem dX5_coldOn_4 : decode cX5_coldOn 4 = .ok (.ifCond .le 21, 3) := by decide +kernel
theorem dX5_coldOn_7 : decode cX5_coldOn 7 = .ok (.iload_n 1, 1) := by decide +kernel
theorem dX5_coldOn_8 : decode cX5_coldOn 8 = .ok (.ifCond .lt 17, 3) := by decide +kernel
theorem dX5_coldOn_11 : decode cX5_coldOn 11 = .ok (.aload_n 0, 1) := by decide +kernel
theorem dX5_coldOn_12 : decode cX5_coldOn 12 = .ok (.getfield 28, 3) := by decide +kernel
theorem dX5_coldOn_15 : decode cX5_coldOn 15 = .ok (.iload_n 1, 1) := by decide +kernel
theorem dX5_coldOn_16 : decode cX5_coldOn 16 = .ok (.aload_n 0, 1) := by decide +kernel
theorem dX5_coldOn_17 : decode cX5_coldOn 17 = .ok (.getfield 34, 3) := by decide +kernel
theorem dX5_coldOn_20 : decode cX5_coldOn 20 = .ok (.irem, 1) := by decide +kernel
theorem dX5_coldOn_21 : decode cX5_coldOn 21 = .ok (.iaload, 1) := by decide +kernel
theorem dX5_coldOn_22 : decode cX5_coldOn 22 = .ok (.goto 4, 3) := by decide +kernel
theorem dX5_coldOn_25 : decode cX5_coldOn 25 = .ok (.iconst 5, 1) := by decide +kernel
theorem dX5_coldOn_26 : decode cX5_coldOn 26 = .ok (.ireturn, 1) := by decide +kernel
theorem dX5_weightOf_0 : decode cX5_weightOf 0 = .ok (.aload_n 0, 1) := by decide +kernel
theorem dX5_weightOf_1 : decode cX5_weightOf 1 = .ok (.getfield 15, 3) := by decide +kernel
theorem dX5_weightOf_4 : decode cX5_weightOf 4 = .ok (.iload_n 1, 1) := by decide +kernel
theorem dX5_weightOf_5 : decode cX5_weightOf 5 = .ok (.iaload, 1) := by decide +kernel
theorem dX5_weightOf_6 : decode cX5_weightOf 6 = .ok (.tableswitch 48 1 3 #[26, 36, 38], 26) := by decide +kernel
theorem dX5_weightOf_32 : decode cX5_weightOf 32 = .ok (.iload_n 2, 1) := by decide +kernel
theorem dX5_weightOf_33 : decode cX5_weightOf 33 = .ok (.ifCond .eq 7, 3) := by decide +kernel
theorem dX5_weightOf_36 : decode cX5_weightOf 36 = .ok (.iconst 2, 1) := by decide +kernel
theorem dX5_weightOf_37 : decode cX5_weightOf 37 = .ok (.goto 4, 3) := by decide +kernel
theorem dX5_weightOf_40 : decode cX5_weightOf 40 = .ok (.iconst 1, 1) := by decide +kernel
theorem dX5_weightOf_41 : decode cX5_weightOf 41 = .ok (.ireturn, 1) := by decide +kernel
theorem dX5_weightOf_42 : decode cX5_weightOf 42 = .ok (.iconst 2, 1) := by decide +kernel
theorem dX5_weightOf_43 : decode cX5_weightOf 43 = .ok (.ireturn, 1) := by decide +kernel
theorem dX5_weightOf_44 : decode cX5_weightOf 44 = .ok (.iload_n 2, 1) := by decide +kernel
theorem dX5_weightOf_45 : decode cX5_weightOf 45 = .ok (.ifCond .eq 7, 3) := by decide +kernel
theorem dX5_weightOf_48 : decode cX5_weightOf 48 = .ok (.iconst 0, 1) := by decide +kernel
theorem dX5_weightOf_49 : decode cX5_weightOf 49 = .ok (.goto 4, 3) := by decide +kernel
theorem dX5_weightOf_52 : decode cX5_weightOf 52 = .ok (.iconst 1, 1) := by decide +kernel
theorem dX5_weightOf_53 : decode cX5_weightOf 53 = .ok (.ireturn, 1) := by decide +kernel
theorem dX5_weightOf_54 : decode cX5_weightOf 54 = .ok (.iconst 1, 1) := by decide +kernel
theorem dX5_weightOf_55 : decode cX5_weightOf 55 = .ok (.ireturn, 1) := by decide +kernel
set_option maxRecDepth 20000 in
theorem ggX5_weightOfSet_X8_holds : GoodIn wsX5_weightOfSet wsX8_holds := goodIn_r _ [4] (by decide +kernel) (by decide +kernel)
set_option maxRecDepth 20000 in
theorem gX5_weightOfSet_X8_holds_n47 : GoodIn wsX5_weightOfSet (wsX8_holds) := ggX5_weightOfSet_X8_holds
set_option maxRecDepth 20000 in
theorem ggX5_weightOfSet_X5_weightOf : GoodIn wsX5_weightOfSet wsX5_weightOf := goodIn_r _ [9, 10, 11, 12, 13, 14, 15, 16, 17, 18] (by decide +kernel) (by decide +kernel)
set_option maxRecDepth 20000 in
theorem gX5_weightOfSet_X5_weightOf : GoodIn wsX5_weightOfSet (wsV RX5 51 RX5 yX5_weightOf wsX5_weightOf) := goodIn_app (goodIn_of _ (by decide +kernel)) ggX5_weightOfSet_X5_weightOf
theorem dX5_weightOfSet_0 : decode cX5_weightOfSet 0 = .ok (.iconst 0, 1) := by decide +kernel
theorem dX5_weightOfSet_1 : decode cX5_weightOfSet 1 = .ok (.istore_n 3, 1) := by decide +kernel
theorem dX5_weightOfSet_2 : decode cX5_weightOfSet 2 = .ok (.iconst 0, 1) := by decide +kernel
theorem dX5_weightOfSet_3 : decode cX5_weightOfSet 3 = .ok (.istore 4, 2) := by decide +kernel
theorem dX5_weightOfSet_5 : decode cX5_weightOfSet 5 = .ok (.iload 4, 2) := by decide +kernel
theorem dX5_weightOfSet_7 : decode cX5_weightOfSet 7 = .ok (.aload_n 0, 1) := by decide +kernel
theorem dX5_weightOfSet_8 : decode cX5_weightOfSet 8 = .ok (.getfield 31, 3) := by decide +kernel
theorem dX5_weightOfSet_11 : decode cX5_weightOfSet 11 = .ok (.if_icmp .ge 28, 3) := by decide +kernel
theorem dX5_weightOfSet_14 : decode cX5_weightOfSet 14 = .ok (.iload_n 1, 1) := by decide +kernel
theorem dX5_weightOfSet_15 : decode cX5_weightOfSet 15 = .ok (.iload 4, 2) := by decide +kernel
theorem dX5_weightOfSet_17 : decode cX5_weightOfSet 17 = .ok (.invokestatic 47, 3) := by decide +kernel
theorem dX5_weightOfSet_20 : decode cX5_weightOfSet 20 = .ok (.ifCond .eq 13, 3) := by decide +kernel
theorem dX5_weightOfSet_23 : decode cX5_weightOfSet 23 = .ok (.iload_n 3, 1) := by decide +kernel
theorem dX5_weightOfSet_24 : decode cX5_weightOfSet 24 = .ok (.aload_n 0, 1) := by decide +kernel
theorem dX5_weightOfSet_25 : decode cX5_weightOfSet 25 = .ok (.iload 4, 2) := by decide +kernel
theorem dX5_weightOfSet_27 : decode cX5_weightOfSet 27 = .ok (.iload_n 2, 1) := by decide +kernel
theorem dX5_weightOfSet_28 : decode cX5_weightOfSet 28 = .ok (.invokevirtual 51, 3) := by decide +kernel
theorem dX5_weightOfSet_31 : decode cX5_weightOfSet 31 = .ok (.iadd, 1) := by decide +kernel
theorem dX5_weightOfSet_32 : decode cX5_weightOfSet 32 = .ok (.istore_n 3, 1) := by decide +kernel
theorem dX5_weightOfSet_33 : decode cX5_weightOfSet 33 = .ok (.iinc 4 1, 3) := by decide +kernel
theorem dX5_weightOfSet_36 : decode cX5_weightOfSet 36 = .ok (.goto (-31), 3) := by decide +kernel
theorem dX5_weightOfSet_39 : decode cX5_weightOfSet 39 = .ok (.iload_n 3, 1) := by decide +kernel
theorem dX5_weightOfSet_40 : decode cX5_weightOfSet 40 = .ok (.ireturn, 1) := by decide +kernel
set_option maxRecDepth 20000 in
theorem ggX5_isCarriedBy_X5_weightOfSet : GoodIn wsX5_isCarriedBy wsX5_weightOfSet := goodIn_r _ [6, 7, 8, 9, 10, 11, 12, 13, 5, 14, 15, 16, 17, 18, 19, 20, 21, 22, 23] (by decide +kernel) (by decide +kernel)
set_option maxRecDepth 20000 in
theorem gX5_isCarriedBy_X5_weightOfSet : GoodIn wsX5_isCarriedBy (wsV RX5 55 RX5 yX5_weightOfSet wsX5_weightOfSet) := goodIn_app (goodIn_of _ (by decide +kernel)) ggX5_isCarriedBy_X5_weightOfSet
theorem dX5_isCarriedBy_0 : decode cX5_isCarriedBy 0 = .ok (.aload_n 0, 1) := by decide +kernel
theorem dX5_isCarriedBy_1 : decode cX5_isCarriedBy 1 = .ok (.iload_n 1, 1) := by decide +kernel
theorem dX5_isCarriedBy_2 : decode cX5_isCarriedBy 2 = .ok (.iload_n 2, 1) := by decide +kernel
theorem dX5_isCarriedBy_3 : decode cX5_isCarriedBy 3 = .ok (.invokevirtual 55, 3) := by decide +kernel
theorem dX5_isCarriedBy_6 : decode cX5_isCarriedBy 6 = .ok (.aload_n 0, 1) := by decide +kernel
theorem dX5_isCarriedBy_7 : decode cX5_isCarriedBy 7 = .ok (.getfield 9, 3) := by decide +kernel
theorem dX5_isCarriedBy_10 : decode cX5_isCarriedBy 10 = .ok (.if_icmp .lt 7, 3) := by decide +kernel
theorem dX5_isCarriedBy_13 : decode cX5_isCarriedBy 13 = .ok (.iconst 1, 1) := by decide +kernel
theorem dX5_isCarriedBy_14 : decode cX5_isCarriedBy 14 = .ok (.goto 4, 3) := by decide +kernel
theorem dX5_isCarriedBy_17 : decode cX5_isCarriedBy 17 = .ok (.iconst 0, 1) := by decide +kernel
theorem dX5_isCarriedBy_18 : decode cX5_isCarriedBy 18 = .ok (.ireturn, 1) := by decide +kernel
set_option maxRecDepth 20000 in
theorem ggX5_warmthOfSet_X8_holds : GoodIn wsX5_warmthOfSet wsX8_holds := goodIn_r _ [5] (by decide +kernel) (by decide +kernel)
set_option maxRecDepth 20000 in
theorem gX5_warmthOfSet_X8_holds_n47 : GoodIn wsX5_warmthOfSet (wsX8_holds) := ggX5_warmthOfSet_X8_holds
theorem dX5_warmthOfSet_0 : decode cX5_warmthOfSet 0 = .ok (.iload_n 1, 1) := by decide +kernel
theorem dX5_warmthOfSet_1 : decode cX5_warmthOfSet 1 = .ok (.iconst 1, 1) := by decide +kernel
theorem dX5_warmthOfSet_2 : decode cX5_warmthOfSet 2 = .ok (.ishl, 1) := by decide +kernel
theorem dX5_warmthOfSet_3 : decode cX5_warmthOfSet 3 = .ok (.iload_n 1, 1) := by decide +kernel
theorem dX5_warmthOfSet_4 : decode cX5_warmthOfSet 4 = .ok (.iconst 1, 1) := by decide +kernel
theorem dX5_warmthOfSet_5 : decode cX5_warmthOfSet 5 = .ok (.ishr, 1) := by decide +kernel
theorem dX5_warmthOfSet_6 : decode cX5_warmthOfSet 6 = .ok (.ior, 1) := by decide +kernel
theorem dX5_warmthOfSet_7 : decode cX5_warmthOfSet 7 = .ok (.istore_n 2, 1) := by decide +kernel
theorem dX5_warmthOfSet_8 : decode cX5_warmthOfSet 8 = .ok (.iconst 0, 1) := by decide +kernel
theorem dX5_warmthOfSet_9 : decode cX5_warmthOfSet 9 = .ok (.istore_n 3, 1) := by decide +kernel
theorem dX5_warmthOfSet_10 : decode cX5_warmthOfSet 10 = .ok (.iconst 0, 1) := by decide +kernel
theorem dX5_warmthOfSet_11 : decode cX5_warmthOfSet 11 = .ok (.istore 4, 2) := by decide +kernel
theorem dX5_warmthOfSet_13 : decode cX5_warmthOfSet 13 = .ok (.iload 4, 2) := by decide +kernel
theorem dX5_warmthOfSet_15 : decode cX5_warmthOfSet 15 = .ok (.aload_n 0, 1) := by decide +kernel
theorem dX5_warmthOfSet_16 : decode cX5_warmthOfSet 16 = .ok (.getfield 31, 3) := by decide +kernel
theorem dX5_warmthOfSet_19 : decode cX5_warmthOfSet 19 = .ok (.if_icmp .ge 49, 3) := by decide +kernel
theorem dX5_warmthOfSet_22 : decode cX5_warmthOfSet 22 = .ok (.iload_n 1, 1) := by decide +kernel
theorem dX5_warmthOfSet_23 : decode cX5_warmthOfSet 23 = .ok (.iload 4, 2) := by decide +kernel
theorem dX5_warmthOfSet_25 : decode cX5_warmthOfSet 25 = .ok (.invokestatic 47, 3) := by decide +kernel
theorem dX5_warmthOfSet_28 : decode cX5_warmthOfSet 28 = .ok (.ifCond .eq 34, 3) := by decide +kernel
theorem dX5_warmthOfSet_31 : decode cX5_warmthOfSet 31 = .ok (.iload_n 3, 1) := by decide +kernel
theorem dX5_warmthOfSet_32 : decode cX5_warmthOfSet 32 = .ok (.iload_n 2, 1) := by decide +kernel
theorem dX5_warmthOfSet_33 : decode cX5_warmthOfSet 33 = .ok (.iload 4, 2) := by decide +kernel
theorem dX5_warmthOfSet_35 : decode cX5_warmthOfSet 35 = .ok (.invokestatic 47, 3) := by decide +kernel
theorem dX5_warmthOfSet_38 : decode cX5_warmthOfSet 38 = .ok (.ifCond .eq 13, 3) := by decide +kernel
theorem dX5_warmthOfSet_41 : decode cX5_warmthOfSet 41 = .ok (.aload_n 0, 1) := by decide +kernel
theorem dX5_warmthOfSet_42 : decode cX5_warmthOfSet 42 = .ok (.getfield 19, 3) := by decide +kernel
theorem dX5_warmthOfSet_45 : decode cX5_warmthOfSet 45 = .ok (.iload 4, 2) := by decide +kernel
theorem dX5_warmthOfSet_47 : decode cX5_warmthOfSet 47 = .ok (.iaload, 1) := by decide +kernel
theorem dX5_warmthOfSet_48 : decode cX5_warmthOfSet 48 = .ok (.goto 12, 3) := by decide +kernel
theorem dX5_warmthOfSet_51 : decode cX5_warmthOfSet 51 = .ok (.aload_n 0, 1) := by decide +kernel
theorem dX5_warmthOfSet_52 : decode cX5_warmthOfSet 52 = .ok (.getfield 19, 3) := by decide +kernel
theorem dX5_warmthOfSet_55 : decode cX5_warmthOfSet 55 = .ok (.iload 4, 2) := by decide +kernel
theorem dX5_warmthOfSet_57 : decode cX5_warmthOfSet 57 = .ok (.iaload, 1) := by decide +kernel
theorem dX5_warmthOfSet_58 : decode cX5_warmthOfSet 58 = .ok (.iconst 2, 1) := by decide +kernel
theorem dX5_warmthOfSet_59 : decode cX5_warmthOfSet 59 = .ok (.idiv, 1) := by decide +kernel
theorem dX5_warmthOfSet_60 : decode cX5_warmthOfSet 60 = .ok (.iadd, 1) := by decide +kernel
theorem dX5_warmthOfSet_61 : decode cX5_warmthOfSet 61 = .ok (.istore_n 3, 1) := by decide +kernel
theorem dX5_warmthOfSet_62 : decode cX5_warmthOfSet 62 = .ok (.iinc 4 1, 3) := by decide +kernel
theorem dX5_warmthOfSet_65 : decode cX5_warmthOfSet 65 = .ok (.goto (-52), 3) := by decide +kernel
theorem dX5_warmthOfSet_68 : decode cX5_warmthOfSet 68 = .ok (.iload_n 3, 1) := by decide +kernel
theorem dX5_warmthOfSet_69 : decode cX5_warmthOfSet 69 = .ok (.ireturn, 1) := by decide +kernel
set_option maxRecDepth 20000 in
theorem ggX5_priceOfSet_X8_holds : GoodIn wsX5_priceOfSet wsX8_holds := goodIn_r _ [5] (by decide +kernel) (by decide +kernel)
set_option maxRecDepth 20000 in
theorem gX5_priceOfSet_X8_holds_n47 : GoodIn wsX5_priceOfSet (wsX8_holds) := ggX5_priceOfSet_X8_holds
theorem dX5_priceOfSet_0 : decode cX5_priceOfSet 0 = .ok (.iconst 0, 1) := by decide +kernel
theorem dX5_priceOfSet_1 : decode cX5_priceOfSet 1 = .ok (.istore_n 2, 1) := by decide +kernel
theorem dX5_priceOfSet_2 : decode cX5_priceOfSet 2 = .ok (.iconst 0, 1) := by decide +kernel
theorem dX5_priceOfSet_3 : decode cX5_priceOfSet 3 = .ok (.istore_n 3, 1) := by decide +kernel
theorem dX5_priceOfSet_4 : decode cX5_priceOfSet 4 = .ok (.iload_n 3, 1) := by decide +kernel
theorem dX5_priceOfSet_5 : decode cX5_priceOfSet 5 = .ok (.aload_n 0, 1) := by decide +kernel
theorem dX5_priceOfSet_6 : decode cX5_priceOfSet 6 = .ok (.getfield 31, 3) := by decide +kernel
theorem dX5_priceOfSet_9 : decode cX5_priceOfSet 9 = .ok (.if_icmp .ge 26, 3) := by decide +kernel
theorem dX5_priceOfSet_12 : decode cX5_priceOfSet 12 = .ok (.iload_n 1, 1) := by decide +kernel
theorem dX5_priceOfSet_13 : decode cX5_priceOfSet 13 = .ok (.iload_n 3, 1) := by decide +kernel
theorem dX5_priceOfSet_14 : decode cX5_priceOfSet 14 = .ok (.invokestatic 47, 3) := by decide +kernel
theorem dX5_priceOfSet_17 : decode cX5_priceOfSet 17 = .ok (.ifCond .eq 12, 3) := by decide +kernel
theorem dX5_priceOfSet_20 : decode cX5_priceOfSet 20 = .ok (.iload_n 2, 1) := by decide +kernel
theorem dX5_priceOfSet_21 : decode cX5_priceOfSet 21 = .ok (.aload_n 0, 1) := by decide +kernel
theorem dX5_priceOfSet_22 : decode cX5_priceOfSet 22 = .ok (.getfield 22, 3) := by decide +kernel
theorem dX5_priceOfSet_25 : decode cX5_priceOfSet 25 = .ok (.iload_n 3, 1) := by decide +kernel
theorem dX5_priceOfSet_26 : decode cX5_priceOfSet 26 = .ok (.iaload, 1) := by decide +kernel
theorem dX5_priceOfSet_27 : decode cX5_priceOfSet 27 = .ok (.iadd, 1) := by decide +kernel
theorem dX5_priceOfSet_28 : decode cX5_priceOfSet 28 = .ok (.istore_n 2, 1) := by decide +kernel
theorem dX5_priceOfSet_29 : decode cX5_priceOfSet 29 = .ok (.iinc 3 1, 3) := by decide +kernel
theorem dX5_priceOfSet_32 : decode cX5_priceOfSet 32 = .ok (.goto (-28), 3) := by decide +kernel
theorem dX5_priceOfSet_35 : decode cX5_priceOfSet 35 = .ok (.iload_n 2, 1) := by decide +kernel
theorem dX5_priceOfSet_36 : decode cX5_priceOfSet 36 = .ok (.ireturn, 1) := by decide +kernel
theorem dX6_init_0 : decode cX6_init 0 = .ok (.aload_n 0, 1) := by decide +kernel
theorem dX6_init_1 : decode cX6_init 1 = .ok (.invokespecial 3, 3) := by decide +kernel
theorem dX6_init_4 : decode cX6_init 4 = .ok (.aload_n 0, 1) := by decide +kernel
theorem dX6_init_5 : decode cX6_init 5 = .ok (.bipush 6, 2) := by decide +kernel
theorem dX6_init_7 : decode cX6_init 7 = .ok (.newarray .int, 2) := by decide +kernel
theorem dX6_init_9 : decode cX6_init 9 = .ok (.putfield 9, 3) := by decide +kernel
theorem dX6_init_12 : decode cX6_init 12 = .ok (.aload_n 0, 1) := by decide +kernel
theorem dX6_init_13 : decode cX6_init 13 = .ok (.bipush 6, 2) := by decide +kernel
theorem dX6_init_15 : decode cX6_init 15 = .ok (.newarray .boolean, 2) := by decide +kernel
theorem dX6_init_17 : decode cX6_init 17 = .ok (.putfield 15, 3) := by decide +kernel
theorem dX6_init_20 : decode cX6_init 20 = .ok (.aload_n 0, 1) := by decide +kernel
theorem dX6_init_21 : decode cX6_init 21 = .ok (.bipush 6, 2) := by decide +kernel
theorem dX6_init_23 : decode cX6_init 23 = .ok (.newarray .boolean, 2) := by decide +kernel
theorem dX6_init_25 : decode cX6_init 25 = .ok (.putfield 19, 3) := by decide +kernel
theorem dX6_init_28 : decode cX6_init 28 = .ok (.return_, 1) := by decide +kernel
theorem dX6_add_0 : decode cX6_add 0 = .ok (.aload_n 0, 1) := by decide +kernel
theorem dX6_add_1 : decode cX6_add 1 = .ok (.getfield 22, 3) := by decide +kernel
theorem dX6_add_4 : decode cX6_add 4 = .ok (.bipush 6, 2) := by decide +kernel
theorem dX6_add_6 : decode cX6_add 6 = .ok (.if_icmp .ge 43, 3) := by decide +kernel
theorem dX6_add_9 : decode cX6_add 9 = .ok (.aload_n 0, 1) := by decide +kernel
theorem dX6_add_10 : decode cX6_add 10 = .ok (.getfield 9, 3) := by decide +kernel
theorem dX6_add_13 : decode cX6_add 13 = .ok (.aload_n 0, 1) := by decide +kernel
theorem dX6_add_14 : decode cX6_add 14 = .ok (.getfield 22, 3) := by decide +kernel
theorem dX6_add_17 : decode cX6_add 17 = .ok (.iload_n 1, 1) := by decide +kernel
theorem dX6_add_18 : decode cX6_add 18 = .ok (.iastore, 1) := by decide +kernel
theorem dX6_add_19 : decode cX6_add 19 = .ok (.aload_n 0, 1) := by decide +kernel
theorem dX6_add_20 : decode cX6_add 20 = .ok (.getfield 15, 3) := by decide +kernel
theorem dX6_add_23 : decode cX6_add 23 = .ok (.aload_n 0, 1) := by decide +kernel
theorem dX6_add_24 : decode cX6_add 24 = .ok (.getfield 22, 3) := by decide +kernel
theorem dX6_add_27 : decode cX6_add 27 = .ok (.iload_n 2, 1) := by decide +kernel
theorem dX6_add_28 : decode cX6_add 28 = .ok (.bastore, 1) := by decide +kernel
theorem dX6_add_29 : decode cX6_add 29 = .ok (.aload_n 0, 1) := by decide +kernel
theorem dX6_add_30 : decode cX6_add 30 = .ok (.getfield 19, 3) := by decide +kernel
theorem dX6_add_33 : decode cX6_add 33 = .ok (.aload_n 0, 1) := by decide +kernel
theorem dX6_add_34 : decode cX6_add 34 = .ok (.getfield 22, 3) := by decide +kernel
theorem dX6_add_37 : decode cX6_add 37 = .ok (.iload_n 3, 1) := by decide +kernel
theorem dX6_add_38 : decode cX6_add 38 = .ok (.bastore, 1) := by decide +kernel
theorem dX6_add_39 : decode cX6_add 39 = .ok (.aload_n 0, 1) := by decide +kernel
theorem dX6_add_40 : decode cX6_add 40 = .ok (.dup, 1) := by decide +kernel
theorem dX6_add_41 : decode cX6_add 41 = .ok (.getfield 22, 3) := by decide +kernel
theorem dX6_add_44 : decode cX6_add 44 = .ok (.iconst 1, 1) := by decide +kernel
theorem dX6_add_45 : decode cX6_add 45 = .ok (.iadd, 1) := by decide +kernel
theorem dX6_add_46 : decode cX6_add 46 = .ok (.putfield 22, 3) := by decide +kernel
theorem dX6_add_49 : decode cX6_add 49 = .ok (.return_, 1) := by decide +kernel
set_option maxRecDepth 20000 in
theorem ggX6_agreeWith_X5_weightOfSet : GoodIn wsX6_agreeWith wsX5_weightOfSet := goodIn_r _ [9, 10, 11, 12, 13, 14, 15, 16, 8, 17, 18, 23, 24, 25, 26, 27, 28, 29, 30] (by decide +kernel) (by decide +kernel)
set_option maxRecDepth 20000 in
theorem gX6_agreeWith_X5_weightOfSet : GoodIn wsX6_agreeWith (wsV RX6 26 RX5 yX5_weightOfSet wsX5_weightOfSet) := goodIn_app (goodIn_of _ (by decide +kernel)) ggX6_agreeWith_X5_weightOfSet
theorem dX6_agreeWith_0 : decode cX6_agreeWith 0 = .ok (.iconst 0, 1) := by decide +kernel
theorem dX6_agreeWith_1 : decode cX6_agreeWith 1 = .ok (.istore_n 3, 1) := by decide +kernel
theorem dX6_agreeWith_2 : decode cX6_agreeWith 2 = .ok (.iload_n 3, 1) := by decide +kernel
theorem dX6_agreeWith_3 : decode cX6_agreeWith 3 = .ok (.aload_n 0, 1) := by decide +kernel
theorem dX6_agreeWith_4 : decode cX6_agreeWith 4 = .ok (.getfield 22, 3) := by decide +kernel
theorem dX6_agreeWith_7 : decode cX6_agreeWith 7 = .ok (.if_icmp .ge 49, 3) := by decide +kernel
theorem dX6_agreeWith_10 : decode cX6_agreeWith 10 = .ok (.aload_n 1, 1) := by decide +kernel
theorem dX6_agreeWith_11 : decode cX6_agreeWith 11 = .ok (.aload_n 0, 1) := by decide +kernel
theorem dX6_agreeWith_12 : decode cX6_agreeWith 12 = .ok (.getfield 9, 3) := by decide +kernel
theorem dX6_agreeWith_15 : decode cX6_agreeWith 15 = .ok (.iload_n 3, 1) := by decide +kernel
theorem dX6_agreeWith_16 : decode cX6_agreeWith 16 = .ok (.iaload, 1) := by decide +kernel
theorem dX6_agreeWith_17 : decode cX6_agreeWith 17 = .ok (.aload_n 0, 1) := by decide +kernel
theorem dX6_agreeWith_18 : decode cX6_agreeWith 18 = .ok (.getfield 15, 3) := by decide +kernel
theorem dX6_agreeWith_21 : decode cX6_agreeWith 21 = .ok (.iload_n 3, 1) := by decide +kernel
theorem dX6_agreeWith_22 : decode cX6_agreeWith 22 = .ok (.baload, 1) := by decide +kernel
theorem dX6_agreeWith_23 : decode cX6_agreeWith 23 = .ok (.invokevirtual 26, 3) := by decide +kernel
theorem dX6_agreeWith_26 : decode cX6_agreeWith 26 = .ok (.iload_n 2, 1) := by decide +kernel
theorem dX6_agreeWith_27 : decode cX6_agreeWith 27 = .ok (.if_icmp .lt 7, 3) := by decide +kernel
theorem dX6_agreeWith_30 : decode cX6_agreeWith 30 = .ok (.iconst 1, 1) := by decide +kernel
theorem dX6_agreeWith_31 : decode cX6_agreeWith 31 = .ok (.goto 4, 3) := by decide +kernel
theorem dX6_agreeWith_34 : decode cX6_agreeWith 34 = .ok (.iconst 0, 1) := by decide +kernel
theorem dX6_agreeWith_35 : decode cX6_agreeWith 35 = .ok (.istore 4, 2) := by decide +kernel
theorem dX6_agreeWith_37 : decode cX6_agreeWith 37 = .ok (.iload 4, 2) := by decide +kernel
theorem dX6_agreeWith_39 : decode cX6_agreeWith 39 = .ok (.aload_n 0, 1) := by decide +kernel
theorem dX6_agreeWith_40 : decode cX6_agreeWith 40 = .ok (.getfield 19, 3) := by decide +kernel
theorem dX6_agreeWith_43 : decode cX6_agreeWith 43 = .ok (.iload_n 3, 1) := by decide +kernel
theorem dX6_agreeWith_44 : decode cX6_agreeWith 44 = .ok (.baload, 1) := by decide +kernel
theorem dX6_agreeWith_45 : decode cX6_agreeWith 45 = .ok (.if_icmp .eq 5, 3) := by decide +kernel
theorem dX6_agreeWith_48 : decode cX6_agreeWith 48 = .ok (.iconst 0, 1) := by decide +kernel
theorem dX6_agreeWith_49 : decode cX6_agreeWith 49 = .ok (.ireturn, 1) := by decide +kernel
theorem dX6_agreeWith_50 : decode cX6_agreeWith 50 = .ok (.iinc 3 1, 3) := by decide +kernel
theorem dX6_agreeWith_53 : decode cX6_agreeWith 53 = .ok (.goto (-51), 3) := by decide +kernel
theorem dX6_agreeWith_56 : decode cX6_agreeWith 56 = .ok (.iconst 1, 1) := by decide +kernel
theorem dX6_agreeWith_57 : decode cX6_agreeWith 57 = .ok (.ireturn, 1) := by decide +kernel
theorem dX7_init_0 : decode cX7_init 0 = .ok (.aload_n 0, 1) := by decide +kernel
theorem dX7_init_1 : decode cX7_init 1 = .ok (.invokespecial 3, 3) := by decide +kernel
theorem dX7_init_4 : decode cX7_init 4 = .ok (.aload_n 0, 1) := by decide +kernel
theorem dX7_init_5 : decode cX7_init 5 = .ok (.bipush 7, 2) := by decide +kernel
theorem dX7_init_7 : decode cX7_init 7 = .ok (.newarray .int, 2) := by decide +kernel
theorem dX7_init_9 : decode cX7_init 9 = .ok (.putfield 9, 3) := by decide +kernel
theorem dX7_init_12 : decode cX7_init 12 = .ok (.aload_n 0, 1) := by decide +kernel
theorem dX7_init_13 : decode cX7_init 13 = .ok (.bipush 7, 2) := by decide +kernel
theorem dX7_init_15 : decode cX7_init 15 = .ok (.newarray .int, 2) := by decide +kernel
theorem dX7_init_17 : decode cX7_init 17 = .ok (.putfield 15, 3) := by decide +kernel
theorem dX7_init_20 : decode cX7_init 20 = .ok (.return_, 1) := by decide +kernel
theorem dX7_begin_0 : decode cX7_begin 0 = .ok (.aload_n 0, 1) := by decide +kernel
theorem dX7_begin_1 : decode cX7_begin 1 = .ok (.iconst 0, 1) := by decide +kernel
theorem dX7_begin_2 : decode cX7_begin 2 = .ok (.putfield 18, 3) := by decide +kernel
theorem dX7_begin_5 : decode cX7_begin 5 = .ok (.aload_n 0, 1) := by decide +kernel
theorem dX7_begin_6 : decode cX7_begin 6 = .ok (.iconst 0, 1) := by decide +kernel
theorem dX7_begin_7 : decode cX7_begin 7 = .ok (.putfield 22, 3) := by decide +kernel
theorem dX7_begin_10 : decode cX7_begin 10 = .ok (.iconst 0, 1) := by decide +kernel
theorem dX7_begin_11 : decode cX7_begin 11 = .ok (.istore_n 2, 1) := by decide +kernel
theorem dX7_begin_12 : decode cX7_begin 12 = .ok (.iload_n 2, 1) := by decide +kernel
theorem dX7_begin_13 : decode cX7_begin 13 = .ok (.bipush 7, 2) := by decide +kernel
theorem dX7_begin_15 : decode cX7_begin 15 = .ok (.if_icmp .ge 53, 3) := by decide +kernel
theorem dX7_begin_18 : decode cX7_begin 18 = .ok (.aload_n 0, 1) := by decide +kernel
theorem dX7_begin_19 : decode cX7_begin 19 = .ok (.getfield 9, 3) := by decide +kernel
theorem dX7_begin_22 : decode cX7_begin 22 = .ok (.iload_n 2, 1) := by decide +kernel
theorem dX7_begin_23 : decode cX7_begin 23 = .ok (.iload_n 2, 1) := by decide +kernel
theorem dX7_begin_24 : decode cX7_begin 24 = .ok (.aload_n 1, 1) := by decide +kernel
theorem dX7_begin_25 : decode cX7_begin 25 = .ok (.getfield 25, 3) := by decide +kernel
theorem dX7_begin_28 : decode cX7_begin 28 = .ok (.if_icmp .ge 8, 3) := by decide +kernel
theorem dX7_begin_31 : decode cX7_begin 31 = .ok (.bipush 20, 2) := by decide +kernel
theorem dX7_begin_33 : decode cX7_begin 33 = .ok (.goto 4, 3) := by decide +kernel
theorem dX7_begin_36 : decode cX7_begin 36 = .ok (.iconst 0, 1) := by decide +kernel
theorem dX7_begin_37 : decode cX7_begin 37 = .ok (.iastore, 1) := by decide +kernel
theorem dX7_begin_38 : decode cX7_begin 38 = .ok (.aload_n 0, 1) := by decide +kernel
theorem dX7_begin_39 : decode cX7_begin 39 = .ok (.getfield 15, 3) := by decide +kernel
theorem dX7_begin_42 : decode cX7_begin 42 = .ok (.iload_n 2, 1) := by decide +kernel
theorem dX7_begin_43 : decode cX7_begin 43 = .ok (.iload_n 2, 1) := by decide +kernel
theorem dX7_begin_44 : decode cX7_begin 44 = .ok (.aload_n 1, 1) := by decide +kernel
theorem dX7_begin_45 : decode cX7_begin 45 = .ok (.getfield 25, 3) := by decide +kernel
theorem dX7_begin_48 : decode cX7_begin 48 = .ok (.if_icmp .ge 12, 3) := by decide +kernel
theorem dX7_begin_51 : decode cX7_begin 51 = .ok (.aload_n 1, 1) := by decide +kernel
theorem dX7_begin_52 : decode cX7_begin 52 = .ok (.getfield 30, 3) := by decide +kernel
theorem dX7_begin_55 : decode cX7_begin 55 = .ok (.iload_n 2, 1) := by decide +kernel
theorem dX7_begin_56 : decode cX7_begin 56 = .ok (.iaload, 1) := by decide +kernel
theorem dX7_begin_57 : decode cX7_begin 57 = .ok (.goto 4, 3) := by decide +kernel
theorem dX7_begin_60 : decode cX7_begin 60 = .ok (.iconst 0, 1) := by decide +kernel
theorem dX7_begin_61 : decode cX7_begin 61 = .ok (.iastore, 1) := by decide +kernel
theorem dX7_begin_62 : decode cX7_begin 62 = .ok (.iinc 2 1, 3) := by decide +kernel
theorem dX7_begin_65 : decode cX7_begin 65 = .ok (.goto (-53), 3) := by decide +kernel
theorem dX7_begin_68 : decode cX7_begin 68 = .ok (.return_, 1) := by decide +kernel
theorem dX7_copyFrom_0 : decode cX7_copyFrom 0 = .ok (.aload_n 0, 1) := by decide +kernel
theorem dX7_copyFrom_1 : decode cX7_copyFrom 1 = .ok (.aload_n 1, 1) := by decide +kernel
theorem dX7_copyFrom_2 : decode cX7_copyFrom 2 = .ok (.getfield 18, 3) := by decide +kernel
theorem dX7_copyFrom_5 : decode cX7_copyFrom 5 = .ok (.putfield 18, 3) := by decide +kernel
theorem dX7_copyFrom_8 : decode cX7_copyFrom 8 = .ok (.aload_n 0, 1) := by decide +kernel
theorem dX7_copyFrom_9 : decode cX7_copyFrom 9 = .ok (.aload_n 1, 1) := by decide +kernel
theorem dX7_copyFrom_10 : decode cX7_copyFrom 10 = .ok (.getfield 22, 3) := by decide +kernel
theorem dX7_copyFrom_13 : decode cX7_copyFrom 13 = .ok (.putfield 22, 3) := by decide +kernel
theorem dX7_copyFrom_16 : decode cX7_copyFrom 16 = .ok (.aload_n 1, 1) := by decide +kernel
theorem dX7_copyFrom_17 : decode cX7_copyFrom 17 = .ok (.getfield 9, 3) := by decide +kernel
theorem dX7_copyFrom_20 : decode cX7_copyFrom 20 = .ok (.iconst 0, 1) := by decide +kernel
theorem dX7_copyFrom_21 : decode cX7_copyFrom 21 = .ok (.aload_n 0, 1) := by decide +kernel
theorem dX7_copyFrom_22 : decode cX7_copyFrom 22 = .ok (.getfield 9, 3) := by decide +kernel
theorem dX7_copyFrom_25 : decode cX7_copyFrom 25 = .ok (.iconst 0, 1) := by decide +kernel
theorem dX7_copyFrom_26 : decode cX7_copyFrom 26 = .ok (.bipush 7, 2) := by decide +kernel
theorem dX7_copyFrom_28 : decode cX7_copyFrom 28 = .ok (.invokestatic 31, 3) := by decide +kernel
theorem dX7_copyFrom_31 : decode cX7_copyFrom 31 = .ok (.aload_n 1, 1) := by decide +kernel
theorem dX7_copyFrom_32 : decode cX7_copyFrom 32 = .ok (.getfield 15, 3) := by decide +kernel
theorem dX7_copyFrom_35 : decode cX7_copyFrom 35 = .ok (.iconst 0, 1) := by decide +kernel
theorem dX7_copyFrom_36 : decode cX7_copyFrom 36 = .ok (.aload_n 0, 1) := by decide +kernel
theorem dX7_copyFrom_37 : decode cX7_copyFrom 37 = .ok (.getfield 15, 3) := by decide +kernel
theorem dX7_copyFrom_40 : decode cX7_copyFrom 40 = .ok (.iconst 0, 1) := by decide +kernel
theorem dX7_copyFrom_41 : decode cX7_copyFrom 41 = .ok (.bipush 7, 2) := by decide +kernel
theorem dX7_copyFrom_43 : decode cX7_copyFrom 43 = .ok (.invokestatic 31, 3) := by decide +kernel
theorem dX7_copyFrom_46 : decode cX7_copyFrom 46 = .ok (.return_, 1) := by decide +kernel
theorem dX7_isNight_0 : decode cX7_isNight 0 = .ok (.aload_n 0, 1) := by decide +kernel
theorem dX7_isNight_1 : decode cX7_isNight 1 = .ok (.getfield 18, 3) := by decide +kernel
theorem dX7_isNight_4 : decode cX7_isNight 4 = .ok (.iconst 1, 1) := by decide +kernel
theorem dX7_isNight_5 : decode cX7_isNight 5 = .ok (.iand, 1) := by decide +kernel
theorem dX7_isNight_6 : decode cX7_isNight 6 = .ok (.iconst 1, 1) := by decide +kernel
theorem dX7_isNight_7 : decode cX7_isNight 7 = .ok (.if_icmp .ne 7, 3) := by decide +kernel
theorem dX7_isNight_10 : decode cX7_isNight 10 = .ok (.iconst 1, 1) := by decide +kernel
theorem dX7_isNight_11 : decode cX7_isNight 11 = .ok (.goto 4, 3) := by decide +kernel
theorem dX7_isNight_14 : decode cX7_isNight 14 = .ok (.iconst 0, 1) := by decide +kernel
theorem dX7_isNight_15 : decode cX7_isNight 15 = .ok (.ireturn, 1) := by decide +kernel
set_option maxRecDepth 20000 in
theorem ggX7_isFrozen_X8_holds : GoodIn wsX7_isFrozen wsX8_holds := goodIn_r _ [4] (by decide +kernel) (by decide +kernel)
set_option maxRecDepth 20000 in
theorem gX7_isFrozen_X8_holds_n37 : GoodIn wsX7_isFrozen (wsX8_holds) := ggX7_isFrozen_X8_holds
theorem dX7_isFrozen_0 : decode cX7_isFrozen 0 = .ok (.aload_n 0, 1) := by decide +kernel
theorem dX7_isFrozen_1 : decode cX7_isFrozen 1 = .ok (.getfield 22, 3) := by decide +kernel
theorem dX7_isFrozen_4 : decode cX7_isFrozen 4 = .ok (.iload_n 1, 1) := by decide +kernel
theorem dX7_isFrozen_5 : decode cX7_isFrozen 5 = .ok (.invokestatic 37, 3) := by decide +kernel
theorem dX7_isFrozen_8 : decode cX7_isFrozen 8 = .ok (.ireturn, 1) := by decide +kernel
set_option maxRecDepth 20000 in
theorem ggX7_favouredOf_X8_holds : GoodIn wsX7_favouredOf wsX8_holds := goodIn_r _ [4] (by decide +kernel) (by decide +kernel)
set_option maxRecDepth 20000 in
theorem gX7_favouredOf_X8_holds_n37 : GoodIn wsX7_favouredOf (wsX8_holds) := ggX7_favouredOf_X8_holds
set_option maxRecDepth 20000 in
theorem ggX7_favouredOf_X8_with : GoodIn wsX7_favouredOf wsX8_with := goodIn_r _ [6, 7, 8, 3, 9] (by decide +kernel) (by decide +kernel)
set_option maxRecDepth 20000 in
theorem gX7_favouredOf_X8_with_n41 : GoodIn wsX7_favouredOf (wsX8_with) := ggX7_favouredOf_X8_with
theorem dX7_favouredOf_0 : decode cX7_favouredOf 0 = .ok (.iconst 0, 1) := by decide +kernel
theorem dX7_favouredOf_1 : decode cX7_favouredOf 1 = .ok (.istore_n 2, 1) := by decide +kernel
theorem dX7_favouredOf_2 : decode cX7_favouredOf 2 = .ok (.iconst 0, 1) := by decide +kernel
theorem dX7_favouredOf_3 : decode cX7_favouredOf 3 = .ok (.istore_n 3, 1) := by decide +kernel
theorem dX7_favouredOf_4 : decode cX7_favouredOf 4 = .ok (.iload_n 3, 1) := by decide +kernel
theorem dX7_favouredOf_5 : decode cX7_favouredOf 5 = .ok (.bipush 7, 2) := by decide +kernel
theorem dX7_favouredOf_7 : decode cX7_favouredOf 7 = .ok (.if_icmp .ge 25, 3) := by decide +kernel
theorem dX7_favouredOf_10 : decode cX7_favouredOf 10 = .ok (.iload_n 2, 1) := by decide +kernel
theorem dX7_favouredOf_11 : decode cX7_favouredOf 11 = .ok (.iload_n 3, 1) := by decide +kernel
theorem dX7_favouredOf_12 : decode cX7_favouredOf 12 = .ok (.aload_n 0, 1) := by decide +kernel
theorem dX7_favouredOf_13 : decode cX7_favouredOf 13 = .ok (.getfield 15, 3) := by decide +kernel
theorem dX7_favouredOf_16 : decode cX7_favouredOf 16 = .ok (.iload_n 3, 1) := by decide +kernel
theorem dX7_favouredOf_17 : decode cX7_favouredOf 17 = .ok (.iaload, 1) := by decide +kernel
theorem dX7_favouredOf_18 : decode cX7_favouredOf 18 = .ok (.iload_n 1, 1) := by decide +kernel
theorem dX7_favouredOf_19 : decode cX7_favouredOf 19 = .ok (.invokestatic 37, 3) := by decide +kernel
theorem dX7_favouredOf_22 : decode cX7_favouredOf 22 = .ok (.invokestatic 41, 3) := by decide +kernel
theorem dX7_favouredOf_25 : decode cX7_favouredOf 25 = .ok (.istore_n 2, 1) := by decide +kernel
theorem dX7_favouredOf_26 : decode cX7_favouredOf 26 = .ok (.iinc 3 1, 3) := by decide +kernel
theorem dX7_favouredOf_29 : decode cX7_favouredOf 29 = .ok (.goto (-25), 3) := by decide +kernel
theorem dX7_favouredOf_32 : decode cX7_favouredOf 32 = .ok (.iload_n 2, 1) := by decide +kernel
theorem dX7_favouredOf_33 : decode cX7_favouredOf 33 = .ok (.ireturn, 1) := by decide +kernel
set_option maxRecDepth 20000 in
theorem ggX7_doneUpFor_X7_isFrozen : GoodIn wsX7_doneUpFor wsX7_isFrozen := goodIn_r _ [7, 2, 8, 9, 10, 13, 14, 15, 16] (by decide +kernel) (by decide +kernel)
set_option maxRecDepth 20000 in
theorem gX7_doneUpFor_X7_isFrozen : GoodIn wsX7_doneUpFor (wsV RX7 45 RX7 yX7_isFrozen wsX7_isFrozen) := goodIn_app (goodIn_of _ (by decide +kernel)) ggX7_doneUpFor_X7_isFrozen
set_option maxRecDepth 20000 in
theorem ggX7_doneUpFor_X8_bit : GoodIn wsX7_doneUpFor wsX8_bit := goodIn_r _ [12] (by decide +kernel) (by decide +kernel)
set_option maxRecDepth 20000 in
theorem gX7_doneUpFor_X8_bit_n49 : GoodIn wsX7_doneUpFor (wsX8_bit) := ggX7_doneUpFor_X8_bit
theorem dX7_doneUpFor_0 : decode cX7_doneUpFor 0 = .ok (.iload_n 1, 1) := by decide +kernel
theorem dX7_doneUpFor_1 : decode cX7_doneUpFor 1 = .ok (.iconst (-1), 1) := by decide +kernel
theorem dX7_doneUpFor_2 : decode cX7_doneUpFor 2 = .ok (.if_icmp .eq 11, 3) := by decide +kernel
theorem dX7_doneUpFor_5 : decode cX7_doneUpFor 5 = .ok (.aload_n 0, 1) := by decide +kernel
theorem dX7_doneUpFor_6 : decode cX7_doneUpFor 6 = .ok (.iload_n 1, 1) := by decide +kernel
theorem dX7_doneUpFor_7 : decode cX7_doneUpFor 7 = .ok (.invokevirtual 45, 3) := by decide +kernel
theorem dX7_doneUpFor_10 : decode cX7_doneUpFor 10 = .ok (.ifCond .eq 5, 3) := by decide +kernel
theorem dX7_doneUpFor_13 : decode cX7_doneUpFor 13 = .ok (.iconst 0, 1) := by decide +kernel
theorem dX7_doneUpFor_14 : decode cX7_doneUpFor 14 = .ok (.ireturn, 1) := by decide +kernel
theorem dX7_doneUpFor_15 : decode cX7_doneUpFor 15 = .ok (.aload_n 0, 1) := by decide +kernel
theorem dX7_doneUpFor_16 : decode cX7_doneUpFor 16 = .ok (.getfield 15, 3) := by decide +kernel
theorem dX7_doneUpFor_19 : decode cX7_doneUpFor 19 = .ok (.iload_n 1, 1) := by decide +kernel
theorem dX7_doneUpFor_20 : decode cX7_doneUpFor 20 = .ok (.iaload, 1) := by decide +kernel
theorem dX7_doneUpFor_21 : decode cX7_doneUpFor 21 = .ok (.iload_n 1, 1) := by decide +kernel
theorem dX7_doneUpFor_22 : decode cX7_doneUpFor 22 = .ok (.invokestatic 49, 3) := by decide +kernel
theorem dX7_doneUpFor_25 : decode cX7_doneUpFor 25 = .ok (.ior, 1) := by decide +kernel
theorem dX7_doneUpFor_26 : decode cX7_doneUpFor 26 = .ok (.aload_n 0, 1) := by decide +kernel
theorem dX7_doneUpFor_27 : decode cX7_doneUpFor 27 = .ok (.getfield 22, 3) := by decide +kernel
theorem dX7_doneUpFor_30 : decode cX7_doneUpFor 30 = .ok (.iconst (-1), 1) := by decide +kernel
theorem dX7_doneUpFor_31 : decode cX7_doneUpFor 31 = .ok (.ixor, 1) := by decide +kernel
theorem dX7_doneUpFor_32 : decode cX7_doneUpFor 32 = .ok (.iand, 1) := by decide +kernel
theorem dX7_doneUpFor_33 : decode cX7_doneUpFor 33 = .ok (.ireturn, 1) := by decide +kernel
set_option maxRecDepth 20000 in
theorem ggX7_isCarriedFor_X7_doneUpFor : GoodIn wsX7_isCarriedFor wsX7_doneUpFor := goodIn_r _ [5, 6, 7, 8, 9, 10, 4, 11, 12, 13, 14, 15, 16, 38, 39, 40, 41] (by decide +kernel) (by decide +kernel)
set_option maxRecDepth 20000 in
theorem gX7_isCarriedFor_X7_doneUpFor : GoodIn wsX7_isCarriedFor (wsV RX7 53 RX7 yX7_doneUpFor wsX7_doneUpFor) := goodIn_app (goodIn_of _ (by decide +kernel)) ggX7_isCarriedFor_X7_doneUpFor
set_option maxRecDepth 20000 in
theorem ggX7_isCarriedFor_X7_isNight : GoodIn wsX7_isCarriedFor wsX7_isNight := goodIn_r _ [20, 21, 38, 39, 40, 41] (by decide +kernel) (by decide +kernel)
set_option maxRecDepth 20000 in
theorem gX7_isCarriedFor_X7_isNight : GoodIn wsX7_isCarriedFor (wsV RX7 56 RX7 yX7_isNight wsX7_isNight) := goodIn_app (goodIn_of _ (by decide +kernel)) ggX7_isCarriedFor_X7_isNight
set_option maxRecDepth 20000 in
theorem ggX7_isCarriedFor_X5_isCarriedBy : GoodIn wsX7_isCarriedFor wsX5_isCarriedBy := goodIn_r _ [26, 27, 28, 29, 30, 25, 31, 32, 12, 13, 14, 33, 34, 35, 36, 37, 42, 43, 44, 45, 46, 47, 48, 49] (by decide +kernel) (by decide +kernel)
set_option maxRecDepth 20000 in
theorem gX7_isCarriedFor_X5_isCarriedBy : GoodIn wsX7_isCarriedFor (wsV RX7 60 RX5 yX5_isCarriedBy wsX5_isCarriedBy) := goodIn_app (goodIn_of _ (by decide +kernel)) ggX7_isCarriedFor_X5_isCarriedBy
theorem dX7_isCarriedFor_0 : decode cX7_isCarriedFor 0 = .ok (.aload_n 1, 1) := by decide +kernel
theorem dX7_isCarriedFor_1 : decode cX7_isCarriedFor 1 = .ok (.aload_n 0, 1) := by decide +kernel
theorem dX7_isCarriedFor_2 : decode cX7_isCarriedFor 2 = .ok (.iload_n 2, 1) := by decide +kernel
theorem dX7_isCarriedFor_3 : decode cX7_isCarriedFor 3 = .ok (.invokevirtual 53, 3) := by decide +kernel
theorem dX7_isCarriedFor_6 : decode cX7_isCarriedFor 6 = .ok (.aload_n 0, 1) := by decide +kernel
theorem dX7_isCarriedFor_7 : decode cX7_isCarriedFor 7 = .ok (.invokevirtual 56, 3) := by decide +kernel
theorem dX7_isCarriedFor_10 : decode cX7_isCarriedFor 10 = .ok (.invokevirtual 60, 3) := by decide +kernel
theorem dX7_isCarriedFor_13 : decode cX7_isCarriedFor 13 = .ok (.ireturn, 1) := by decide +kernel
set_option maxRecDepth 20000 in
theorem ggX7_passDay_X5_coldOn : GoodIn wsX7_passDay wsX5_coldOn := goodIn_r _ [8, 9, 10, 69, 70, 71, 72, 73, 74, 75, 76] (by decide +kernel) (by decide +kernel)
set_option maxRecDepth 20000 in
theorem gX7_passDay_X5_coldOn : GoodIn wsX7_passDay (wsV RX7 64 RX5 yX5_coldOn wsX5_coldOn) := goodIn_app (goodIn_of _ (by decide +kernel)) ggX7_passDay_X5_coldOn
set_option maxRecDepth 20000 in
theorem ggX7_passDay_X7_doneUpFor : GoodIn wsX7_passDay wsX7_doneUpFor := goodIn_r _ [15, 16, 1, 17, 18, 19, 14, 20, 21, 22, 23, 24, 25, 65, 66, 67, 68] (by decide +kernel) (by decide +kernel)
set_option maxRecDepth 20000 in
theorem gX7_passDay_X7_doneUpFor : GoodIn wsX7_passDay (wsV RX7 53 RX7 yX7_doneUpFor wsX7_doneUpFor) := goodIn_app (goodIn_of _ (by decide +kernel)) ggX7_passDay_X7_doneUpFor
set_option maxRecDepth 20000 in
theorem ggX7_passDay_X7_isNight : GoodIn wsX7_passDay wsX7_isNight := goodIn_r _ [29, 2, 65, 66, 67, 68] (by decide +kernel) (by decide +kernel)
set_option maxRecDepth 20000 in
theorem gX7_passDay_X7_isNight : GoodIn wsX7_passDay (wsV RX7 56 RX7 yX7_isNight wsX7_isNight) := goodIn_app (goodIn_of _ (by decide +kernel)) ggX7_passDay_X7_isNight
set_option maxRecDepth 20000 in
theorem ggX7_passDay_X5_isCarriedBy : GoodIn wsX7_passDay wsX5_isCarriedBy := goodIn_r _ [33, 34, 35, 36, 37, 7, 38, 39, 21, 22, 23, 40, 41, 42, 43, 44, 69, 70, 71, 72, 73, 74, 75, 76] (by decide +kernel) (by decide +kernel)
set_option maxRecDepth 20000 in
theorem gX7_passDay_X5_isCarriedBy : GoodIn wsX7_passDay (wsV RX7 60 RX5 yX5_isCarriedBy wsX5_isCarriedBy) := goodIn_app (goodIn_of _ (by decide +kernel)) ggX7_passDay_X5_isCarriedBy
set_option maxRecDepth 20000 in
theorem ggX7_passDay_X5_warmthOfSet : GoodIn wsX7_passDay wsX5_warmthOfSet := goodIn_r _ [48, 39, 49, 21, 22, 23, 69, 70, 71, 72, 73, 74, 75, 76] (by decide +kernel) (by decide +kernel)
set_option maxRecDepth 20000 in
theorem gX7_passDay_X5_warmthOfSet : GoodIn wsX7_passDay (wsV RX7 67 RX5 yX5_warmthOfSet wsX5_warmthOfSet) := goodIn_app (goodIn_of _ (by decide +kernel)) ggX7_passDay_X5_warmthOfSet
set_option maxRecDepth 20000 in
theorem ggX7_passDay_X8_holds : GoodIn wsX7_passDay wsX8_holds := goodIn_r _ [23] (by decide +kernel) (by decide +kernel)
set_option maxRecDepth 20000 in
theorem gX7_passDay_X8_holds_n37 : GoodIn wsX7_passDay (wsX8_holds) := ggX7_passDay_X8_holds
set_option maxRecDepth 20000 in
theorem ggX7_passDay_X7_changeHealth : GoodIn wsX7_passDay wsX7_changeHealth := goodIn_r _ [53, 54, 55, 56, 57, 58, 59, 60, 61, 1, 62, 22, 63, 64, 24, 25, 65, 66, 67, 68] (by decide +kernel) (by decide +kernel)
set_option maxRecDepth 20000 in
theorem gX7_passDay_X7_changeHealth : GoodIn wsX7_passDay (wsV RX7 70 RX7 yX7_changeHealth wsX7_changeHealth) := goodIn_app (goodIn_of _ (by decide +kernel)) ggX7_passDay_X7_changeHealth
theorem dX7_passDay_0 : decode cX7_passDay 0 = .ok (.aload_n 0, 1) := by decide +kernel
theorem dX7_passDay_1 : decode cX7_passDay 1 = .ok (.getfield 22, 3) := by decide +kernel
theorem dX7_passDay_4 : decode cX7_passDay 4 = .ok (.istore_n 3, 1) := by decide +kernel
theorem dX7_passDay_5 : decode cX7_passDay 5 = .ok (.aload_n 1, 1) := by decide +kernel
theorem dX7_passDay_6 : decode cX7_passDay 6 = .ok (.aload_n 0, 1) := by decide +kernel
theorem dX7_passDay_7 : decode cX7_passDay 7 = .ok (.getfield 18, 3) := by decide +kernel
theorem dX7_passDay_10 : decode cX7_passDay 10 = .ok (.invokevirtual 64, 3) := by decide +kernel
theorem dX7_passDay_13 : decode cX7_passDay 13 = .ok (.istore 4, 2) := by decide +kernel
theorem dX7_passDay_15 : decode cX7_passDay 15 = .ok (.aload_n 0, 1) := by decide +kernel
theorem dX7_passDay_16 : decode cX7_passDay 16 = .ok (.iload_n 2, 1) := by decide +kernel
theorem dX7_passDay_17 : decode cX7_passDay 17 = .ok (.invokevirtual 53, 3) := by decide +kernel
theorem dX7_passDay_20 : decode cX7_passDay 20 = .ok (.istore 5, 2) := by decide +kernel
theorem dX7_passDay_22 : decode cX7_passDay 22 = .ok (.aload_n 1, 1) := by decide +kernel
theorem dX7_passDay_23 : decode cX7_passDay 23 = .ok (.iload 5, 2) := by decide +kernel
theorem dX7_passDay_25 : decode cX7_passDay 25 = .ok (.aload_n 0, 1) := by decide +kernel
theorem dX7_passDay_26 : decode cX7_passDay 26 = .ok (.invokevirtual 56, 3) := by decide +kernel
theorem dX7_passDay_29 : decode cX7_passDay 29 = .ok (.invokevirtual 60, 3) := by decide +kernel
theorem dX7_passDay_32 : decode cX7_passDay 32 = .ok (.ifCond .eq 7, 3) := by decide +kernel
theorem dX7_passDay_35 : decode cX7_passDay 35 = .ok (.iload_n 2, 1) := by decide +kernel
theorem dX7_passDay_36 : decode cX7_passDay 36 = .ok (.goto 4, 3) := by decide +kernel
theorem dX7_passDay_39 : decode cX7_passDay 39 = .ok (.iconst (-1), 1) := by decide +kernel
theorem dX7_passDay_40 : decode cX7_passDay 40 = .ok (.istore 6, 2) := by decide +kernel
theorem dX7_passDay_42 : decode cX7_passDay 42 = .ok (.iload 4, 2) := by decide +kernel
theorem dX7_passDay_44 : decode cX7_passDay 44 = .ok (.aload_n 1, 1) := by decide +kernel
theorem dX7_passDay_45 : decode cX7_passDay 45 = .ok (.iload 5, 2) := by decide +kernel
theorem dX7_passDay_47 : decode cX7_passDay 47 = .ok (.invokevirtual 67, 3) := by decide +kernel
theorem dX7_passDay_50 : decode cX7_passDay 50 = .ok (.isub, 1) := by decide +kernel
theorem dX7_passDay_51 : decode cX7_passDay 51 = .ok (.istore 7, 2) := by decide +kernel
theorem dX7_passDay_53 : decode cX7_passDay 53 = .ok (.iconst 0, 1) := by decide +kernel
theorem dX7_passDay_54 : decode cX7_passDay 54 = .ok (.istore 8, 2) := by decide +kernel
theorem dX7_passDay_56 : decode cX7_passDay 56 = .ok (.iload 8, 2) := by decide +kernel
theorem dX7_passDay_58 : decode cX7_passDay 58 = .ok (.aload_n 1, 1) := by decide +kernel
theorem dX7_passDay_59 : decode cX7_passDay 59 = .ok (.getfield 25, 3) := by decide +kernel
theorem dX7_passDay_62 : decode cX7_passDay 62 = .ok (.if_icmp .ge 60, 3) := by decide +kernel
theorem dX7_passDay_65 : decode cX7_passDay 65 = .ok (.iload_n 3, 1) := by decide +kernel
theorem dX7_passDay_66 : decode cX7_passDay 66 = .ok (.iload 8, 2) := by decide +kernel
theorem dX7_passDay_68 : decode cX7_passDay 68 = .ok (.invokestatic 37, 3) := by decide +kernel
theorem dX7_passDay_71 : decode cX7_passDay 71 = .ok (.ifCond .eq 6, 3) := by decide +kernel
theorem dX7_passDay_74 : decode cX7_passDay 74 = .ok (.goto 42, 3) := by decide +kernel
theorem dX7_passDay_77 : decode cX7_passDay 77 = .ok (.iload 8, 2) := by decide +kernel
theorem dX7_passDay_79 : decode cX7_passDay 79 = .ok (.iload 6, 2) := by decide +kernel
theorem dX7_passDay_81 : decode cX7_passDay 81 = .ok (.if_icmp .ne 24, 3) := by decide +kernel
theorem dX7_passDay_84 : decode cX7_passDay 84 = .ok (.aload_n 0, 1) := by decide +kernel
theorem dX7_passDay_85 : decode cX7_passDay 85 = .ok (.iload 8, 2) := by decide +kernel
theorem dX7_passDay_87 : decode cX7_passDay 87 = .ok (.iload 7, 2) := by decide +kernel
theorem dX7_passDay_89 : decode cX7_passDay 89 = .ok (.ifCond .le 9, 3) := by decide +kernel
theorem dX7_passDay_92 : decode cX7_passDay 92 = .ok (.iload 7, 2) := by decide +kernel
theorem dX7_passDay_94 : decode cX7_passDay 94 = .ok (.ineg, 1) := by decide +kernel
theorem dX7_passDay_95 : decode cX7_passDay 95 = .ok (.goto 4, 3) := by decide +kernel
theorem dX7_passDay_98 : decode cX7_passDay 98 = .ok (.iconst 2, 1) := by decide +kernel
theorem dX7_passDay_99 : decode cX7_passDay 99 = .ok (.invokevirtual 70, 3) := by decide +kernel
theorem dX7_passDay_102 : decode cX7_passDay 102 = .ok (.goto 14, 3) := by decide +kernel
theorem dX7_passDay_105 : decode cX7_passDay 105 = .ok (.aload_n 0, 1) := by decide +kernel
theorem dX7_passDay_106 : decode cX7_passDay 106 = .ok (.iload 8, 2) := by decide +kernel
theorem dX7_passDay_108 : decode cX7_passDay 108 = .ok (.iload 4, 2) := by decide +kernel
theorem dX7_passDay_110 : decode cX7_passDay 110 = .ok (.iconst 5, 1) := by decide +kernel
theorem dX7_passDay_111 : decode cX7_passDay 111 = .ok (.idiv, 1) := by decide +kernel
theorem dX7_passDay_112 : decode cX7_passDay 112 = .ok (.ineg, 1) := by decide +kernel
theorem dX7_passDay_113 : decode cX7_passDay 113 = .ok (.invokevirtual 70, 3) := by decide +kernel
theorem dX7_passDay_116 : decode cX7_passDay 116 = .ok (.iinc 8 1, 3) := by decide +kernel
theorem dX7_passDay_119 : decode cX7_passDay 119 = .ok (.goto (-63), 3) := by decide +kernel
theorem dX7_passDay_122 : decode cX7_passDay 122 = .ok (.aload_n 0, 1) := by decide +kernel
theorem dX7_passDay_123 : decode cX7_passDay 123 = .ok (.dup, 1) := by decide +kernel
theorem dX7_passDay_124 : decode cX7_passDay 124 = .ok (.getfield 18, 3) := by decide +kernel
theorem dX7_passDay_127 : decode cX7_passDay 127 = .ok (.iconst 1, 1) := by decide +kernel
theorem dX7_passDay_128 : decode cX7_passDay 128 = .ok (.iadd, 1) := by decide +kernel
theorem dX7_passDay_129 : decode cX7_passDay 129 = .ok (.putfield 18, 3) := by decide +kernel
theorem dX7_passDay_132 : decode cX7_passDay 132 = .ok (.aload_n 0, 1) := by decide +kernel
theorem dX7_passDay_133 : decode cX7_passDay 133 = .ok (.getfield 22, 3) := by decide +kernel
theorem dX7_passDay_136 : decode cX7_passDay 136 = .ok (.iload_n 3, 1) := by decide +kernel
theorem dX7_passDay_137 : decode cX7_passDay 137 = .ok (.iconst (-1), 1) := by decide +kernel
theorem dX7_passDay_138 : decode cX7_passDay 138 = .ok (.ixor, 1) := by decide +kernel
theorem dX7_passDay_139 : decode cX7_passDay 139 = .ok (.iand, 1) := by decide +kernel
theorem dX7_passDay_140 : decode cX7_passDay 140 = .ok (.ireturn, 1) := by decide +kernel
set_option maxRecDepth 20000 in
theorem ggX7_changeHealth_X8_with : GoodIn wsX7_changeHealth wsX8_with := goodIn_r _ [12, 13, 14, 11, 15] (by decide +kernel) (by decide +kernel)
set_option maxRecDepth 20000 in
theorem gX7_changeHealth_X8_with_n41 : GoodIn wsX7_changeHealth (wsX8_with) := ggX7_changeHealth_X8_with
theorem dX7_changeHealth_0 : decode cX7_changeHealth 0 = .ok (.aload_n 0, 1) := by decide +kernel
theorem dX7_changeHealth_1 : decode cX7_changeHealth 1 = .ok (.getfield 9, 3) := by decide +kernel
theorem dX7_changeHealth_4 : decode cX7_changeHealth 4 = .ok (.iload_n 1, 1) := by decide +kernel
theorem dX7_changeHealth_5 : decode cX7_changeHealth 5 = .ok (.iaload, 1) := by decide +kernel
theorem dX7_changeHealth_6 : decode cX7_changeHealth 6 = .ok (.iload_n 2, 1) := by decide +kernel
theorem dX7_changeHealth_7 : decode cX7_changeHealth 7 = .ok (.iadd, 1) := by decide +kernel
theorem dX7_changeHealth_8 : decode cX7_changeHealth 8 = .ok (.bipush 20, 2) := by decide +kernel
theorem dX7_changeHealth_10 : decode cX7_changeHealth 10 = .ok (.invokestatic 74, 3) := by decide +kernel
theorem dX7_changeHealth_13 : decode cX7_changeHealth 13 = .ok (.istore_n 3, 1) := by decide +kernel
theorem dX7_changeHealth_14 : decode cX7_changeHealth 14 = .ok (.aload_n 0, 1) := by decide +kernel
theorem dX7_changeHealth_15 : decode cX7_changeHealth 15 = .ok (.getfield 9, 3) := by decide +kernel
theorem dX7_changeHealth_18 : decode cX7_changeHealth 18 = .ok (.iload_n 1, 1) := by decide +kernel
theorem dX7_changeHealth_19 : decode cX7_changeHealth 19 = .ok (.iload_n 3, 1) := by decide +kernel
theorem dX7_changeHealth_20 : decode cX7_changeHealth 20 = .ok (.iconst 0, 1) := by decide +kernel
theorem dX7_changeHealth_21 : decode cX7_changeHealth 21 = .ok (.invokestatic 80, 3) := by decide +kernel
theorem dX7_changeHealth_24 : decode cX7_changeHealth 24 = .ok (.iastore, 1) := by decide +kernel
theorem dX7_changeHealth_25 : decode cX7_changeHealth 25 = .ok (.aload_n 0, 1) := by decide +kernel
theorem dX7_changeHealth_26 : decode cX7_changeHealth 26 = .ok (.aload_n 0, 1) := by decide +kernel
theorem dX7_changeHealth_27 : decode cX7_changeHealth 27 = .ok (.getfield 22, 3) := by decide +kernel
theorem dX7_changeHealth_30 : decode cX7_changeHealth 30 = .ok (.iload_n 1, 1) := by decide +kernel
theorem dX7_changeHealth_31 : decode cX7_changeHealth 31 = .ok (.iload_n 3, 1) := by decide +kernel
theorem dX7_changeHealth_32 : decode cX7_changeHealth 32 = .ok (.ifCond .gt 7, 3) := by decide +kernel
theorem dX7_changeHealth_35 : decode cX7_changeHealth 35 = .ok (.iconst 1, 1) := by decide +kernel
theorem dX7_changeHealth_36 : decode cX7_changeHealth 36 = .ok (.goto 4, 3) := by decide +kernel
theorem dX7_changeHealth_39 : decode cX7_changeHealth 39 = .ok (.iconst 0, 1) := by decide +kernel
theorem dX7_changeHealth_40 : decode cX7_changeHealth 40 = .ok (.invokestatic 41, 3) := by decide +kernel
theorem dX7_changeHealth_43 : decode cX7_changeHealth 43 = .ok (.putfield 22, 3) := by decide +kernel
theorem dX7_changeHealth_46 : decode cX7_changeHealth 46 = .ok (.return_, 1) := by decide +kernel
theorem dX7_healthOfAll_0 : decode cX7_healthOfAll 0 = .ok (.iconst 0, 1) := by decide +kernel
theorem dX7_healthOfAll_1 : decode cX7_healthOfAll 1 = .ok (.istore_n 1, 1) := by decide +kernel
theorem dX7_healthOfAll_2 : decode cX7_healthOfAll 2 = .ok (.iconst 0, 1) := by decide +kernel
theorem dX7_healthOfAll_3 : decode cX7_healthOfAll 3 = .ok (.istore_n 2, 1) := by decide +kernel
theorem dX7_healthOfAll_4 : decode cX7_healthOfAll 4 = .ok (.iload_n 2, 1) := by decide +kernel
theorem dX7_healthOfAll_5 : decode cX7_healthOfAll 5 = .ok (.bipush 7, 2) := by decide +kernel
theorem dX7_healthOfAll_7 : decode cX7_healthOfAll 7 = .ok (.if_icmp .ge 18, 3) := by decide +kernel
theorem dX7_healthOfAll_10 : decode cX7_healthOfAll 10 = .ok (.iload_n 1, 1) := by decide +kernel
theorem dX7_healthOfAll_11 : decode cX7_healthOfAll 11 = .ok (.aload_n 0, 1) := by decide +kernel
theorem dX7_healthOfAll_12 : decode cX7_healthOfAll 12 = .ok (.getfield 9, 3) := by decide +kernel
theorem dX7_healthOfAll_15 : decode cX7_healthOfAll 15 = .ok (.iload_n 2, 1) := by decide +kernel
theorem dX7_healthOfAll_16 : decode cX7_healthOfAll 16 = .ok (.iaload, 1) := by decide +kernel
theorem dX7_healthOfAll_17 : decode cX7_healthOfAll 17 = .ok (.iadd, 1) := by decide +kernel
theorem dX7_healthOfAll_18 : decode cX7_healthOfAll 18 = .ok (.istore_n 1, 1) := by decide +kernel
theorem dX7_healthOfAll_19 : decode cX7_healthOfAll 19 = .ok (.iinc 2 1, 3) := by decide +kernel
theorem dX7_healthOfAll_22 : decode cX7_healthOfAll 22 = .ok (.goto (-18), 3) := by decide +kernel
theorem dX7_healthOfAll_25 : decode cX7_healthOfAll 25 = .ok (.iload_n 1, 1) := by decide +kernel
theorem dX7_healthOfAll_26 : decode cX7_healthOfAll 26 = .ok (.ireturn, 1) := by decide +kernel
set_option maxRecDepth 20000 in
theorem ggX8_init_X2_init : GoodIn wsX8_init wsX2_init := goodIn_r _ [35, 36, 2, 3, 37, 38, 39, 40, 41, 11, 12, 42, 43, 44, 45, 46, 47, 48, 49, 50, 51, 52, 53, 54, 55, 56, 132, 133, 89, 90, 91, 92, 93, 102, 103, 104, 105, 106, 107, 108, 109] (by decide +kernel) (by decide +kernel)
set_option maxRecDepth 20000 in
theorem gX8_init_X2_init_n9 : GoodIn wsX8_init (wsX2_init) := ggX8_init_X2_init
set_option maxRecDepth 20000 in
theorem ggX8_init_X5_init : GoodIn wsX8_init wsX5_init := goodIn_r _ [49, 50, 2, 3, 51, 46, 52, 53, 54, 55, 56, 102, 103, 104, 105, 106, 107, 108, 109] (by decide +kernel) (by decide +kernel)
set_option maxRecDepth 20000 in
theorem gX8_init_X5_init_n23 : GoodIn wsX8_init (wsX5_init) := ggX8_init_X5_init
set_option maxRecDepth 20000 in
theorem ggX8_init_X7_init : GoodIn wsX8_init wsX7_init := goodIn_r _ [58, 59, 2, 3, 46, 60, 61, 110, 111, 112, 113] (by decide +kernel) (by decide +kernel)
set_option maxRecDepth 20000 in
theorem gX8_init_X7_init_n30 : GoodIn wsX8_init (wsX7_init) := ggX8_init_X7_init
set_option maxRecDepth 20000 in
theorem ggX8_init_X1_init : GoodIn wsX8_init wsX1_init := goodIn_r _ [64, 65, 2, 3, 66, 67, 68, 69, 70, 15, 16, 57, 58, 59, 46, 60, 61, 114, 115, 116, 117, 118, 110, 111, 112, 113] (by decide +kernel) (by decide +kernel)
set_option maxRecDepth 20000 in
theorem gX8_init_X1_init : GoodIn wsX8_init (wsX1_init) := ggX8_init_X1_init
set_option maxRecDepth 20000 in
theorem ggX8_init_X6_init : GoodIn wsX8_init wsX6_init := goodIn_r _ [72, 73, 2, 3, 46, 74, 69, 75, 76, 119, 120, 121, 122] (by decide +kernel) (by decide +kernel)
set_option maxRecDepth 20000 in
theorem gX8_init_X6_init_n44 : GoodIn wsX8_init (wsX6_init) := ggX8_init_X6_init
set_option maxRecDepth 20000 in
theorem ggX8_init_X4_init : GoodIn wsX8_init wsX4_init := goodIn_r _ [78, 79, 2, 3, 46, 80, 123, 124, 125, 126] (by decide +kernel) (by decide +kernel)
set_option maxRecDepth 20000 in
theorem gX8_init_X4_init_n51 : GoodIn wsX8_init (wsX4_init) := ggX8_init_X4_init
set_option maxRecDepth 20000 in
theorem ggX8_init_X3_init : GoodIn wsX8_init wsX3_init := goodIn_r _ [83, 84, 2, 3, 46, 85, 86, 87, 88, 15, 16, 57, 58, 59, 60, 61, 127, 128, 129, 130, 131, 110, 111, 112, 113] (by decide +kernel) (by decide +kernel)
set_option maxRecDepth 20000 in
theorem gX8_init_X3_init : GoodIn wsX8_init (wsX3_init) := ggX8_init_X3_init
