theorem dX9_init_0 : decode cX9_init 0 = .ok (.aload_n 0, 1) := by decide +kernel
theorem dX9_init_1 : decode cX9_init 1 = .ok (.invokespecial 1, 3) := by decide +kernel
theorem dX9_init_4 : decode cX9_init 4 = .ok (.aload_n 0, 1) := by decide +kernel
theorem dX9_init_5 : decode cX9_init 5 = .ok (.bipush 37, 2) := by decide +kernel
theorem dX9_init_7 : decode cX9_init 7 = .ok (.newarray .int, 2) := by decide +kernel
theorem dX9_init_9 : decode cX9_init 9 = .ok (.putfield 7, 3) := by decide +kernel
theorem dX9_init_12 : decode cX9_init 12 = .ok (.aload_n 0, 1) := by decide +kernel
theorem dX9_init_13 : decode cX9_init 13 = .ok (.bipush 15, 2) := by decide +kernel
theorem dX9_init_15 : decode cX9_init 15 = .ok (.newarray .int, 2) := by decide +kernel
theorem dX9_init_17 : decode cX9_init 17 = .ok (.putfield 13, 3) := by decide +kernel
theorem dX9_init_20 : decode cX9_init 20 = .ok (.aload_n 0, 1) := by decide +kernel
theorem dX9_init_21 : decode cX9_init 21 = .ok (.sipush 160, 3) := by decide +kernel
theorem dX9_init_24 : decode cX9_init 24 = .ok (.newarray .int, 2) := by decide +kernel
theorem dX9_init_26 : decode cX9_init 26 = .ok (.putfield 16, 3) := by decide +kernel
theorem dX9_init_29 : decode cX9_init 29 = .ok (.aload_n 0, 1) := by decide +kernel
theorem dX9_init_30 : decode cX9_init 30 = .ok (.bipush 37, 2) := by decide +kernel
theorem dX9_init_32 : decode cX9_init 32 = .ok (.newarray .int, 2) := by decide +kernel
theorem dX9_init_34 : decode cX9_init 34 = .ok (.putfield 19, 3) := by decide +kernel
theorem dX9_init_37 : decode cX9_init 37 = .ok (.aload_n 0, 1) := by decide +kernel
theorem dX9_init_38 : decode cX9_init 38 = .ok (.bipush 120, 2) := by decide +kernel
theorem dX9_init_40 : decode cX9_init 40 = .ok (.newarray .int, 2) := by decide +kernel
theorem dX9_init_42 : decode cX9_init 42 = .ok (.putfield 22, 3) := by decide +kernel
theorem dX9_init_45 : decode cX9_init 45 = .ok (.aload_n 0, 1) := by decide +kernel
theorem dX9_init_46 : decode cX9_init 46 = .ok (.iconst 2, 1) := by decide +kernel
theorem dX9_init_47 : decode cX9_init 47 = .ok (.newarray .boolean, 2) := by decide +kernel
theorem dX9_init_49 : decode cX9_init 49 = .ok (.putfield 25, 3) := by decide +kernel
theorem dX9_init_52 : decode cX9_init 52 = .ok (.aload_n 0, 1) := by decide +kernel
theorem dX9_init_53 : decode cX9_init 53 = .ok (.bipush 30, 2) := by decide +kernel
theorem dX9_init_55 : decode cX9_init 55 = .ok (.newarray .int, 2) := by decide +kernel
theorem dX9_init_57 : decode cX9_init 57 = .ok (.putfield 29, 3) := by decide +kernel
theorem dX9_init_60 : decode cX9_init 60 = .ok (.aload_n 0, 1) := by decide +kernel
theorem dX9_init_61 : decode cX9_init 61 = .ok (.bipush 15, 2) := by decide +kernel
theorem dX9_init_63 : decode cX9_init 63 = .ok (.newarray .int, 2) := by decide +kernel
theorem dX9_init_65 : decode cX9_init 65 = .ok (.putfield 32, 3) := by decide +kernel
theorem dX9_init_68 : decode cX9_init 68 = .ok (.aload_n 0, 1) := by decide +kernel
theorem dX9_init_69 : decode cX9_init 69 = .ok (.bipush 18, 2) := by decide +kernel
theorem dX9_init_71 : decode cX9_init 71 = .ok (.newarray .int, 2) := by decide +kernel
theorem dX9_init_73 : decode cX9_init 73 = .ok (.putfield 35, 3) := by decide +kernel
theorem dX9_init_76 : decode cX9_init 76 = .ok (.aload_n 0, 1) := by decide +kernel
theorem dX9_init_77 : decode cX9_init 77 = .ok (.getfield 7, 3) := by decide +kernel
theorem dX9_init_80 : decode cX9_init 80 = .ok (.iconst 1, 1) := by decide +kernel
theorem dX9_init_81 : decode cX9_init 81 = .ok (.iconst 3, 1) := by decide +kernel
theorem dX9_init_82 : decode cX9_init 82 = .ok (.iastore, 1) := by decide +kernel
theorem dX9_init_83 : decode cX9_init 83 = .ok (.return_, 1) := by decide +kernel
theorem dX9_in_0 : decode cX9_in 0 = .ok (.lload_n 0, 1) := by decide +kernel
theorem dX9_in_1 : decode cX9_in 1 = .ok (.lload_n 2, 1) := by decide +kernel
theorem dX9_in_2 : decode cX9_in 2 = .ok (.lcmp, 1) := by decide +kernel
theorem dX9_in_3 : decode cX9_in 3 = .ok (.ifCond .lt 14, 3) := by decide +kernel
theorem dX9_in_6 : decode cX9_in 6 = .ok (.lload_n 0, 1) := by decide +kernel
theorem dX9_in_7 : decode cX9_in 7 = .ok (.lload 4, 2) := by decide +kernel
theorem dX9_in_9 : decode cX9_in 9 = .ok (.lcmp, 1) := by decide +kernel
theorem dX9_in_10 : decode cX9_in 10 = .ok (.ifCond .gt 7, 3) := by decide +kernel
theorem dX9_in_13 : decode cX9_in 13 = .ok (.iconst 1, 1) := by decide +kernel
theorem dX9_in_14 : decode cX9_in 14 = .ok (.goto 4, 3) := by decide +kernel
theorem dX9_in_17 : decode cX9_in 17 = .ok (.iconst 0, 1) := by decide +kernel
theorem dX9_in_18 : decode cX9_in 18 = .ok (.ireturn, 1) := by decide +kernel
theorem dX9_has_0 : decode cX9_has 0 = .ok (.iload_n 0, 1) := by decide +kernel
theorem dX9_has_1 : decode cX9_has 1 = .ok (.iload_n 1, 1) := by decide +kernel
theorem dX9_has_2 : decode cX9_has 2 = .ok (.ishr, 1) := by decide +kernel
theorem dX9_has_3 : decode cX9_has 3 = .ok (.iconst 1, 1) := by decide +kernel
theorem dX9_has_4 : decode cX9_has 4 = .ok (.iand, 1) := by decide +kernel
theorem dX9_has_5 : decode cX9_has 5 = .ok (.iconst 1, 1) := by decide +kernel
theorem dX9_has_6 : decode cX9_has 6 = .ok (.if_icmp .ne 7, 3) := by decide +kernel
theorem dX9_has_9 : decode cX9_has 9 = .ok (.iconst 1, 1) := by decide +kernel
theorem dX9_has_10 : decode cX9_has 10 = .ok (.goto 4, 3) := by decide +kernel
theorem dX9_has_13 : decode cX9_has 13 = .ok (.iconst 0, 1) := by decide +kernel
theorem dX9_has_14 : decode cX9_has 14 = .ok (.ireturn, 1) := by decide +kernel
theorem dX9_ones_0 : decode cX9_ones 0 = .ok (.iconst 0, 1) := by decide +kernel
theorem dX9_ones_1 : decode cX9_ones 1 = .ok (.istore_n 1, 1) := by decide +kernel
theorem dX9_ones_2 : decode cX9_ones 2 = .ok (.iload_n 0, 1) := by decide +kernel
theorem dX9_ones_3 : decode cX9_ones 3 = .ok (.istore_n 2, 1) := by decide +kernel
theorem dX9_ones_4 : decode cX9_ones 4 = .ok (.iload_n 2, 1) := by decide +kernel
theorem dX9_ones_5 : decode cX9_ones 5 = .ok (.ifCond .eq 15, 3) := by decide +kernel
theorem dX9_ones_8 : decode cX9_ones 8 = .ok (.iinc 1 1, 3) := by decide +kernel
theorem dX9_ones_11 : decode cX9_ones 11 = .ok (.iload_n 2, 1) := by decide +kernel
theorem dX9_ones_12 : decode cX9_ones 12 = .ok (.iload_n 2, 1) := by decide +kernel
theorem dX9_ones_13 : decode cX9_ones 13 = .ok (.iconst 1, 1) := by decide +kernel
theorem dX9_ones_14 : decode cX9_ones 14 = .ok (.isub, 1) := by decide +kernel
theorem dX9_ones_15 : decode cX9_ones 15 = .ok (.iand, 1) := by decide +kernel
theorem dX9_ones_16 : decode cX9_ones 16 = .ok (.istore_n 2, 1) := by decide +kernel
theorem dX9_ones_17 : decode cX9_ones 17 = .ok (.goto (-13), 3) := by decide +kernel
theorem dX9_ones_20 : decode cX9_ones 20 = .ok (.iload_n 1, 1) := by decide +kernel
theorem dX9_ones_21 : decode cX9_ones 21 = .ok (.ireturn, 1) := by decide +kernel
set_option maxRecDepth 20000 in
theorem ggX9_isFamily_X9_in : GoodIn wsX9_isFamily wsX9_in := goodIn_r _ [5] (by decide +kernel) (by decide +kernel)
set_option maxRecDepth 20000 in
theorem gX9_isFamily_X9_in : GoodIn wsX9_isFamily (va_wsS RX9 38 yX9_in wsX9_in) := goodIn_app (goodIn_of _ (by decide +kernel)) ggX9_isFamily_X9_in
theorem dX9_isFamily_0 : decode cX9_isFamily 0 = .ok (.iload_n 1, 1) := by decide +kernel
theorem dX9_isFamily_1 : decode cX9_isFamily 1 = .ok (.i2l, 1) := by decide +kernel
theorem dX9_isFamily_2 : decode cX9_isFamily 2 = .ok (.lconst 0, 1) := by decide +kernel
theorem dX9_isFamily_3 : decode cX9_isFamily 3 = .ok (.aload_n 0, 1) := by decide +kernel
theorem dX9_isFamily_4 : decode cX9_isFamily 4 = .ok (.getfield 7, 3) := by decide +kernel
theorem dX9_isFamily_7 : decode cX9_isFamily 7 = .ok (.iconst 0, 1) := by decide +kernel
theorem dX9_isFamily_8 : decode cX9_isFamily 8 = .ok (.iaload, 1) := by decide +kernel
theorem dX9_isFamily_9 : decode cX9_isFamily 9 = .ok (.iconst 1, 1) := by decide +kernel
theorem dX9_isFamily_10 : decode cX9_isFamily 10 = .ok (.isub, 1) := by decide +kernel
theorem dX9_isFamily_11 : decode cX9_isFamily 11 = .ok (.i2l, 1) := by decide +kernel
theorem dX9_isFamily_12 : decode cX9_isFamily 12 = .ok (.invokestatic 38, 3) := by decide +kernel
theorem dX9_isFamily_15 : decode cX9_isFamily 15 = .ok (.ireturn, 1) := by decide +kernel
set_option maxRecDepth 20000 in
theorem ggX9_write_X9_in : GoodIn wsX9_write wsX9_in := goodIn_r _ [7] (by decide +kernel) (by decide +kernel)
set_option maxRecDepth 20000 in
theorem gX9_write_X9_in : GoodIn wsX9_write (va_wsS RX9 38 yX9_in wsX9_in) := goodIn_app (goodIn_of _ (by decide +kernel)) ggX9_write_X9_in
theorem dX9_write_0 : decode cX9_write 0 = .ok (.iload_n 1, 1) := by decide +kernel
theorem dX9_write_1 : decode cX9_write 1 = .ok (.i2l, 1) := by decide +kernel
theorem dX9_write_2 : decode cX9_write 2 = .ok (.lconst 0, 1) := by decide +kernel
theorem dX9_write_3 : decode cX9_write 3 = .ok (.ldc2_w 42, 3) := by decide +kernel
theorem dX9_write_6 : decode cX9_write 6 = .ok (.invokestatic 38, 3) := by decide +kernel
theorem dX9_write_9 : decode cX9_write 9 = .ok (.ifCond .ne 6, 3) := by decide +kernel
theorem dX9_write_12 : decode cX9_write 12 = .ok (.bipush (-3), 2) := by decide +kernel
theorem dX9_write_14 : decode cX9_write 14 = .ok (.ireturn, 1) := by decide +kernel
theorem dX9_write_15 : decode cX9_write 15 = .ok (.aload_n 0, 1) := by decide +kernel
theorem dX9_write_16 : decode cX9_write 16 = .ok (.getfield 44, 3) := by decide +kernel
theorem dX9_write_19 : decode cX9_write 19 = .ok (.sipush 160, 3) := by decide +kernel
theorem dX9_write_22 : decode cX9_write 22 = .ok (.if_icmp .ne 6, 3) := by decide +kernel
theorem dX9_write_25 : decode cX9_write 25 = .ok (.bipush (-5), 2) := by decide +kernel
theorem dX9_write_27 : decode cX9_write 27 = .ok (.ireturn, 1) := by decide +kernel
theorem dX9_write_28 : decode cX9_write 28 = .ok (.aload_n 0, 1) := by decide +kernel
theorem dX9_write_29 : decode cX9_write 29 = .ok (.getfield 16, 3) := by decide +kernel
theorem dX9_write_32 : decode cX9_write 32 = .ok (.aload_n 0, 1) := by decide +kernel
theorem dX9_write_33 : decode cX9_write 33 = .ok (.getfield 44, 3) := by decide +kernel
theorem dX9_write_36 : decode cX9_write 36 = .ok (.iload_n 1, 1) := by decide +kernel
theorem dX9_write_37 : decode cX9_write 37 = .ok (.iastore, 1) := by decide +kernel
theorem dX9_write_38 : decode cX9_write 38 = .ok (.aload_n 0, 1) := by decide +kernel
theorem dX9_write_39 : decode cX9_write 39 = .ok (.dup, 1) := by decide +kernel
theorem dX9_write_40 : decode cX9_write 40 = .ok (.getfield 44, 3) := by decide +kernel
theorem dX9_write_43 : decode cX9_write 43 = .ok (.iconst 1, 1) := by decide +kernel
theorem dX9_write_44 : decode cX9_write 44 = .ok (.iadd, 1) := by decide +kernel
theorem dX9_write_45 : decode cX9_write 45 = .ok (.putfield 44, 3) := by decide +kernel
theorem dX9_write_48 : decode cX9_write 48 = .ok (.aload_n 0, 1) := by decide +kernel
theorem dX9_write_49 : decode cX9_write 49 = .ok (.getfield 44, 3) := by decide +kernel
theorem dX9_write_52 : decode cX9_write 52 = .ok (.ireturn, 1) := by decide +kernel
theorem dX9_erase_0 : decode cX9_erase 0 = .ok (.aload_n 0, 1) := by decide +kernel
theorem dX9_erase_1 : decode cX9_erase 1 = .ok (.getfield 44, 3) := by decide +kernel
theorem dX9_erase_4 : decode cX9_erase 4 = .ok (.istore_n 1, 1) := by decide +kernel
theorem dX9_erase_5 : decode cX9_erase 5 = .ok (.aload_n 0, 1) := by decide +kernel
theorem dX9_erase_6 : decode cX9_erase 6 = .ok (.iconst 0, 1) := by decide +kernel
theorem dX9_erase_7 : decode cX9_erase 7 = .ok (.putfield 44, 3) := by decide +kernel
theorem dX9_erase_10 : decode cX9_erase 10 = .ok (.iload_n 1, 1) := by decide +kernel
theorem dX9_erase_11 : decode cX9_erase 11 = .ok (.ireturn, 1) := by decide +kernel
theorem dX9_letterAt_0 : decode cX9_letterAt 0 = .ok (.iload_n 1, 1) := by decide +kernel
theorem dX9_letterAt_1 : decode cX9_letterAt 1 = .ok (.aload_n 0, 1) := by decide +kernel
theorem dX9_letterAt_2 : decode cX9_letterAt 2 = .ok (.getfield 44, 3) := by decide +kernel
theorem dX9_letterAt_5 : decode cX9_letterAt 5 = .ok (.if_icmp .ge 12, 3) := by decide +kernel
theorem dX9_letterAt_8 : decode cX9_letterAt 8 = .ok (.aload_n 0, 1) := by decide +kernel
theorem dX9_letterAt_9 : decode cX9_letterAt 9 = .ok (.getfield 16, 3) := by decide +kernel
theorem dX9_letterAt_12 : decode cX9_letterAt 12 = .ok (.iload_n 1, 1) := by decide +kernel
theorem dX9_letterAt_13 : decode cX9_letterAt 13 = .ok (.iaload, 1) := by decide +kernel
theorem dX9_letterAt_14 : decode cX9_letterAt 14 = .ok (.goto 4, 3) := by decide +kernel
theorem dX9_letterAt_17 : decode cX9_letterAt 17 = .ok (.iconst 0, 1) := by decide +kernel
theorem dX9_letterAt_18 : decode cX9_letterAt 18 = .ok (.ireturn, 1) := by decide +kernel
set_option maxRecDepth 20000 in
theorem ggX9_nextToken_X9_letterAt : GoodIn wsX9_nextToken wsX9_letterAt := goodIn_r _ [15, 4, 10, 19, 20, 21, 22, 23, 24, 25, 26, 27, 28, 29, 30, 31, 32, 33, 34, 35, 36, 37, 38, 39] (by decide +kernel) (by decide +kernel)
set_option maxRecDepth 20000 in
theorem gX9_nextToken_X9_letterAt : GoodIn wsX9_nextToken (wsV RX9 51 RX9 yX9_letterAt wsX9_letterAt) := goodIn_app (goodIn_of _ (by decide +kernel)) ggX9_nextToken_X9_letterAt
set_option maxRecDepth 20000 in
theorem ggX9_nextToken_X9_in : GoodIn wsX9_nextToken wsX9_in := goodIn_r _ [18] (by decide +kernel) (by decide +kernel)
set_option maxRecDepth 20000 in
theorem gX9_nextToken_X9_in : GoodIn wsX9_nextToken (va_wsS RX9 38 yX9_in wsX9_in) := goodIn_app (goodIn_of _ (by decide +kernel)) ggX9_nextToken_X9_in
theorem dX9_nextToken_0 : decode cX9_nextToken 0 = .ok (.aload_n 0, 1) := by decide +kernel
theorem dX9_nextToken_1 : decode cX9_nextToken 1 = .ok (.aload_n 0, 1) := by decide +kernel
theorem dX9_nextToken_2 : decode cX9_nextToken 2 = .ok (.getfield 48, 3) := by decide +kernel
theorem dX9_nextToken_5 : decode cX9_nextToken 5 = .ok (.invokevirtual 51, 3) := by decide +kernel
theorem dX9_nextToken_8 : decode cX9_nextToken 8 = .ok (.bipush 32, 2) := by decide +kernel
theorem dX9_nextToken_10 : decode cX9_nextToken 10 = .ok (.if_icmp .ne 16, 3) := by decide +kernel
theorem dX9_nextToken_13 : decode cX9_nextToken 13 = .ok (.aload_n 0, 1) := by decide +kernel
theorem dX9_nextToken_14 : decode cX9_nextToken 14 = .ok (.dup, 1) := by decide +kernel
theorem dX9_nextToken_15 : decode cX9_nextToken 15 = .ok (.getfield 48, 3) := by decide +kernel
theorem dX9_nextToken_18 : decode cX9_nextToken 18 = .ok (.iconst 1, 1) := by decide +kernel
theorem dX9_nextToken_19 : decode cX9_nextToken 19 = .ok (.iadd, 1) := by decide +kernel
theorem dX9_nextToken_20 : decode cX9_nextToken 20 = .ok (.putfield 48, 3) := by decide +kernel
theorem dX9_nextToken_23 : decode cX9_nextToken 23 = .ok (.goto (-23), 3) := by decide +kernel
theorem dX9_nextToken_26 : decode cX9_nextToken 26 = .ok (.aload_n 0, 1) := by decide +kernel
theorem dX9_nextToken_27 : decode cX9_nextToken 27 = .ok (.aload_n 0, 1) := by decide +kernel
theorem dX9_nextToken_28 : decode cX9_nextToken 28 = .ok (.getfield 48, 3) := by decide +kernel
theorem dX9_nextToken_31 : decode cX9_nextToken 31 = .ok (.putfield 55, 3) := by decide +kernel
theorem dX9_nextToken_34 : decode cX9_nextToken 34 = .ok (.aload_n 0, 1) := by decide +kernel
theorem dX9_nextToken_35 : decode cX9_nextToken 35 = .ok (.iconst 0, 1) := by decide +kernel
theorem dX9_nextToken_36 : decode cX9_nextToken 36 = .ok (.putfield 58, 3) := by decide +kernel
theorem dX9_nextToken_39 : decode cX9_nextToken 39 = .ok (.aload_n 0, 1) := by decide +kernel
theorem dX9_nextToken_40 : decode cX9_nextToken 40 = .ok (.aload_n 0, 1) := by decide +kernel
theorem dX9_nextToken_41 : decode cX9_nextToken 41 = .ok (.getfield 48, 3) := by decide +kernel
theorem dX9_nextToken_44 : decode cX9_nextToken 44 = .ok (.aload_n 0, 1) := by decide +kernel
theorem dX9_nextToken_45 : decode cX9_nextToken 45 = .ok (.getfield 44, 3) := by decide +kernel
theorem dX9_nextToken_48 : decode cX9_nextToken 48 = .ok (.if_icmp .ne 7, 3) := by decide +kernel
theorem dX9_nextToken_51 : decode cX9_nextToken 51 = .ok (.iconst 3, 1) := by decide +kernel
theorem dX9_nextToken_52 : decode cX9_nextToken 52 = .ok (.goto 4, 3) := by decide +kernel
theorem dX9_nextToken_55 : decode cX9_nextToken 55 = .ok (.iconst 0, 1) := by decide +kernel
theorem dX9_nextToken_56 : decode cX9_nextToken 56 = .ok (.putfield 61, 3) := by decide +kernel
theorem dX9_nextToken_59 : decode cX9_nextToken 59 = .ok (.aload_n 0, 1) := by decide +kernel
theorem dX9_nextToken_60 : decode cX9_nextToken 60 = .ok (.getfield 61, 3) := by decide +kernel
theorem dX9_nextToken_63 : decode cX9_nextToken 63 = .ok (.iconst 2, 1) := by decide +kernel
theorem dX9_nextToken_64 : decode cX9_nextToken 64 = .ok (.if_icmp .ge 42, 3) := by decide +kernel
theorem dX9_nextToken_67 : decode cX9_nextToken 67 = .ok (.aload_n 0, 1) := by decide +kernel
theorem dX9_nextToken_68 : decode cX9_nextToken 68 = .ok (.aload_n 0, 1) := by decide +kernel
theorem dX9_nextToken_69 : decode cX9_nextToken 69 = .ok (.getfield 48, 3) := by decide +kernel
theorem dX9_nextToken_72 : decode cX9_nextToken 72 = .ok (.invokevirtual 51, 3) := by decide +kernel
theorem dX9_nextToken_75 : decode cX9_nextToken 75 = .ok (.i2l, 1) := by decide +kernel
theorem dX9_nextToken_76 : decode cX9_nextToken 76 = .ok (.ldc2_w 64, 3) := by decide +kernel
theorem dX9_nextToken_79 : decode cX9_nextToken 79 = .ok (.ldc2_w 66, 3) := by decide +kernel
theorem dX9_nextToken_82 : decode cX9_nextToken 82 = .ok (.invokestatic 38, 3) := by decide +kernel
theorem dX9_nextToken_85 : decode cX9_nextToken 85 = .ok (.ifCond .eq 21, 3) := by decide +kernel
theorem dX9_nextToken_88 : decode cX9_nextToken 88 = .ok (.aload_n 0, 1) := by decide +kernel
theorem dX9_nextToken_89 : decode cX9_nextToken 89 = .ok (.iconst 1, 1) := by decide +kernel
theorem dX9_nextToken_90 : decode cX9_nextToken 90 = .ok (.putfield 61, 3) := by decide +kernel
theorem dX9_nextToken_93 : decode cX9_nextToken 93 = .ok (.aload_n 0, 1) := by decide +kernel
theorem dX9_nextToken_94 : decode cX9_nextToken 94 = .ok (.dup, 1) := by decide +kernel
theorem dX9_nextToken_95 : decode cX9_nextToken 95 = .ok (.getfield 48, 3) := by decide +kernel
theorem dX9_nextToken_98 : decode cX9_nextToken 98 = .ok (.iconst 1, 1) := by decide +kernel
theorem dX9_nextToken_99 : decode cX9_nextToken 99 = .ok (.iadd, 1) := by decide +kernel
theorem dX9_nextToken_100 : decode cX9_nextToken 100 = .ok (.putfield 48, 3) := by decide +kernel
theorem dX9_nextToken_103 : decode cX9_nextToken 103 = .ok (.goto (-44), 3) := by decide +kernel
theorem dX9_nextToken_106 : decode cX9_nextToken 106 = .ok (.aload_n 0, 1) := by decide +kernel
theorem dX9_nextToken_107 : decode cX9_nextToken 107 = .ok (.getfield 61, 3) := by decide +kernel
theorem dX9_nextToken_110 : decode cX9_nextToken 110 = .ok (.iconst 1, 1) := by decide +kernel
theorem dX9_nextToken_111 : decode cX9_nextToken 111 = .ok (.if_icmp .eq 82, 3) := by decide +kernel
theorem dX9_nextToken_114 : decode cX9_nextToken 114 = .ok (.aload_n 0, 1) := by decide +kernel
theorem dX9_nextToken_115 : decode cX9_nextToken 115 = .ok (.aload_n 0, 1) := by decide +kernel
theorem dX9_nextToken_116 : decode cX9_nextToken 116 = .ok (.getfield 48, 3) := by decide +kernel
theorem dX9_nextToken_119 : decode cX9_nextToken 119 = .ok (.invokevirtual 51, 3) := by decide +kernel
theorem dX9_nextToken_122 : decode cX9_nextToken 122 = .ok (.i2l, 1) := by decide +kernel
theorem dX9_nextToken_123 : decode cX9_nextToken 123 = .ok (.ldc2_w 68, 3) := by decide +kernel
theorem dX9_nextToken_126 : decode cX9_nextToken 126 = .ok (.ldc2_w 70, 3) := by decide +kernel
theorem dX9_nextToken_129 : decode cX9_nextToken 129 = .ok (.invokestatic 38, 3) := by decide +kernel
theorem dX9_nextToken_132 : decode cX9_nextToken 132 = .ok (.ifCond .eq 61, 3) := by decide +kernel
theorem dX9_nextToken_135 : decode cX9_nextToken 135 = .ok (.aload_n 0, 1) := by decide +kernel
theorem dX9_nextToken_136 : decode cX9_nextToken 136 = .ok (.aload_n 0, 1) := by decide +kernel
theorem dX9_nextToken_137 : decode cX9_nextToken 137 = .ok (.getfield 58, 3) := by decide +kernel
theorem dX9_nextToken_140 : decode cX9_nextToken 140 = .ok (.bipush 99, 2) := by decide +kernel
theorem dX9_nextToken_142 : decode cX9_nextToken 142 = .ok (.if_icmp .le 10, 3) := by decide +kernel
theorem dX9_nextToken_145 : decode cX9_nextToken 145 = .ok (.aload_n 0, 1) := by decide +kernel
theorem dX9_nextToken_146 : decode cX9_nextToken 146 = .ok (.getfield 58, 3) := by decide +kernel
theorem dX9_nextToken_149 : decode cX9_nextToken 149 = .ok (.goto 23, 3) := by decide +kernel
theorem dX9_nextToken_152 : decode cX9_nextToken 152 = .ok (.bipush 10, 2) := by decide +kernel
theorem dX9_nextToken_154 : decode cX9_nextToken 154 = .ok (.aload_n 0, 1) := by decide +kernel
theorem dX9_nextToken_155 : decode cX9_nextToken 155 = .ok (.getfield 58, 3) := by decide +kernel
theorem dX9_nextToken_158 : decode cX9_nextToken 158 = .ok (.imul, 1) := by decide +kernel
theorem dX9_nextToken_159 : decode cX9_nextToken 159 = .ok (.aload_n 0, 1) := by decide +kernel
theorem dX9_nextToken_160 : decode cX9_nextToken 160 = .ok (.getfield 16, 3) := by decide +kernel
theorem dX9_nextToken_163 : decode cX9_nextToken 163 = .ok (.aload_n 0, 1) := by decide +kernel
theorem dX9_nextToken_164 : decode cX9_nextToken 164 = .ok (.getfield 48, 3) := by decide +kernel
theorem dX9_nextToken_167 : decode cX9_nextToken 167 = .ok (.iaload, 1) := by decide +kernel
theorem dX9_nextToken_168 : decode cX9_nextToken 168 = .ok (.iadd, 1) := by decide +kernel
theorem dX9_nextToken_169 : decode cX9_nextToken 169 = .ok (.bipush 48, 2) := by decide +kernel
theorem dX9_nextToken_171 : decode cX9_nextToken 171 = .ok (.isub, 1) := by decide +kernel
theorem dX9_nextToken_172 : decode cX9_nextToken 172 = .ok (.putfield 58, 3) := by decide +kernel
theorem dX9_nextToken_175 : decode cX9_nextToken 175 = .ok (.aload_n 0, 1) := by decide +kernel
theorem dX9_nextToken_176 : decode cX9_nextToken 176 = .ok (.iconst 2, 1) := by decide +kernel
theorem dX9_nextToken_177 : decode cX9_nextToken 177 = .ok (.putfield 61, 3) := by decide +kernel
theorem dX9_nextToken_180 : decode cX9_nextToken 180 = .ok (.aload_n 0, 1) := by decide +kernel
theorem dX9_nextToken_181 : decode cX9_nextToken 181 = .ok (.dup, 1) := by decide +kernel
theorem dX9_nextToken_182 : decode cX9_nextToken 182 = .ok (.getfield 48, 3) := by decide +kernel
theorem dX9_nextToken_185 : decode cX9_nextToken 185 = .ok (.iconst 1, 1) := by decide +kernel
theorem dX9_nextToken_186 : decode cX9_nextToken 186 = .ok (.iadd, 1) := by decide +kernel
theorem dX9_nextToken_187 : decode cX9_nextToken 187 = .ok (.putfield 48, 3) := by decide +kernel
theorem dX9_nextToken_190 : decode cX9_nextToken 190 = .ok (.goto (-84), 3) := by decide +kernel
theorem dX9_nextToken_193 : decode cX9_nextToken 193 = .ok (.aload_n 0, 1) := by decide +kernel
theorem dX9_nextToken_194 : decode cX9_nextToken 194 = .ok (.getfield 61, 3) := by decide +kernel
theorem dX9_nextToken_197 : decode cX9_nextToken 197 = .ok (.iconst 2, 1) := by decide +kernel
theorem dX9_nextToken_198 : decode cX9_nextToken 198 = .ok (.if_icmp .ne 23, 3) := by decide +kernel
theorem dX9_nextToken_201 : decode cX9_nextToken 201 = .ok (.aload_n 0, 1) := by decide +kernel
theorem dX9_nextToken_202 : decode cX9_nextToken 202 = .ok (.getfield 48, 3) := by decide +kernel
theorem dX9_nextToken_205 : decode cX9_nextToken 205 = .ok (.aload_n 0, 1) := by decide +kernel
theorem dX9_nextToken_206 : decode cX9_nextToken 206 = .ok (.getfield 55, 3) := by decide +kernel
theorem dX9_nextToken_209 : decode cX9_nextToken 209 = .ok (.isub, 1) := by decide +kernel
theorem dX9_nextToken_210 : decode cX9_nextToken 210 = .ok (.iconst 2, 1) := by decide +kernel
theorem dX9_nextToken_211 : decode cX9_nextToken 211 = .ok (.if_icmp .le 10, 3) := by decide +kernel
theorem dX9_nextToken_214 : decode cX9_nextToken 214 = .ok (.aload_n 0, 1) := by decide +kernel
theorem dX9_nextToken_215 : decode cX9_nextToken 215 = .ok (.sipush 999, 3) := by decide +kernel
theorem dX9_nextToken_218 : decode cX9_nextToken 218 = .ok (.putfield 58, 3) := by decide +kernel
theorem dX9_nextToken_221 : decode cX9_nextToken 221 = .ok (.aload_n 0, 1) := by decide +kernel
theorem dX9_nextToken_222 : decode cX9_nextToken 222 = .ok (.getfield 61, 3) := by decide +kernel
theorem dX9_nextToken_225 : decode cX9_nextToken 225 = .ok (.ifCond .ne 26, 3) := by decide +kernel
theorem dX9_nextToken_228 : decode cX9_nextToken 228 = .ok (.aload_n 0, 1) := by decide +kernel
theorem dX9_nextToken_229 : decode cX9_nextToken 229 = .ok (.aload_n 0, 1) := by decide +kernel
theorem dX9_nextToken_230 : decode cX9_nextToken 230 = .ok (.getfield 16, 3) := by decide +kernel
theorem dX9_nextToken_233 : decode cX9_nextToken 233 = .ok (.aload_n 0, 1) := by decide +kernel
theorem dX9_nextToken_234 : decode cX9_nextToken 234 = .ok (.getfield 48, 3) := by decide +kernel
theorem dX9_nextToken_237 : decode cX9_nextToken 237 = .ok (.iaload, 1) := by decide +kernel
theorem dX9_nextToken_238 : decode cX9_nextToken 238 = .ok (.putfield 58, 3) := by decide +kernel
theorem dX9_nextToken_241 : decode cX9_nextToken 241 = .ok (.aload_n 0, 1) := by decide +kernel
theorem dX9_nextToken_242 : decode cX9_nextToken 242 = .ok (.dup, 1) := by decide +kernel
theorem dX9_nextToken_243 : decode cX9_nextToken 243 = .ok (.getfield 48, 3) := by decide +kernel
theorem dX9_nextToken_246 : decode cX9_nextToken 246 = .ok (.iconst 1, 1) := by decide +kernel
theorem dX9_nextToken_247 : decode cX9_nextToken 247 = .ok (.iadd, 1) := by decide +kernel
theorem dX9_nextToken_248 : decode cX9_nextToken 248 = .ok (.putfield 48, 3) := by decide +kernel
theorem dX9_nextToken_251 : decode cX9_nextToken 251 = .ok (.return_, 1) := by decide +kernel
theorem dX9_wordOf_0 : decode cX9_wordOf 0 = .ok (.lconst 0, 1) := by decide +kernel
theorem dX9_wordOf_1 : decode cX9_wordOf 1 = .ok (.lstore_n 1, 1) := by decide +kernel
theorem dX9_wordOf_2 : decode cX9_wordOf 2 = .ok (.aload_n 0, 1) := by decide +kernel
theorem dX9_wordOf_3 : decode cX9_wordOf 3 = .ok (.getfield 55, 3) := by decide +kernel
theorem dX9_wordOf_6 : decode cX9_wordOf 6 = .ok (.istore_n 3, 1) := by decide +kernel
theorem dX9_wordOf_7 : decode cX9_wordOf 7 = .ok (.iload_n 3, 1) := by decide +kernel
theorem dX9_wordOf_8 : decode cX9_wordOf 8 = .ok (.aload_n 0, 1) := by decide +kernel
theorem dX9_wordOf_9 : decode cX9_wordOf 9 = .ok (.getfield 48, 3) := by decide +kernel
theorem dX9_wordOf_12 : decode cX9_wordOf 12 = .ok (.if_icmp .ge 40, 3) := by decide +kernel
theorem dX9_wordOf_15 : decode cX9_wordOf 15 = .ok (.iload_n 3, 1) := by decide +kernel
theorem dX9_wordOf_16 : decode cX9_wordOf 16 = .ok (.aload_n 0, 1) := by decide +kernel
theorem dX9_wordOf_17 : decode cX9_wordOf 17 = .ok (.getfield 55, 3) := by decide +kernel
theorem dX9_wordOf_20 : decode cX9_wordOf 20 = .ok (.bipush 9, 2) := by decide +kernel
theorem dX9_wordOf_22 : decode cX9_wordOf 22 = .ok (.iadd, 1) := by decide +kernel
theorem dX9_wordOf_23 : decode cX9_wordOf 23 = .ok (.if_icmp .ge 29, 3) := by decide +kernel
theorem dX9_wordOf_26 : decode cX9_wordOf 26 = .ok (.ldc2_w 72, 3) := by decide +kernel
theorem dX9_wordOf_29 : decode cX9_wordOf 29 = .ok (.lload_n 1, 1) := by decide +kernel
theorem dX9_wordOf_30 : decode cX9_wordOf 30 = .ok (.lmul, 1) := by decide +kernel
theorem dX9_wordOf_31 : decode cX9_wordOf 31 = .ok (.aload_n 0, 1) := by decide +kernel
theorem dX9_wordOf_32 : decode cX9_wordOf 32 = .ok (.getfield 16, 3) := by decide +kernel
theorem dX9_wordOf_35 : decode cX9_wordOf 35 = .ok (.iload_n 3, 1) := by decide +kernel
theorem dX9_wordOf_36 : decode cX9_wordOf 36 = .ok (.iaload, 1) := by decide +kernel
theorem dX9_wordOf_37 : decode cX9_wordOf 37 = .ok (.i2l, 1) := by decide +kernel
theorem dX9_wordOf_38 : decode cX9_wordOf 38 = .ok (.ladd, 1) := by decide +kernel
theorem dX9_wordOf_39 : decode cX9_wordOf 39 = .ok (.ldc2_w 64, 3) := by decide +kernel
theorem dX9_wordOf_42 : decode cX9_wordOf 42 = .ok (.lsub, 1) := by decide +kernel
theorem dX9_wordOf_43 : decode cX9_wordOf 43 = .ok (.lconst 1, 1) := by decide +kernel
theorem dX9_wordOf_44 : decode cX9_wordOf 44 = .ok (.ladd, 1) := by decide +kernel
theorem dX9_wordOf_45 : decode cX9_wordOf 45 = .ok (.lstore_n 1, 1) := by decide +kernel
theorem dX9_wordOf_46 : decode cX9_wordOf 46 = .ok (.iinc 3 1, 3) := by decide +kernel
theorem dX9_wordOf_49 : decode cX9_wordOf 49 = .ok (.goto (-42), 3) := by decide +kernel
theorem dX9_wordOf_52 : decode cX9_wordOf 52 = .ok (.aload_n 0, 1) := by decide +kernel
theorem dX9_wordOf_53 : decode cX9_wordOf 53 = .ok (.getfield 61, 3) := by decide +kernel
theorem dX9_wordOf_56 : decode cX9_wordOf 56 = .ok (.iconst 1, 1) := by decide +kernel
theorem dX9_wordOf_57 : decode cX9_wordOf 57 = .ok (.if_icmp .ne 7, 3) := by decide +kernel
theorem dX9_wordOf_60 : decode cX9_wordOf 60 = .ok (.lload_n 1, 1) := by decide +kernel
theorem dX9_wordOf_61 : decode cX9_wordOf 61 = .ok (.goto 4, 3) := by decide +kernel
theorem dX9_wordOf_64 : decode cX9_wordOf 64 = .ok (.lconst 0, 1) := by decide +kernel
theorem dX9_wordOf_65 : decode cX9_wordOf 65 = .ok (.lreturn, 1) := by decide +kernel
theorem dX9_spelt_0 : decode cX9_spelt 0 = .ok (.lconst 0, 1) := by decide +kernel
theorem dX9_spelt_1 : decode cX9_spelt 1 = .ok (.lstore 7, 2) := by decide +kernel
theorem dX9_spelt_3 : decode cX9_spelt 3 = .ok (.lload 7, 2) := by decide +kernel
theorem dX9_spelt_5 : decode cX9_spelt 5 = .ok (.ldc2_w 72, 3) := by decide +kernel
theorem dX9_spelt_8 : decode cX9_spelt 8 = .ok (.lmul, 1) := by decide +kernel
theorem dX9_spelt_9 : decode cX9_spelt 9 = .ok (.iload_n 0, 1) := by decide +kernel
theorem dX9_spelt_10 : decode cX9_spelt 10 = .ok (.ifCond .ne 7, 3) := by decide +kernel
theorem dX9_spelt_13 : decode cX9_spelt 13 = .ok (.iconst 0, 1) := by decide +kernel
theorem dX9_spelt_14 : decode cX9_spelt 14 = .ok (.goto 9, 3) := by decide +kernel
theorem dX9_spelt_17 : decode cX9_spelt 17 = .ok (.iload_n 0, 1) := by decide +kernel
theorem dX9_spelt_18 : decode cX9_spelt 18 = .ok (.bipush 97, 2) := by decide +kernel
theorem dX9_spelt_20 : decode cX9_spelt 20 = .ok (.isub, 1) := by decide +kernel
theorem dX9_spelt_21 : decode cX9_spelt 21 = .ok (.iconst 1, 1) := by decide +kernel
theorem dX9_spelt_22 : decode cX9_spelt 22 = .ok (.iadd, 1) := by decide +kernel
theorem dX9_spelt_23 : decode cX9_spelt 23 = .ok (.i2l, 1) := by decide +kernel
theorem dX9_spelt_24 : decode cX9_spelt 24 = .ok (.ladd, 1) := by decide +kernel
theorem dX9_spelt_25 : decode cX9_spelt 25 = .ok (.lstore 7, 2) := by decide +kernel
theorem dX9_spelt_27 : decode cX9_spelt 27 = .ok (.iload_n 1, 1) := by decide +kernel
theorem dX9_spelt_28 : decode cX9_spelt 28 = .ok (.ifCond .ne 8, 3) := by decide +kernel
theorem dX9_spelt_31 : decode cX9_spelt 31 = .ok (.lload 7, 2) := by decide +kernel
theorem dX9_spelt_33 : decode cX9_spelt 33 = .ok (.goto 18, 3) := by decide +kernel
theorem dX9_spelt_36 : decode cX9_spelt 36 = .ok (.lload 7, 2) := by decide +kernel
theorem dX9_spelt_38 : decode cX9_spelt 38 = .ok (.ldc2_w 72, 3) := by decide +kernel
theorem dX9_spelt_41 : decode cX9_spelt 41 = .ok (.lmul, 1) := by decide +kernel
theorem dX9_spelt_42 : decode cX9_spelt 42 = .ok (.iload_n 1, 1) := by decide +kernel
theorem dX9_spelt_43 : decode cX9_spelt 43 = .ok (.i2l, 1) := by decide +kernel
theorem dX9_spelt_44 : decode cX9_spelt 44 = .ok (.ladd, 1) := by decide +kernel
theorem dX9_spelt_45 : decode cX9_spelt 45 = .ok (.ldc2_w 64, 3) := by decide +kernel
theorem dX9_spelt_48 : decode cX9_spelt 48 = .ok (.lsub, 1) := by decide +kernel
theorem dX9_spelt_49 : decode cX9_spelt 49 = .ok (.lconst 1, 1) := by decide +kernel
theorem dX9_spelt_50 : decode cX9_spelt 50 = .ok (.ladd, 1) := by decide +kernel
theorem dX9_spelt_51 : decode cX9_spelt 51 = .ok (.lstore 7, 2) := by decide +kernel
theorem dX9_spelt_53 : decode cX9_spelt 53 = .ok (.iload_n 2, 1) := by decide +kernel
theorem dX9_spelt_54 : decode cX9_spelt 54 = .ok (.ifCond .ne 8, 3) := by decide +kernel
theorem dX9_spelt_57 : decode cX9_spelt 57 = .ok (.lload 7, 2) := by decide +kernel
theorem dX9_spelt_59 : decode cX9_spelt 59 = .ok (.goto 18, 3) := by decide +kernel
theorem dX9_spelt_62 : decode cX9_spelt 62 = .ok (.lload 7, 2) := by decide +kernel
theorem dX9_spelt_64 : decode cX9_spelt 64 = .ok (.ldc2_w 72, 3) := by decide +kernel
theorem dX9_spelt_67 : decode cX9_spelt 67 = .ok (.lmul, 1) := by decide +kernel
theorem dX9_spelt_68 : decode cX9_spelt 68 = .ok (.iload_n 2, 1) := by decide +kernel
theorem dX9_spelt_69 : decode cX9_spelt 69 = .ok (.i2l, 1) := by decide +kernel
theorem dX9_spelt_70 : decode cX9_spelt 70 = .ok (.ladd, 1) := by decide +kernel
theorem dX9_spelt_71 : decode cX9_spelt 71 = .ok (.ldc2_w 64, 3) := by decide +kernel
theorem dX9_spelt_74 : decode cX9_spelt 74 = .ok (.lsub, 1) := by decide +kernel
theorem dX9_spelt_75 : decode cX9_spelt 75 = .ok (.lconst 1, 1) := by decide +kernel
theorem dX9_spelt_76 : decode cX9_spelt 76 = .ok (.ladd, 1) := by decide +kernel
theorem dX9_spelt_77 : decode cX9_spelt 77 = .ok (.lstore 7, 2) := by decide +kernel
theorem dX9_spelt_79 : decode cX9_spelt 79 = .ok (.iload_n 3, 1) := by decide +kernel
theorem dX9_spelt_80 : decode cX9_spelt 80 = .ok (.ifCond .ne 8, 3) := by decide +kernel
theorem dX9_spelt_83 : decode cX9_spelt 83 = .ok (.lload 7, 2) := by decide +kernel
theorem dX9_spelt_85 : decode cX9_spelt 85 = .ok (.goto 18, 3) := by decide +kernel
theorem dX9_spelt_88 : decode cX9_spelt 88 = .ok (.lload 7, 2) := by decide +kernel
theorem dX9_spelt_90 : decode cX9_spelt 90 = .ok (.ldc2_w 72, 3) := by decide +kernel
theorem dX9_spelt_93 : decode cX9_spelt 93 = .ok (.lmul, 1) := by decide +kernel
theorem dX9_spelt_94 : decode cX9_spelt 94 = .ok (.iload_n 3, 1) := by decide +kernel
theorem dX9_spelt_95 : decode cX9_spelt 95 = .ok (.i2l, 1) := by decide +kernel
theorem dX9_spelt_96 : decode cX9_spelt 96 = .ok (.ladd, 1) := by decide +kernel
theorem dX9_spelt_97 : decode cX9_spelt 97 = .ok (.ldc2_w 64, 3) := by decide +kernel
theorem dX9_spelt_100 : decode cX9_spelt 100 = .ok (.lsub, 1) := by decide +kernel
theorem dX9_spelt_101 : decode cX9_spelt 101 = .ok (.lconst 1, 1) := by decide +kernel
theorem dX9_spelt_102 : decode cX9_spelt 102 = .ok (.ladd, 1) := by decide +kernel
theorem dX9_spelt_103 : decode cX9_spelt 103 = .ok (.lstore 7, 2) := by decide +kernel
theorem dX9_spelt_105 : decode cX9_spelt 105 = .ok (.iload 4, 2) := by decide +kernel
theorem dX9_spelt_107 : decode cX9_spelt 107 = .ok (.ifCond .ne 8, 3) := by decide +kernel
theorem dX9_spelt_110 : decode cX9_spelt 110 = .ok (.lload 7, 2) := by decide +kernel
theorem dX9_spelt_112 : decode cX9_spelt 112 = .ok (.goto 19, 3) := by decide +kernel
theorem dX9_spelt_115 : decode cX9_spelt 115 = .ok (.lload 7, 2) := by decide +kernel
theorem dX9_spelt_117 : decode cX9_spelt 117 = .ok (.ldc2_w 72, 3) := by decide +kernel
theorem dX9_spelt_120 : decode cX9_spelt 120 = .ok (.lmul, 1) := by decide +kernel
theorem dX9_spelt_121 : decode cX9_spelt 121 = .ok (.iload 4, 2) := by decide +kernel
theorem dX9_spelt_123 : decode cX9_spelt 123 = .ok (.i2l, 1) := by decide +kernel
theorem dX9_spelt_124 : decode cX9_spelt 124 = .ok (.ladd, 1) := by decide +kernel
theorem dX9_spelt_125 : decode cX9_spelt 125 = .ok (.ldc2_w 64, 3) := by decide +kernel
theorem dX9_spelt_128 : decode cX9_spelt 128 = .ok (.lsub, 1) := by decide +kernel
theorem dX9_spelt_129 : decode cX9_spelt 129 = .ok (.lconst 1, 1) := by decide +kernel
theorem dX9_spelt_130 : decode cX9_spelt 130 = .ok (.ladd, 1) := by decide +kernel
theorem dX9_spelt_131 : decode cX9_spelt 131 = .ok (.lstore 7, 2) := by decide +kernel
theorem dX9_spelt_133 : decode cX9_spelt 133 = .ok (.iload 5, 2) := by decide +kernel
theorem dX9_spelt_135 : decode cX9_spelt 135 = .ok (.ifCond .ne 8, 3) := by decide +kernel
theorem dX9_spelt_138 : decode cX9_spelt 138 = .ok (.lload 7, 2) := by decide +kernel
theorem dX9_spelt_140 : decode cX9_spelt 140 = .ok (.goto 19, 3) := by decide +kernel
theorem dX9_spelt_143 : decode cX9_spelt 143 = .ok (.lload 7, 2) := by decide +kernel
theorem dX9_spelt_145 : decode cX9_spelt 145 = .ok (.ldc2_w 72, 3) := by decide +kernel
theorem dX9_spelt_148 : decode cX9_spelt 148 = .ok (.lmul, 1) := by decide +kernel
theorem dX9_spelt_149 : decode cX9_spelt 149 = .ok (.iload 5, 2) := by decide +kernel
theorem dX9_spelt_151 : decode cX9_spelt 151 = .ok (.i2l, 1) := by decide +kernel
theorem dX9_spelt_152 : decode cX9_spelt 152 = .ok (.ladd, 1) := by decide +kernel
theorem dX9_spelt_153 : decode cX9_spelt 153 = .ok (.ldc2_w 64, 3) := by decide +kernel
theorem dX9_spelt_156 : decode cX9_spelt 156 = .ok (.lsub, 1) := by decide +kernel
theorem dX9_spelt_157 : decode cX9_spelt 157 = .ok (.lconst 1, 1) := by decide +kernel
theorem dX9_spelt_158 : decode cX9_spelt 158 = .ok (.ladd, 1) := by decide +kernel
theorem dX9_spelt_159 : decode cX9_spelt 159 = .ok (.lstore 7, 2) := by decide +kernel
theorem dX9_spelt_161 : decode cX9_spelt 161 = .ok (.iload 6, 2) := by decide +kernel
theorem dX9_spelt_163 : decode cX9_spelt 163 = .ok (.ifCond .ne 8, 3) := by decide +kernel
theorem dX9_spelt_166 : decode cX9_spelt 166 = .ok (.lload 7, 2) := by decide +kernel
theorem dX9_spelt_168 : decode cX9_spelt 168 = .ok (.goto 19, 3) := by decide +kernel
theorem dX9_spelt_171 : decode cX9_spelt 171 = .ok (.lload 7, 2) := by decide +kernel
theorem dX9_spelt_173 : decode cX9_spelt 173 = .ok (.ldc2_w 72, 3) := by decide +kernel
theorem dX9_spelt_176 : decode cX9_spelt 176 = .ok (.lmul, 1) := by decide +kernel
theorem dX9_spelt_177 : decode cX9_spelt 177 = .ok (.iload 6, 2) := by decide +kernel
theorem dX9_spelt_179 : decode cX9_spelt 179 = .ok (.i2l, 1) := by decide +kernel
theorem dX9_spelt_180 : decode cX9_spelt 180 = .ok (.ladd, 1) := by decide +kernel
theorem dX9_spelt_181 : decode cX9_spelt 181 = .ok (.ldc2_w 64, 3) := by decide +kernel
theorem dX9_spelt_184 : decode cX9_spelt 184 = .ok (.lsub, 1) := by decide +kernel
theorem dX9_spelt_185 : decode cX9_spelt 185 = .ok (.lconst 1, 1) := by decide +kernel
theorem dX9_spelt_186 : decode cX9_spelt 186 = .ok (.ladd, 1) := by decide +kernel
theorem dX9_spelt_187 : decode cX9_spelt 187 = .ok (.lreturn, 1) := by decide +kernel
set_option maxRecDepth 20000 in
theorem ggX9_verb_X9_wordOf : GoodIn wsX9_verb wsX9_wordOf := goodIn_r _ [5, 6, 7, 8, 9, 10, 11, 15, 16, 17, 18, 19, 20, 21, 22, 23, 24, 25, 26, 27, 28, 29, 30, 31, 32, 33, 34, 35] (by decide +kernel) (by decide +kernel)
set_option maxRecDepth 20000 in
theorem gX9_verb_X9_wordOf : GoodIn wsX9_verb (wsV RX9 74 RX9 yX9_wordOf wsX9_wordOf) := goodIn_app (goodIn_of _ (by decide +kernel)) ggX9_verb_X9_wordOf
set_option maxRecDepth 20000 in
theorem ggX9_verb_X9_spelt : GoodIn wsX9_verb wsX9_spelt := goodIn_r _ [14, 8, 10] (by decide +kernel) (by decide +kernel)
set_option maxRecDepth 20000 in
theorem gX9_verb_X9_spelt : GoodIn wsX9_verb (va_wsS RX9 78 yX9_spelt wsX9_spelt) := goodIn_app (goodIn_of _ (by decide +kernel)) ggX9_verb_X9_spelt
theorem dX9_verb_0 : decode cX9_verb 0 = .ok (.aload_n 0, 1) := by decide +kernel
theorem dX9_verb_1 : decode cX9_verb 1 = .ok (.invokevirtual 74, 3) := by decide +kernel
theorem dX9_verb_4 : decode cX9_verb 4 = .ok (.lstore_n 1, 1) := by decide +kernel
theorem dX9_verb_5 : decode cX9_verb 5 = .ok (.lload_n 1, 1) := by decide +kernel
theorem dX9_verb_6 : decode cX9_verb 6 = .ok (.bipush 98, 2) := by decide +kernel
theorem dX9_verb_8 : decode cX9_verb 8 = .ok (.bipush 111, 2) := by decide +kernel
theorem dX9_verb_10 : decode cX9_verb 10 = .ok (.bipush 110, 2) := by decide +kernel
theorem dX9_verb_12 : decode cX9_verb 12 = .ok (.bipush 101, 2) := by decide +kernel
theorem dX9_verb_14 : decode cX9_verb 14 = .ok (.iconst 0, 1) := by decide +kernel
theorem dX9_verb_15 : decode cX9_verb 15 = .ok (.iconst 0, 1) := by decide +kernel
theorem dX9_verb_16 : decode cX9_verb 16 = .ok (.iconst 0, 1) := by decide +kernel
theorem dX9_verb_17 : decode cX9_verb 17 = .ok (.invokestatic 78, 3) := by decide +kernel
theorem dX9_verb_20 : decode cX9_verb 20 = .ok (.lcmp, 1) := by decide +kernel
theorem dX9_verb_21 : decode cX9_verb 21 = .ok (.ifCond .ne 5, 3) := by decide +kernel
theorem dX9_verb_24 : decode cX9_verb 24 = .ok (.iconst 0, 1) := by decide +kernel
theorem dX9_verb_25 : decode cX9_verb 25 = .ok (.ireturn, 1) := by decide +kernel
theorem dX9_verb_26 : decode cX9_verb 26 = .ok (.lload_n 1, 1) := by decide +kernel
theorem dX9_verb_27 : decode cX9_verb 27 = .ok (.bipush 98, 2) := by decide +kernel
theorem dX9_verb_29 : decode cX9_verb 29 = .ok (.bipush 114, 2) := by decide +kernel
theorem dX9_verb_31 : decode cX9_verb 31 = .ok (.bipush 97, 2) := by decide +kernel
theorem dX9_verb_33 : decode cX9_verb 33 = .ok (.bipush 115, 2) := by decide +kernel
theorem dX9_verb_35 : decode cX9_verb 35 = .ok (.bipush 115, 2) := by decide +kernel
theorem dX9_verb_37 : decode cX9_verb 37 = .ok (.iconst 0, 1) := by decide +kernel
theorem dX9_verb_38 : decode cX9_verb 38 = .ok (.iconst 0, 1) := by decide +kernel
theorem dX9_verb_39 : decode cX9_verb 39 = .ok (.invokestatic 78, 3) := by decide +kernel
theorem dX9_verb_42 : decode cX9_verb 42 = .ok (.lcmp, 1) := by decide +kernel
theorem dX9_verb_43 : decode cX9_verb 43 = .ok (.ifCond .ne 5, 3) := by decide +kernel
theorem dX9_verb_46 : decode cX9_verb 46 = .ok (.iconst 1, 1) := by decide +kernel
theorem dX9_verb_47 : decode cX9_verb 47 = .ok (.ireturn, 1) := by decide +kernel
theorem dX9_verb_48 : decode cX9_verb 48 = .ok (.lload_n 1, 1) := by decide +kernel
theorem dX9_verb_49 : decode cX9_verb 49 = .ok (.bipush 112, 2) := by decide +kernel
theorem dX9_verb_51 : decode cX9_verb 51 = .ok (.bipush 101, 2) := by decide +kernel
theorem dX9_verb_53 : decode cX9_verb 53 = .ok (.bipush 97, 2) := by decide +kernel
theorem dX9_verb_55 : decode cX9_verb 55 = .ok (.bipush 114, 2) := by decide +kernel
theorem dX9_verb_57 : decode cX9_verb 57 = .ok (.bipush 108, 2) := by decide +kernel
theorem dX9_verb_59 : decode cX9_verb 59 = .ok (.iconst 0, 1) := by decide +kernel
theorem dX9_verb_60 : decode cX9_verb 60 = .ok (.iconst 0, 1) := by decide +kernel
theorem dX9_verb_61 : decode cX9_verb 61 = .ok (.invokestatic 78, 3) := by decide +kernel
theorem dX9_verb_64 : decode cX9_verb 64 = .ok (.lcmp, 1) := by decide +kernel
theorem dX9_verb_65 : decode cX9_verb 65 = .ok (.ifCond .ne 5, 3) := by decide +kernel
theorem dX9_verb_68 : decode cX9_verb 68 = .ok (.iconst 2, 1) := by decide +kernel
theorem dX9_verb_69 : decode cX9_verb 69 = .ok (.ireturn, 1) := by decide +kernel
theorem dX9_verb_70 : decode cX9_verb 70 = .ok (.lload_n 1, 1) := by decide +kernel
theorem dX9_verb_71 : decode cX9_verb 71 = .ok (.bipush 108, 2) := by decide +kernel
theorem dX9_verb_73 : decode cX9_verb 73 = .ok (.bipush 111, 2) := by decide +kernel
theorem dX9_verb_75 : decode cX9_verb 75 = .ok (.bipush 111, 2) := by decide +kernel
theorem dX9_verb_77 : decode cX9_verb 77 = .ok (.bipush 115, 2) := by decide +kernel
theorem dX9_verb_79 : decode cX9_verb 79 = .ok (.bipush 101, 2) := by decide +kernel
theorem dX9_verb_81 : decode cX9_verb 81 = .ok (.iconst 0, 1) := by decide +kernel
theorem dX9_verb_82 : decode cX9_verb 82 = .ok (.iconst 0, 1) := by decide +kernel
theorem dX9_verb_83 : decode cX9_verb 83 = .ok (.invokestatic 78, 3) := by decide +kernel
theorem dX9_verb_86 : decode cX9_verb 86 = .ok (.lcmp, 1) := by decide +kernel
theorem dX9_verb_87 : decode cX9_verb 87 = .ok (.ifCond .ne 5, 3) := by decide +kernel
theorem dX9_verb_90 : decode cX9_verb 90 = .ok (.iconst 3, 1) := by decide +kernel
theorem dX9_verb_91 : decode cX9_verb 91 = .ok (.ireturn, 1) := by decide +kernel
theorem dX9_verb_92 : decode cX9_verb 92 = .ok (.lload_n 1, 1) := by decide +kernel
theorem dX9_verb_93 : decode cX9_verb 93 = .ok (.bipush 99, 2) := by decide +kernel
theorem dX9_verb_95 : decode cX9_verb 95 = .ok (.bipush 111, 2) := by decide +kernel
theorem dX9_verb_97 : decode cX9_verb 97 = .ok (.bipush 97, 2) := by decide +kernel
theorem dX9_verb_99 : decode cX9_verb 99 = .ok (.bipush 116, 2) := by decide +kernel
theorem dX9_verb_101 : decode cX9_verb 101 = .ok (.iconst 0, 1) := by decide +kernel
theorem dX9_verb_102 : decode cX9_verb 102 = .ok (.iconst 0, 1) := by decide +kernel
theorem dX9_verb_103 : decode cX9_verb 103 = .ok (.iconst 0, 1) := by decide +kernel
theorem dX9_verb_104 : decode cX9_verb 104 = .ok (.invokestatic 78, 3) := by decide +kernel
theorem dX9_verb_107 : decode cX9_verb 107 = .ok (.lcmp, 1) := by decide +kernel
theorem dX9_verb_108 : decode cX9_verb 108 = .ok (.ifCond .ne 5, 3) := by decide +kernel
theorem dX9_verb_111 : decode cX9_verb 111 = .ok (.iconst 4, 1) := by decide +kernel
theorem dX9_verb_112 : decode cX9_verb 112 = .ok (.ireturn, 1) := by decide +kernel
theorem dX9_verb_113 : decode cX9_verb 113 = .ok (.lload_n 1, 1) := by decide +kernel
theorem dX9_verb_114 : decode cX9_verb 114 = .ok (.bipush 102, 2) := by decide +kernel
theorem dX9_verb_116 : decode cX9_verb 116 = .ok (.bipush 97, 2) := by decide +kernel
theorem dX9_verb_118 : decode cX9_verb 118 = .ok (.bipush 118, 2) := by decide +kernel
theorem dX9_verb_120 : decode cX9_verb 120 = .ok (.bipush 111, 2) := by decide +kernel
theorem dX9_verb_122 : decode cX9_verb 122 = .ok (.bipush 117, 2) := by decide +kernel
theorem dX9_verb_124 : decode cX9_verb 124 = .ok (.bipush 114, 2) := by decide +kernel
theorem dX9_verb_126 : decode cX9_verb 126 = .ok (.iconst 0, 1) := by decide +kernel
theorem dX9_verb_127 : decode cX9_verb 127 = .ok (.invokestatic 78, 3) := by decide +kernel
theorem dX9_verb_130 : decode cX9_verb 130 = .ok (.lcmp, 1) := by decide +kernel
theorem dX9_verb_131 : decode cX9_verb 131 = .ok (.ifCond .ne 5, 3) := by decide +kernel
theorem dX9_verb_134 : decode cX9_verb 134 = .ok (.iconst 5, 1) := by decide +kernel
theorem dX9_verb_135 : decode cX9_verb 135 = .ok (.ireturn, 1) := by decide +kernel
theorem dX9_verb_136 : decode cX9_verb 136 = .ok (.lload_n 1, 1) := by decide +kernel
theorem dX9_verb_137 : decode cX9_verb 137 = .ok (.bipush 102, 2) := by decide +kernel
theorem dX9_verb_139 : decode cX9_verb 139 = .ok (.bipush 101, 2) := by decide +kernel
theorem dX9_verb_141 : decode cX9_verb 141 = .ok (.bipush 117, 2) := by decide +kernel
theorem dX9_verb_143 : decode cX9_verb 143 = .ok (.bipush 100, 2) := by decide +kernel
theorem dX9_verb_145 : decode cX9_verb 145 = .ok (.iconst 0, 1) := by decide +kernel
theorem dX9_verb_146 : decode cX9_verb 146 = .ok (.iconst 0, 1) := by decide +kernel
theorem dX9_verb_147 : decode cX9_verb 147 = .ok (.iconst 0, 1) := by decide +kernel
theorem dX9_verb_148 : decode cX9_verb 148 = .ok (.invokestatic 78, 3) := by decide +kernel
theorem dX9_verb_151 : decode cX9_verb 151 = .ok (.lcmp, 1) := by decide +kernel
theorem dX9_verb_152 : decode cX9_verb 152 = .ok (.ifCond .ne 6, 3) := by decide +kernel
theorem dX9_verb_155 : decode cX9_verb 155 = .ok (.bipush 6, 2) := by decide +kernel
theorem dX9_verb_157 : decode cX9_verb 157 = .ok (.ireturn, 1) := by decide +kernel
theorem dX9_verb_158 : decode cX9_verb 158 = .ok (.lload_n 1, 1) := by decide +kernel
theorem dX9_verb_159 : decode cX9_verb 159 = .ok (.bipush 113, 2) := by decide +kernel
theorem dX9_verb_161 : decode cX9_verb 161 = .ok (.bipush 117, 2) := by decide +kernel
theorem dX9_verb_163 : decode cX9_verb 163 = .ok (.bipush 111, 2) := by decide +kernel
theorem dX9_verb_165 : decode cX9_verb 165 = .ok (.bipush 116, 2) := by decide +kernel
theorem dX9_verb_167 : decode cX9_verb 167 = .ok (.bipush 97, 2) := by decide +kernel
theorem dX9_verb_169 : decode cX9_verb 169 = .ok (.iconst 0, 1) := by decide +kernel
theorem dX9_verb_170 : decode cX9_verb 170 = .ok (.iconst 0, 1) := by decide +kernel
theorem dX9_verb_171 : decode cX9_verb 171 = .ok (.invokestatic 78, 3) := by decide +kernel
theorem dX9_verb_174 : decode cX9_verb 174 = .ok (.lcmp, 1) := by decide +kernel
theorem dX9_verb_175 : decode cX9_verb 175 = .ok (.ifCond .ne 6, 3) := by decide +kernel
theorem dX9_verb_178 : decode cX9_verb 178 = .ok (.bipush 7, 2) := by decide +kernel
theorem dX9_verb_180 : decode cX9_verb 180 = .ok (.ireturn, 1) := by decide +kernel
theorem dX9_verb_181 : decode cX9_verb 181 = .ok (.lload_n 1, 1) := by decide +kernel
theorem dX9_verb_182 : decode cX9_verb 182 = .ok (.bipush 99, 2) := by decide +kernel
theorem dX9_verb_184 : decode cX9_verb 184 = .ok (.bipush 111, 2) := by decide +kernel
theorem dX9_verb_186 : decode cX9_verb 186 = .ok (.bipush 108, 2) := by decide +kernel
theorem dX9_verb_188 : decode cX9_verb 188 = .ok (.bipush 100, 2) := by decide +kernel
theorem dX9_verb_190 : decode cX9_verb 190 = .ok (.iconst 0, 1) := by decide +kernel
theorem dX9_verb_191 : decode cX9_verb 191 = .ok (.iconst 0, 1) := by decide +kernel
theorem dX9_verb_192 : decode cX9_verb 192 = .ok (.iconst 0, 1) := by decide +kernel
theorem dX9_verb_193 : decode cX9_verb 193 = .ok (.invokestatic 78, 3) := by decide +kernel
theorem dX9_verb_196 : decode cX9_verb 196 = .ok (.lcmp, 1) := by decide +kernel
theorem dX9_verb_197 : decode cX9_verb 197 = .ok (.ifCond .ne 8, 3) := by decide +kernel
theorem dX9_verb_200 : decode cX9_verb 200 = .ok (.bipush 8, 2) := by decide +kernel
theorem dX9_verb_202 : decode cX9_verb 202 = .ok (.goto 28, 3) := by decide +kernel
theorem dX9_verb_205 : decode cX9_verb 205 = .ok (.lload_n 1, 1) := by decide +kernel
theorem dX9_verb_206 : decode cX9_verb 206 = .ok (.bipush 109, 2) := by decide +kernel
theorem dX9_verb_208 : decode cX9_verb 208 = .ok (.bipush 105, 2) := by decide +kernel
theorem dX9_verb_210 : decode cX9_verb 210 = .ok (.bipush 108, 2) := by decide +kernel
theorem dX9_verb_212 : decode cX9_verb 212 = .ok (.bipush 100, 2) := by decide +kernel
theorem dX9_verb_214 : decode cX9_verb 214 = .ok (.iconst 0, 1) := by decide +kernel
theorem dX9_verb_215 : decode cX9_verb 215 = .ok (.iconst 0, 1) := by decide +kernel
theorem dX9_verb_216 : decode cX9_verb 216 = .ok (.iconst 0, 1) := by decide +kernel
theorem dX9_verb_217 : decode cX9_verb 217 = .ok (.invokestatic 78, 3) := by decide +kernel
theorem dX9_verb_220 : decode cX9_verb 220 = .ok (.lcmp, 1) := by decide +kernel
theorem dX9_verb_221 : decode cX9_verb 221 = .ok (.ifCond .ne 8, 3) := by decide +kernel
theorem dX9_verb_224 : decode cX9_verb 224 = .ok (.bipush 9, 2) := by decide +kernel
theorem dX9_verb_226 : decode cX9_verb 226 = .ok (.goto 4, 3) := by decide +kernel
theorem dX9_verb_229 : decode cX9_verb 229 = .ok (.iconst (-1), 1) := by decide +kernel
theorem dX9_verb_230 : decode cX9_verb 230 = .ok (.ireturn, 1) := by decide +kernel
set_option maxRecDepth 20000 in
theorem ggX9_number_X9_nextToken : GoodIn wsX9_number wsX9_nextToken := goodIn_r _ [7, 8, 9, 2, 10, 1, 11, 12, 13, 14, 15, 16, 17, 18, 6, 19, 20, 21, 22, 23, 24, 25, 26, 27, 28, 29, 30, 31, 32, 33, 34, 35, 36, 37, 38, 39, 40, 41, 42, 43] (by decide +kernel) (by decide +kernel)
set_option maxRecDepth 20000 in
theorem gX9_number_X9_nextToken : GoodIn wsX9_number (wsV RX9 82 RX9 yX9_nextToken wsX9_nextToken) := goodIn_app (goodIn_of _ (by decide +kernel)) ggX9_number_X9_nextToken
set_option maxRecDepth 20000 in
theorem ggX9_number_X9_in : GoodIn wsX9_number wsX9_in := goodIn_r _ [22] (by decide +kernel) (by decide +kernel)
set_option maxRecDepth 20000 in
theorem gX9_number_X9_in : GoodIn wsX9_number (va_wsS RX9 38 yX9_in wsX9_in) := goodIn_app (goodIn_of _ (by decide +kernel)) ggX9_number_X9_in
theorem dX9_number_0 : decode cX9_number 0 = .ok (.aload_n 0, 1) := by decide +kernel
theorem dX9_number_1 : decode cX9_number 1 = .ok (.invokevirtual 82, 3) := by decide +kernel
theorem dX9_number_4 : decode cX9_number 4 = .ok (.aload_n 0, 1) := by decide +kernel
theorem dX9_number_5 : decode cX9_number 5 = .ok (.getfield 61, 3) := by decide +kernel
theorem dX9_number_8 : decode cX9_number 8 = .ok (.iconst 2, 1) := by decide +kernel
theorem dX9_number_9 : decode cX9_number 9 = .ok (.if_icmp .ne 25, 3) := by decide +kernel
theorem dX9_number_12 : decode cX9_number 12 = .ok (.aload_n 0, 1) := by decide +kernel
theorem dX9_number_13 : decode cX9_number 13 = .ok (.getfield 58, 3) := by decide +kernel
theorem dX9_number_16 : decode cX9_number 16 = .ok (.i2l, 1) := by decide +kernel
theorem dX9_number_17 : decode cX9_number 17 = .ok (.iload_n 1, 1) := by decide +kernel
theorem dX9_number_18 : decode cX9_number 18 = .ok (.i2l, 1) := by decide +kernel
theorem dX9_number_19 : decode cX9_number 19 = .ok (.iload_n 2, 1) := by decide +kernel
theorem dX9_number_20 : decode cX9_number 20 = .ok (.i2l, 1) := by decide +kernel
theorem dX9_number_21 : decode cX9_number 21 = .ok (.invokestatic 38, 3) := by decide +kernel
theorem dX9_number_24 : decode cX9_number 24 = .ok (.ifCond .eq 10, 3) := by decide +kernel
theorem dX9_number_27 : decode cX9_number 27 = .ok (.aload_n 0, 1) := by decide +kernel
theorem dX9_number_28 : decode cX9_number 28 = .ok (.getfield 58, 3) := by decide +kernel
theorem dX9_number_31 : decode cX9_number 31 = .ok (.goto 4, 3) := by decide +kernel
theorem dX9_number_34 : decode cX9_number 34 = .ok (.iconst (-1), 1) := by decide +kernel
theorem dX9_number_35 : decode cX9_number 35 = .ok (.ireturn, 1) := by decide +kernel
set_option maxRecDepth 20000 in
theorem ggX9_readButton_X9_number : GoodIn wsX9_readButton wsX9_number := goodIn_r _ [6, 7, 8, 9, 10, 11, 5, 12, 13, 14, 15, 16, 17, 18, 19, 20, 21, 22, 23, 24, 25, 26, 27, 28, 29, 30, 31, 32, 33, 34, 35, 36, 37, 38, 39, 40, 41, 42, 43, 44, 45, 46, 47, 48] (by decide +kernel) (by decide +kernel)
set_option maxRecDepth 20000 in
theorem gX9_readButton_X9_number : GoodIn wsX9_readButton (wsV RX9 85 RX9 yX9_number wsX9_number) := goodIn_app (goodIn_of _ (by decide +kernel)) ggX9_readButton_X9_number
theorem dX9_readButton_0 : decode cX9_readButton 0 = .ok (.aload_n 0, 1) := by decide +kernel
theorem dX9_readButton_1 : decode cX9_readButton 1 = .ok (.getfield 19, 3) := by decide +kernel
theorem dX9_readButton_4 : decode cX9_readButton 4 = .ok (.iconst 0, 1) := by decide +kernel
theorem dX9_readButton_5 : decode cX9_readButton 5 = .ok (.iaload, 1) := by decide +kernel
theorem dX9_readButton_6 : decode cX9_readButton 6 = .ok (.istore_n 2, 1) := by decide +kernel
theorem dX9_readButton_7 : decode cX9_readButton 7 = .ok (.iload_n 2, 1) := by decide +kernel
theorem dX9_readButton_8 : decode cX9_readButton 8 = .ok (.bipush 7, 2) := by decide +kernel
theorem dX9_readButton_10 : decode cX9_readButton 10 = .ok (.if_icmp .ne 5, 3) := by decide +kernel
theorem dX9_readButton_13 : decode cX9_readButton 13 = .ok (.iconst 0, 1) := by decide +kernel
theorem dX9_readButton_14 : decode cX9_readButton 14 = .ok (.ireturn, 1) := by decide +kernel
theorem dX9_readButton_15 : decode cX9_readButton 15 = .ok (.aload_n 0, 1) := by decide +kernel
theorem dX9_readButton_16 : decode cX9_readButton 16 = .ok (.iconst 1, 1) := by decide +kernel
theorem dX9_readButton_17 : decode cX9_readButton 17 = .ok (.bipush 9, 2) := by decide +kernel
theorem dX9_readButton_19 : decode cX9_readButton 19 = .ok (.invokevirtual 85, 3) := by decide +kernel
theorem dX9_readButton_22 : decode cX9_readButton 22 = .ok (.istore_n 3, 1) := by decide +kernel
theorem dX9_readButton_23 : decode cX9_readButton 23 = .ok (.iload_n 3, 1) := by decide +kernel
theorem dX9_readButton_24 : decode cX9_readButton 24 = .ok (.ifCond .ge 7, 3) := by decide +kernel
theorem dX9_readButton_27 : decode cX9_readButton 27 = .ok (.iconst (-1), 1) := by decide +kernel
theorem dX9_readButton_28 : decode cX9_readButton 28 = .ok (.goto 10, 3) := by decide +kernel
theorem dX9_readButton_31 : decode cX9_readButton 31 = .ok (.aload_n 0, 1) := by decide +kernel
theorem dX9_readButton_32 : decode cX9_readButton 32 = .ok (.iconst 0, 1) := by decide +kernel
theorem dX9_readButton_33 : decode cX9_readButton 33 = .ok (.bipush 99, 2) := by decide +kernel
theorem dX9_readButton_35 : decode cX9_readButton 35 = .ok (.invokevirtual 85, 3) := by decide +kernel
theorem dX9_readButton_38 : decode cX9_readButton 38 = .ok (.istore 4, 2) := by decide +kernel
theorem dX9_readButton_40 : decode cX9_readButton 40 = .ok (.iload 4, 2) := by decide +kernel
theorem dX9_readButton_42 : decode cX9_readButton 42 = .ok (.ifCond .ge 5, 3) := by decide +kernel
theorem dX9_readButton_45 : decode cX9_readButton 45 = .ok (.iconst 0, 1) := by decide +kernel
theorem dX9_readButton_46 : decode cX9_readButton 46 = .ok (.ireturn, 1) := by decide +kernel
theorem dX9_readButton_47 : decode cX9_readButton 47 = .ok (.aload_n 0, 1) := by decide +kernel
theorem dX9_readButton_48 : decode cX9_readButton 48 = .ok (.getfield 19, 3) := by decide +kernel
theorem dX9_readButton_51 : decode cX9_readButton 51 = .ok (.iconst 3, 1) := by decide +kernel
theorem dX9_readButton_52 : decode cX9_readButton 52 = .ok (.iload_n 2, 1) := by decide +kernel
theorem dX9_readButton_53 : decode cX9_readButton 53 = .ok (.iadd, 1) := by decide +kernel
theorem dX9_readButton_54 : decode cX9_readButton 54 = .ok (.iload_n 1, 1) := by decide +kernel
theorem dX9_readButton_55 : decode cX9_readButton 55 = .ok (.iastore, 1) := by decide +kernel
theorem dX9_readButton_56 : decode cX9_readButton 56 = .ok (.aload_n 0, 1) := by decide +kernel
theorem dX9_readButton_57 : decode cX9_readButton 57 = .ok (.getfield 19, 3) := by decide +kernel
theorem dX9_readButton_60 : decode cX9_readButton 60 = .ok (.bipush 10, 2) := by decide +kernel
theorem dX9_readButton_62 : decode cX9_readButton 62 = .ok (.iload_n 2, 1) := by decide +kernel
theorem dX9_readButton_63 : decode cX9_readButton 63 = .ok (.iadd, 1) := by decide +kernel
theorem dX9_readButton_64 : decode cX9_readButton 64 = .ok (.iload_n 3, 1) := by decide +kernel
theorem dX9_readButton_65 : decode cX9_readButton 65 = .ok (.iastore, 1) := by decide +kernel
theorem dX9_readButton_66 : decode cX9_readButton 66 = .ok (.aload_n 0, 1) := by decide +kernel
theorem dX9_readButton_67 : decode cX9_readButton 67 = .ok (.getfield 19, 3) := by decide +kernel
theorem dX9_readButton_70 : decode cX9_readButton 70 = .ok (.bipush 17, 2) := by decide +kernel
theorem dX9_readButton_72 : decode cX9_readButton 72 = .ok (.iload_n 2, 1) := by decide +kernel
theorem dX9_readButton_73 : decode cX9_readButton 73 = .ok (.iadd, 1) := by decide +kernel
theorem dX9_readButton_74 : decode cX9_readButton 74 = .ok (.iload 4, 2) := by decide +kernel
theorem dX9_readButton_76 : decode cX9_readButton 76 = .ok (.iastore, 1) := by decide +kernel
theorem dX9_readButton_77 : decode cX9_readButton 77 = .ok (.aload_n 0, 1) := by decide +kernel
theorem dX9_readButton_78 : decode cX9_readButton 78 = .ok (.getfield 19, 3) := by decide +kernel
theorem dX9_readButton_81 : decode cX9_readButton 81 = .ok (.bipush 24, 2) := by decide +kernel
theorem dX9_readButton_83 : decode cX9_readButton 83 = .ok (.iload_n 2, 1) := by decide +kernel
theorem dX9_readButton_84 : decode cX9_readButton 84 = .ok (.iadd, 1) := by decide +kernel
theorem dX9_readButton_85 : decode cX9_readButton 85 = .ok (.iconst 0, 1) := by decide +kernel
theorem dX9_readButton_86 : decode cX9_readButton 86 = .ok (.iastore, 1) := by decide +kernel
theorem dX9_readButton_87 : decode cX9_readButton 87 = .ok (.aload_n 0, 1) := by decide +kernel
theorem dX9_readButton_88 : decode cX9_readButton 88 = .ok (.getfield 19, 3) := by decide +kernel
theorem dX9_readButton_91 : decode cX9_readButton 91 = .ok (.iconst 0, 1) := by decide +kernel
theorem dX9_readButton_92 : decode cX9_readButton 92 = .ok (.dup2, 1) := by decide +kernel
theorem dX9_readButton_93 : decode cX9_readButton 93 = .ok (.iaload, 1) := by decide +kernel
theorem dX9_readButton_94 : decode cX9_readButton 94 = .ok (.iconst 1, 1) := by decide +kernel
theorem dX9_readButton_95 : decode cX9_readButton 95 = .ok (.iadd, 1) := by decide +kernel
theorem dX9_readButton_96 : decode cX9_readButton 96 = .ok (.iastore, 1) := by decide +kernel
theorem dX9_readButton_97 : decode cX9_readButton 97 = .ok (.iconst 1, 1) := by decide +kernel
theorem dX9_readButton_98 : decode cX9_readButton 98 = .ok (.ireturn, 1) := by decide +kernel
set_option maxRecDepth 20000 in
theorem ggX9_readFavour_X9_number : GoodIn wsX9_readFavour wsX9_number := goodIn_r _ [6, 7, 8, 9, 10, 11, 5, 12, 13, 14, 15, 16, 17, 18, 19, 20, 21, 22, 23, 24, 25, 26, 27, 28, 29, 30, 31, 32, 33, 34, 35, 36, 37, 38, 39, 40, 41, 42, 43, 44, 45, 46, 47, 48] (by decide +kernel) (by decide +kernel)
set_option maxRecDepth 20000 in
theorem gX9_readFavour_X9_number : GoodIn wsX9_readFavour (wsV RX9 85 RX9 yX9_number wsX9_number) := goodIn_app (goodIn_of _ (by decide +kernel)) ggX9_readFavour_X9_number
theorem dX9_readFavour_0 : decode cX9_readFavour 0 = .ok (.aload_n 0, 1) := by decide +kernel
theorem dX9_readFavour_1 : decode cX9_readFavour 1 = .ok (.iconst 0, 1) := by decide +kernel
theorem dX9_readFavour_2 : decode cX9_readFavour 2 = .ok (.aload_n 0, 1) := by decide +kernel
theorem dX9_readFavour_3 : decode cX9_readFavour 3 = .ok (.getfield 19, 3) := by decide +kernel
theorem dX9_readFavour_6 : decode cX9_readFavour 6 = .ok (.iconst 0, 1) := by decide +kernel
theorem dX9_readFavour_7 : decode cX9_readFavour 7 = .ok (.iaload, 1) := by decide +kernel
theorem dX9_readFavour_8 : decode cX9_readFavour 8 = .ok (.iconst 1, 1) := by decide +kernel
theorem dX9_readFavour_9 : decode cX9_readFavour 9 = .ok (.isub, 1) := by decide +kernel
theorem dX9_readFavour_10 : decode cX9_readFavour 10 = .ok (.invokevirtual 85, 3) := by decide +kernel
theorem dX9_readFavour_13 : decode cX9_readFavour 13 = .ok (.istore_n 2, 1) := by decide +kernel
theorem dX9_readFavour_14 : decode cX9_readFavour 14 = .ok (.iload_n 2, 1) := by decide +kernel
theorem dX9_readFavour_15 : decode cX9_readFavour 15 = .ok (.ifCond .ge 7, 3) := by decide +kernel
theorem dX9_readFavour_18 : decode cX9_readFavour 18 = .ok (.iconst (-1), 1) := by decide +kernel
theorem dX9_readFavour_19 : decode cX9_readFavour 19 = .ok (.goto 16, 3) := by decide +kernel
theorem dX9_readFavour_22 : decode cX9_readFavour 22 = .ok (.aload_n 0, 1) := by decide +kernel
theorem dX9_readFavour_23 : decode cX9_readFavour 23 = .ok (.iconst 0, 1) := by decide +kernel
theorem dX9_readFavour_24 : decode cX9_readFavour 24 = .ok (.aload_n 0, 1) := by decide +kernel
theorem dX9_readFavour_25 : decode cX9_readFavour 25 = .ok (.getfield 19, 3) := by decide +kernel
theorem dX9_readFavour_28 : decode cX9_readFavour 28 = .ok (.iconst 0, 1) := by decide +kernel
theorem dX9_readFavour_29 : decode cX9_readFavour 29 = .ok (.iaload, 1) := by decide +kernel
theorem dX9_readFavour_30 : decode cX9_readFavour 30 = .ok (.iconst 1, 1) := by decide +kernel
theorem dX9_readFavour_31 : decode cX9_readFavour 31 = .ok (.isub, 1) := by decide +kernel
theorem dX9_readFavour_32 : decode cX9_readFavour 32 = .ok (.invokevirtual 85, 3) := by decide +kernel
theorem dX9_readFavour_35 : decode cX9_readFavour 35 = .ok (.istore_n 3, 1) := by decide +kernel
theorem dX9_readFavour_36 : decode cX9_readFavour 36 = .ok (.iload_n 3, 1) := by decide +kernel
theorem dX9_readFavour_37 : decode cX9_readFavour 37 = .ok (.ifCond .lt 8, 3) := by decide +kernel
theorem dX9_readFavour_40 : decode cX9_readFavour 40 = .ok (.iload_n 2, 1) := by decide +kernel
theorem dX9_readFavour_41 : decode cX9_readFavour 41 = .ok (.iload_n 3, 1) := by decide +kernel
theorem dX9_readFavour_42 : decode cX9_readFavour 42 = .ok (.if_icmp .ne 5, 3) := by decide +kernel
theorem dX9_readFavour_45 : decode cX9_readFavour 45 = .ok (.iconst 0, 1) := by decide +kernel
theorem dX9_readFavour_46 : decode cX9_readFavour 46 = .ok (.ireturn, 1) := by decide +kernel
theorem dX9_readFavour_47 : decode cX9_readFavour 47 = .ok (.aload_n 0, 1) := by decide +kernel
theorem dX9_readFavour_48 : decode cX9_readFavour 48 = .ok (.getfield 19, 3) := by decide +kernel
theorem dX9_readFavour_51 : decode cX9_readFavour 51 = .ok (.bipush 24, 2) := by decide +kernel
theorem dX9_readFavour_53 : decode cX9_readFavour 53 = .ok (.iload_n 2, 1) := by decide +kernel
theorem dX9_readFavour_54 : decode cX9_readFavour 54 = .ok (.iadd, 1) := by decide +kernel
theorem dX9_readFavour_55 : decode cX9_readFavour 55 = .ok (.iaload, 1) := by decide +kernel
theorem dX9_readFavour_56 : decode cX9_readFavour 56 = .ok (.iconst 1, 1) := by decide +kernel
theorem dX9_readFavour_57 : decode cX9_readFavour 57 = .ok (.iload_n 3, 1) := by decide +kernel
theorem dX9_readFavour_58 : decode cX9_readFavour 58 = .ok (.ishl, 1) := by decide +kernel
theorem dX9_readFavour_59 : decode cX9_readFavour 59 = .ok (.iconst (-1), 1) := by decide +kernel
theorem dX9_readFavour_60 : decode cX9_readFavour 60 = .ok (.ixor, 1) := by decide +kernel
theorem dX9_readFavour_61 : decode cX9_readFavour 61 = .ok (.iand, 1) := by decide +kernel
theorem dX9_readFavour_62 : decode cX9_readFavour 62 = .ok (.istore 4, 2) := by decide +kernel
theorem dX9_readFavour_64 : decode cX9_readFavour 64 = .ok (.aload_n 0, 1) := by decide +kernel
theorem dX9_readFavour_65 : decode cX9_readFavour 65 = .ok (.getfield 19, 3) := by decide +kernel
theorem dX9_readFavour_68 : decode cX9_readFavour 68 = .ok (.bipush 24, 2) := by decide +kernel
theorem dX9_readFavour_70 : decode cX9_readFavour 70 = .ok (.iload_n 2, 1) := by decide +kernel
theorem dX9_readFavour_71 : decode cX9_readFavour 71 = .ok (.iadd, 1) := by decide +kernel
theorem dX9_readFavour_72 : decode cX9_readFavour 72 = .ok (.iload_n 1, 1) := by decide +kernel
theorem dX9_readFavour_73 : decode cX9_readFavour 73 = .ok (.ifCond .eq 12, 3) := by decide +kernel
theorem dX9_readFavour_76 : decode cX9_readFavour 76 = .ok (.iload 4, 2) := by decide +kernel
theorem dX9_readFavour_78 : decode cX9_readFavour 78 = .ok (.iconst 1, 1) := by decide +kernel
theorem dX9_readFavour_79 : decode cX9_readFavour 79 = .ok (.iload_n 3, 1) := by decide +kernel
theorem dX9_readFavour_80 : decode cX9_readFavour 80 = .ok (.ishl, 1) := by decide +kernel
theorem dX9_readFavour_81 : decode cX9_readFavour 81 = .ok (.ior, 1) := by decide +kernel
theorem dX9_readFavour_82 : decode cX9_readFavour 82 = .ok (.goto 5, 3) := by decide +kernel
theorem dX9_readFavour_85 : decode cX9_readFavour 85 = .ok (.iload 4, 2) := by decide +kernel
theorem dX9_readFavour_87 : decode cX9_readFavour 87 = .ok (.iastore, 1) := by decide +kernel
theorem dX9_readFavour_88 : decode cX9_readFavour 88 = .ok (.iconst 1, 1) := by decide +kernel
theorem dX9_readFavour_89 : decode cX9_readFavour 89 = .ok (.ireturn, 1) := by decide +kernel
set_option maxRecDepth 20000 in
theorem ggX9_readClause_X9_verb : GoodIn wsX9_readClause wsX9_verb := goodIn_r _ [6, 7, 8, 9, 5, 10, 11, 12, 13, 14, 15, 16, 17, 18, 19, 48, 49, 50, 51, 52, 53, 54, 55, 56, 57, 58, 59, 60, 61, 62, 63, 64, 65, 66, 67, 68] (by decide +kernel) (by decide +kernel)
set_option maxRecDepth 20000 in
theorem gX9_readClause_X9_verb : GoodIn wsX9_readClause (wsV RX9 89 RX9 yX9_verb wsX9_verb) := goodIn_app (goodIn_of _ (by decide +kernel)) ggX9_readClause_X9_verb
set_option maxRecDepth 20000 in
theorem ggX9_readClause_X9_readButton : GoodIn wsX9_readClause wsX9_readButton := goodIn_r _ [23, 1, 24, 25, 26, 5, 27, 16, 28, 29, 30, 31, 32, 12, 11, 33, 15, 34, 35, 36, 14, 37, 38, 39, 40, 41, 42, 43, 48, 49, 50, 51, 52, 53, 54, 55, 56, 57, 58, 59, 60, 61, 62, 63, 64, 65, 66, 67, 68] (by decide +kernel) (by decide +kernel)
set_option maxRecDepth 20000 in
theorem gX9_readClause_X9_readButton : GoodIn wsX9_readClause (wsV RX9 93 RX9 yX9_readButton wsX9_readButton) := goodIn_app (goodIn_of _ (by decide +kernel)) ggX9_readClause_X9_readButton
set_option maxRecDepth 20000 in
theorem ggX9_readClause_X9_readFavour : GoodIn wsX9_readClause wsX9_readFavour := goodIn_r _ [47, 1, 24, 25, 26, 5, 27, 16, 28, 29, 30, 31, 32, 12, 11, 33, 15, 34, 35, 36, 14, 37, 38, 39, 40, 41, 42, 43, 48, 49, 50, 51, 52, 53, 54, 55, 56, 57, 58, 59, 60, 61, 62, 63, 64, 65, 66, 67, 68] (by decide +kernel) (by decide +kernel)
set_option maxRecDepth 20000 in
theorem gX9_readClause_X9_readFavour : GoodIn wsX9_readClause (wsV RX9 97 RX9 yX9_readFavour wsX9_readFavour) := goodIn_app (goodIn_of _ (by decide +kernel)) ggX9_readClause_X9_readFavour
set_option maxRecDepth 20000 in
theorem ggX9_readClause_X9_number : GoodIn wsX9_readClause wsX9_number := goodIn_r _ [27, 16, 28, 29, 30, 31, 5, 32, 12, 11, 33, 15, 34, 35, 36, 14, 37, 38, 39, 40, 41, 42, 43, 48, 49, 50, 51, 52, 53, 54, 55, 56, 57, 58, 59, 60, 61, 62, 63, 64, 65, 66, 67, 68] (by decide +kernel) (by decide +kernel)
set_option maxRecDepth 20000 in
theorem gX9_readClause_X9_number : GoodIn wsX9_readClause (wsV RX9 85 RX9 yX9_number wsX9_number) := goodIn_app (goodIn_of _ (by decide +kernel)) ggX9_readClause_X9_number
theorem dX9_readClause_0 : decode cX9_readClause 0 = .ok (.aload_n 0, 1) := by decide +kernel
theorem dX9_readClause_1 : decode cX9_readClause 1 = .ok (.invokevirtual 89, 3) := by decide +kernel
theorem dX9_readClause_4 : decode cX9_readClause 4 = .ok (.istore_n 1, 1) := by decide +kernel
theorem dX9_readClause_5 : decode cX9_readClause 5 = .ok (.iload_n 1, 1) := by decide +kernel
theorem dX9_readClause_6 : decode cX9_readClause 6 = .ok (.ifCond .ge 5, 3) := by decide +kernel
theorem dX9_readClause_9 : decode cX9_readClause 9 = .ok (.iconst 0, 1) := by decide +kernel
theorem dX9_readClause_10 : decode cX9_readClause 10 = .ok (.ireturn, 1) := by decide +kernel
theorem dX9_readClause_11 : decode cX9_readClause 11 = .ok (.iload_n 1, 1) := by decide +kernel
theorem dX9_readClause_12 : decode cX9_readClause 12 = .ok (.iconst 4, 1) := by decide +kernel
theorem dX9_readClause_13 : decode cX9_readClause 13 = .ok (.if_icmp .ge 9, 3) := by decide +kernel
theorem dX9_readClause_16 : decode cX9_readClause 16 = .ok (.aload_n 0, 1) := by decide +kernel
theorem dX9_readClause_17 : decode cX9_readClause 17 = .ok (.iload_n 1, 1) := by decide +kernel
theorem dX9_readClause_18 : decode cX9_readClause 18 = .ok (.invokevirtual 93, 3) := by decide +kernel
theorem dX9_readClause_21 : decode cX9_readClause 21 = .ok (.ireturn, 1) := by decide +kernel
theorem dX9_readClause_22 : decode cX9_readClause 22 = .ok (.iload_n 1, 1) := by decide +kernel
theorem dX9_readClause_23 : decode cX9_readClause 23 = .ok (.iconst 4, 1) := by decide +kernel
theorem dX9_readClause_24 : decode cX9_readClause 24 = .ok (.if_icmp .ne 26, 3) := by decide +kernel
theorem dX9_readClause_27 : decode cX9_readClause 27 = .ok (.aload_n 0, 1) := by decide +kernel
theorem dX9_readClause_28 : decode cX9_readClause 28 = .ok (.getfield 19, 3) := by decide +kernel
theorem dX9_readClause_31 : decode cX9_readClause 31 = .ok (.iconst 0, 1) := by decide +kernel
theorem dX9_readClause_32 : decode cX9_readClause 32 = .ok (.iconst 0, 1) := by decide +kernel
theorem dX9_readClause_33 : decode cX9_readClause 33 = .ok (.iastore, 1) := by decide +kernel
theorem dX9_readClause_34 : decode cX9_readClause 34 = .ok (.aload_n 0, 1) := by decide +kernel
theorem dX9_readClause_35 : decode cX9_readClause 35 = .ok (.getfield 19, 3) := by decide +kernel
theorem dX9_readClause_38 : decode cX9_readClause 38 = .ok (.iconst 1, 1) := by decide +kernel
theorem dX9_readClause_39 : decode cX9_readClause 39 = .ok (.iconst 3, 1) := by decide +kernel
theorem dX9_readClause_40 : decode cX9_readClause 40 = .ok (.iastore, 1) := by decide +kernel
theorem dX9_readClause_41 : decode cX9_readClause 41 = .ok (.aload_n 0, 1) := by decide +kernel
theorem dX9_readClause_42 : decode cX9_readClause 42 = .ok (.getfield 19, 3) := by decide +kernel
theorem dX9_readClause_45 : decode cX9_readClause 45 = .ok (.iconst 2, 1) := by decide +kernel
theorem dX9_readClause_46 : decode cX9_readClause 46 = .ok (.iconst 0, 1) := by decide +kernel
theorem dX9_readClause_47 : decode cX9_readClause 47 = .ok (.iastore, 1) := by decide +kernel
theorem dX9_readClause_48 : decode cX9_readClause 48 = .ok (.iconst 1, 1) := by decide +kernel
theorem dX9_readClause_49 : decode cX9_readClause 49 = .ok (.ireturn, 1) := by decide +kernel
theorem dX9_readClause_50 : decode cX9_readClause 50 = .ok (.iload_n 1, 1) := by decide +kernel
theorem dX9_readClause_51 : decode cX9_readClause 51 = .ok (.bipush 7, 2) := by decide +kernel
theorem dX9_readClause_53 : decode cX9_readClause 53 = .ok (.if_icmp .ge 18, 3) := by decide +kernel
theorem dX9_readClause_56 : decode cX9_readClause 56 = .ok (.aload_n 0, 1) := by decide +kernel
theorem dX9_readClause_57 : decode cX9_readClause 57 = .ok (.iload_n 1, 1) := by decide +kernel
theorem dX9_readClause_58 : decode cX9_readClause 58 = .ok (.iconst 5, 1) := by decide +kernel
theorem dX9_readClause_59 : decode cX9_readClause 59 = .ok (.if_icmp .ne 7, 3) := by decide +kernel
theorem dX9_readClause_62 : decode cX9_readClause 62 = .ok (.iconst 1, 1) := by decide +kernel
theorem dX9_readClause_63 : decode cX9_readClause 63 = .ok (.goto 4, 3) := by decide +kernel
theorem dX9_readClause_66 : decode cX9_readClause 66 = .ok (.iconst 0, 1) := by decide +kernel
theorem dX9_readClause_67 : decode cX9_readClause 67 = .ok (.invokevirtual 97, 3) := by decide +kernel
theorem dX9_readClause_70 : decode cX9_readClause 70 = .ok (.ireturn, 1) := by decide +kernel
theorem dX9_readClause_71 : decode cX9_readClause 71 = .ok (.iload_n 1, 1) := by decide +kernel
theorem dX9_readClause_72 : decode cX9_readClause 72 = .ok (.bipush 9, 2) := by decide +kernel
theorem dX9_readClause_74 : decode cX9_readClause 74 = .ok (.if_icmp .ne 12, 3) := by decide +kernel
theorem dX9_readClause_77 : decode cX9_readClause 77 = .ok (.aload_n 0, 1) := by decide +kernel
theorem dX9_readClause_78 : decode cX9_readClause 78 = .ok (.getfield 19, 3) := by decide +kernel
theorem dX9_readClause_81 : decode cX9_readClause 81 = .ok (.iconst 2, 1) := by decide +kernel
theorem dX9_readClause_82 : decode cX9_readClause 82 = .ok (.iconst 0, 1) := by decide +kernel
theorem dX9_readClause_83 : decode cX9_readClause 83 = .ok (.iastore, 1) := by decide +kernel
theorem dX9_readClause_84 : decode cX9_readClause 84 = .ok (.iconst 1, 1) := by decide +kernel
theorem dX9_readClause_85 : decode cX9_readClause 85 = .ok (.ireturn, 1) := by decide +kernel
theorem dX9_readClause_86 : decode cX9_readClause 86 = .ok (.iload_n 1, 1) := by decide +kernel
theorem dX9_readClause_87 : decode cX9_readClause 87 = .ok (.bipush 8, 2) := by decide +kernel
theorem dX9_readClause_89 : decode cX9_readClause 89 = .ok (.if_icmp .ne 16, 3) := by decide +kernel
theorem dX9_readClause_92 : decode cX9_readClause 92 = .ok (.aload_n 0, 1) := by decide +kernel
theorem dX9_readClause_93 : decode cX9_readClause 93 = .ok (.getfield 19, 3) := by decide +kernel
theorem dX9_readClause_96 : decode cX9_readClause 96 = .ok (.iconst 2, 1) := by decide +kernel
theorem dX9_readClause_97 : decode cX9_readClause 97 = .ok (.iaload, 1) := by decide +kernel
theorem dX9_readClause_98 : decode cX9_readClause 98 = .ok (.bipush 6, 2) := by decide +kernel
theorem dX9_readClause_100 : decode cX9_readClause 100 = .ok (.if_icmp .ne 5, 3) := by decide +kernel
theorem dX9_readClause_103 : decode cX9_readClause 103 = .ok (.iconst 0, 1) := by decide +kernel
theorem dX9_readClause_104 : decode cX9_readClause 104 = .ok (.ireturn, 1) := by decide +kernel
theorem dX9_readClause_105 : decode cX9_readClause 105 = .ok (.iload_n 1, 1) := by decide +kernel
theorem dX9_readClause_106 : decode cX9_readClause 106 = .ok (.bipush 7, 2) := by decide +kernel
theorem dX9_readClause_108 : decode cX9_readClause 108 = .ok (.if_icmp .ne 13, 3) := by decide +kernel
theorem dX9_readClause_111 : decode cX9_readClause 111 = .ok (.aload_n 0, 1) := by decide +kernel
theorem dX9_readClause_112 : decode cX9_readClause 112 = .ok (.iconst 1, 1) := by decide +kernel
theorem dX9_readClause_113 : decode cX9_readClause 113 = .ok (.bipush 20, 2) := by decide +kernel
theorem dX9_readClause_115 : decode cX9_readClause 115 = .ok (.invokevirtual 85, 3) := by decide +kernel
theorem dX9_readClause_118 : decode cX9_readClause 118 = .ok (.goto 10, 3) := by decide +kernel
theorem dX9_readClause_121 : decode cX9_readClause 121 = .ok (.aload_n 0, 1) := by decide +kernel
theorem dX9_readClause_122 : decode cX9_readClause 122 = .ok (.iconst 0, 1) := by decide +kernel
theorem dX9_readClause_123 : decode cX9_readClause 123 = .ok (.bipush 40, 2) := by decide +kernel
theorem dX9_readClause_125 : decode cX9_readClause 125 = .ok (.invokevirtual 85, 3) := by decide +kernel
theorem dX9_readClause_128 : decode cX9_readClause 128 = .ok (.istore_n 2, 1) := by decide +kernel
theorem dX9_readClause_129 : decode cX9_readClause 129 = .ok (.iload_n 2, 1) := by decide +kernel
theorem dX9_readClause_130 : decode cX9_readClause 130 = .ok (.ifCond .ge 5, 3) := by decide +kernel
theorem dX9_readClause_133 : decode cX9_readClause 133 = .ok (.iconst 0, 1) := by decide +kernel
theorem dX9_readClause_134 : decode cX9_readClause 134 = .ok (.ireturn, 1) := by decide +kernel
theorem dX9_readClause_135 : decode cX9_readClause 135 = .ok (.iload_n 1, 1) := by decide +kernel
theorem dX9_readClause_136 : decode cX9_readClause 136 = .ok (.bipush 7, 2) := by decide +kernel
theorem dX9_readClause_138 : decode cX9_readClause 138 = .ok (.if_icmp .ne 13, 3) := by decide +kernel
theorem dX9_readClause_141 : decode cX9_readClause 141 = .ok (.aload_n 0, 1) := by decide +kernel
theorem dX9_readClause_142 : decode cX9_readClause 142 = .ok (.getfield 19, 3) := by decide +kernel
theorem dX9_readClause_145 : decode cX9_readClause 145 = .ok (.iconst 1, 1) := by decide +kernel
theorem dX9_readClause_146 : decode cX9_readClause 146 = .ok (.iload_n 2, 1) := by decide +kernel
theorem dX9_readClause_147 : decode cX9_readClause 147 = .ok (.iastore, 1) := by decide +kernel
theorem dX9_readClause_148 : decode cX9_readClause 148 = .ok (.goto 28, 3) := by decide +kernel
theorem dX9_readClause_151 : decode cX9_readClause 151 = .ok (.aload_n 0, 1) := by decide +kernel
theorem dX9_readClause_152 : decode cX9_readClause 152 = .ok (.getfield 19, 3) := by decide +kernel
theorem dX9_readClause_155 : decode cX9_readClause 155 = .ok (.bipush 31, 2) := by decide +kernel
theorem dX9_readClause_157 : decode cX9_readClause 157 = .ok (.aload_n 0, 1) := by decide +kernel
theorem dX9_readClause_158 : decode cX9_readClause 158 = .ok (.getfield 19, 3) := by decide +kernel
theorem dX9_readClause_161 : decode cX9_readClause 161 = .ok (.iconst 2, 1) := by decide +kernel
theorem dX9_readClause_162 : decode cX9_readClause 162 = .ok (.iaload, 1) := by decide +kernel
theorem dX9_readClause_163 : decode cX9_readClause 163 = .ok (.iadd, 1) := by decide +kernel
theorem dX9_readClause_164 : decode cX9_readClause 164 = .ok (.iload_n 2, 1) := by decide +kernel
theorem dX9_readClause_165 : decode cX9_readClause 165 = .ok (.iastore, 1) := by decide +kernel
theorem dX9_readClause_166 : decode cX9_readClause 166 = .ok (.aload_n 0, 1) := by decide +kernel
theorem dX9_readClause_167 : decode cX9_readClause 167 = .ok (.getfield 19, 3) := by decide +kernel
theorem dX9_readClause_170 : decode cX9_readClause 170 = .ok (.iconst 2, 1) := by decide +kernel
theorem dX9_readClause_171 : decode cX9_readClause 171 = .ok (.dup2, 1) := by decide +kernel
theorem dX9_readClause_172 : decode cX9_readClause 172 = .ok (.iaload, 1) := by decide +kernel
theorem dX9_readClause_173 : decode cX9_readClause 173 = .ok (.iconst 1, 1) := by decide +kernel
theorem dX9_readClause_174 : decode cX9_readClause 174 = .ok (.iadd, 1) := by decide +kernel
theorem dX9_readClause_175 : decode cX9_readClause 175 = .ok (.iastore, 1) := by decide +kernel
theorem dX9_readClause_176 : decode cX9_readClause 176 = .ok (.iconst 1, 1) := by decide +kernel
theorem dX9_readClause_177 : decode cX9_readClause 177 = .ok (.ireturn, 1) := by decide +kernel
set_option maxRecDepth 20000 in
theorem ggX9_readText_X9_nextToken : GoodIn wsX9_readText wsX9_nextToken := goodIn_r _ [11, 1, 12, 6, 13, 5, 14, 15, 16, 17, 18, 19, 20, 21, 10, 22, 23, 24, 25, 54, 55, 56, 57, 58, 59, 60, 61, 62, 63, 64, 65, 66, 67, 68, 69, 70, 71, 72, 73, 74] (by decide +kernel) (by decide +kernel)
set_option maxRecDepth 20000 in
theorem gX9_readText_X9_nextToken : GoodIn wsX9_readText (wsV RX9 82 RX9 yX9_nextToken wsX9_nextToken) := goodIn_app (goodIn_of _ (by decide +kernel)) ggX9_readText_X9_nextToken
set_option maxRecDepth 20000 in
theorem ggX9_readText_X9_readClause : GoodIn wsX9_readText wsX9_readClause := goodIn_r _ [29, 3, 30, 31, 32, 10, 33, 34, 35, 36, 37, 12, 1, 38, 18, 14, 5, 39, 40, 41, 42, 43, 44, 45, 46, 47, 48, 49, 6, 7, 8, 9, 11, 13, 15, 16, 17, 19, 20, 21, 22, 23, 24, 25, 50, 51, 52, 53, 54, 55, 56, 57, 58, 59, 60, 61, 62, 63, 64, 65, 66, 67, 68, 69, 70, 71, 72, 73, 74] (by decide +kernel) (by decide +kernel)
set_option maxRecDepth 20000 in
theorem gX9_readText_X9_readClause : GoodIn wsX9_readText (wsV RX9 104 RX9 yX9_readClause wsX9_readClause) := goodIn_app (goodIn_of _ (by decide +kernel)) ggX9_readText_X9_readClause
theorem dX9_readText_0 : decode cX9_readText 0 = .ok (.aload_n 0, 1) := by decide +kernel
theorem dX9_readText_1 : decode cX9_readText 1 = .ok (.iconst 0, 1) := by decide +kernel
theorem dX9_readText_2 : decode cX9_readText 2 = .ok (.putfield 48, 3) := by decide +kernel
theorem dX9_readText_5 : decode cX9_readText 5 = .ok (.aload_n 0, 1) := by decide +kernel
theorem dX9_readText_6 : decode cX9_readText 6 = .ok (.iconst 0, 1) := by decide +kernel
theorem dX9_readText_7 : decode cX9_readText 7 = .ok (.putfield 101, 3) := by decide +kernel
theorem dX9_readText_10 : decode cX9_readText 10 = .ok (.iconst 0, 1) := by decide +kernel
theorem dX9_readText_11 : decode cX9_readText 11 = .ok (.istore_n 1, 1) := by decide +kernel
theorem dX9_readText_12 : decode cX9_readText 12 = .ok (.iload_n 1, 1) := by decide +kernel
theorem dX9_readText_13 : decode cX9_readText 13 = .ok (.bipush 36, 2) := by decide +kernel
theorem dX9_readText_15 : decode cX9_readText 15 = .ok (.if_icmp .gt 21, 3) := by decide +kernel
theorem dX9_readText_18 : decode cX9_readText 18 = .ok (.aload_n 0, 1) := by decide +kernel
theorem dX9_readText_19 : decode cX9_readText 19 = .ok (.getfield 19, 3) := by decide +kernel
theorem dX9_readText_22 : decode cX9_readText 22 = .ok (.iload_n 1, 1) := by decide +kernel
theorem dX9_readText_23 : decode cX9_readText 23 = .ok (.aload_n 0, 1) := by decide +kernel
theorem dX9_readText_24 : decode cX9_readText 24 = .ok (.getfield 7, 3) := by decide +kernel
theorem dX9_readText_27 : decode cX9_readText 27 = .ok (.iload_n 1, 1) := by decide +kernel
theorem dX9_readText_28 : decode cX9_readText 28 = .ok (.iaload, 1) := by decide +kernel
theorem dX9_readText_29 : decode cX9_readText 29 = .ok (.iastore, 1) := by decide +kernel
theorem dX9_readText_30 : decode cX9_readText 30 = .ok (.iinc 1 1, 3) := by decide +kernel
theorem dX9_readText_33 : decode cX9_readText 33 = .ok (.goto (-21), 3) := by decide +kernel
theorem dX9_readText_36 : decode cX9_readText 36 = .ok (.aload_n 0, 1) := by decide +kernel
theorem dX9_readText_37 : decode cX9_readText 37 = .ok (.invokevirtual 82, 3) := by decide +kernel
theorem dX9_readText_40 : decode cX9_readText 40 = .ok (.aload_n 0, 1) := by decide +kernel
theorem dX9_readText_41 : decode cX9_readText 41 = .ok (.invokevirtual 104, 3) := by decide +kernel
theorem dX9_readText_44 : decode cX9_readText 44 = .ok (.ifCond .ne 5, 3) := by decide +kernel
theorem dX9_readText_47 : decode cX9_readText 47 = .ok (.iconst 0, 1) := by decide +kernel
theorem dX9_readText_48 : decode cX9_readText 48 = .ok (.ireturn, 1) := by decide +kernel
theorem dX9_readText_49 : decode cX9_readText 49 = .ok (.aload_n 0, 1) := by decide +kernel
theorem dX9_readText_50 : decode cX9_readText 50 = .ok (.dup, 1) := by decide +kernel
theorem dX9_readText_51 : decode cX9_readText 51 = .ok (.getfield 101, 3) := by decide +kernel
theorem dX9_readText_54 : decode cX9_readText 54 = .ok (.iconst 1, 1) := by decide +kernel
theorem dX9_readText_55 : decode cX9_readText 55 = .ok (.iadd, 1) := by decide +kernel
theorem dX9_readText_56 : decode cX9_readText 56 = .ok (.putfield 101, 3) := by decide +kernel
theorem dX9_readText_59 : decode cX9_readText 59 = .ok (.aload_n 0, 1) := by decide +kernel
theorem dX9_readText_60 : decode cX9_readText 60 = .ok (.invokevirtual 82, 3) := by decide +kernel
theorem dX9_readText_63 : decode cX9_readText 63 = .ok (.aload_n 0, 1) := by decide +kernel
theorem dX9_readText_64 : decode cX9_readText 64 = .ok (.getfield 61, 3) := by decide +kernel
theorem dX9_readText_67 : decode cX9_readText 67 = .ok (.iconst 3, 1) := by decide +kernel
theorem dX9_readText_68 : decode cX9_readText 68 = .ok (.if_icmp .ne 5, 3) := by decide +kernel
theorem dX9_readText_71 : decode cX9_readText 71 = .ok (.iconst 1, 1) := by decide +kernel
theorem dX9_readText_72 : decode cX9_readText 72 = .ok (.ireturn, 1) := by decide +kernel
theorem dX9_readText_73 : decode cX9_readText 73 = .ok (.aload_n 0, 1) := by decide +kernel
theorem dX9_readText_74 : decode cX9_readText 74 = .ok (.getfield 61, 3) := by decide +kernel
theorem dX9_readText_77 : decode cX9_readText 77 = .ok (.ifCond .ne 21, 3) := by decide +kernel
theorem dX9_readText_80 : decode cX9_readText 80 = .ok (.aload_n 0, 1) := by decide +kernel
theorem dX9_readText_81 : decode cX9_readText 81 = .ok (.getfield 58, 3) := by decide +kernel
theorem dX9_readText_84 : decode cX9_readText 84 = .ok (.bipush 59, 2) := by decide +kernel
theorem dX9_readText_86 : decode cX9_readText 86 = .ok (.if_icmp .ne 12, 3) := by decide +kernel
theorem dX9_readText_89 : decode cX9_readText 89 = .ok (.aload_n 0, 1) := by decide +kernel
theorem dX9_readText_90 : decode cX9_readText 90 = .ok (.getfield 101, 3) := by decide +kernel
theorem dX9_readText_93 : decode cX9_readText 93 = .ok (.bipush 14, 2) := by decide +kernel
theorem dX9_readText_95 : decode cX9_readText 95 = .ok (.if_icmp .ne (-59), 3) := by decide +kernel
theorem dX9_readText_98 : decode cX9_readText 98 = .ok (.iconst 0, 1) := by decide +kernel
theorem dX9_readText_99 : decode cX9_readText 99 = .ok (.ireturn, 1) := by decide +kernel
set_option maxRecDepth 20000 in
theorem ggX9_fault_X9_readText : GoodIn wsX9_fault wsX9_readText := goodIn_r _ [6, 7, 8, 9, 10, 11, 12, 13, 14, 15, 5, 16, 1, 17, 18, 19, 20, 21, 22, 23, 24, 25, 26, 27, 28, 29, 30, 31, 32, 33, 34, 35, 36, 37, 38, 39, 40, 41, 42, 43, 44, 45, 46, 47, 48, 49, 50, 51, 52, 53, 54, 55, 56, 57, 58, 59, 60, 61, 62, 63, 64, 65, 66, 67, 68, 69, 70, 71, 72, 73, 74, 75, 76, 77, 78] (by decide +kernel) (by decide +kernel)
set_option maxRecDepth 20000 in
theorem gX9_fault_X9_readText : GoodIn wsX9_fault (wsV RX9 108 RX9 yX9_readText wsX9_readText) := goodIn_app (goodIn_of _ (by decide +kernel)) ggX9_fault_X9_readText
theorem dX9_fault_0 : decode cX9_fault 0 = .ok (.aload_n 0, 1) := by decide +kernel
theorem dX9_fault_1 : decode cX9_fault 1 = .ok (.invokevirtual 108, 3) := by decide +kernel
theorem dX9_fault_4 : decode cX9_fault 4 = .ok (.ifCond .eq 7, 3) := by decide +kernel
theorem dX9_fault_7 : decode cX9_fault 7 = .ok (.iconst (-1), 1) := by decide +kernel
theorem dX9_fault_8 : decode cX9_fault 8 = .ok (.goto 7, 3) := by decide +kernel
theorem dX9_fault_11 : decode cX9_fault 11 = .ok (.aload_n 0, 1) := by decide +kernel
theorem dX9_fault_12 : decode cX9_fault 12 = .ok (.getfield 55, 3) := by decide +kernel
theorem dX9_fault_15 : decode cX9_fault 15 = .ok (.ireturn, 1) := by decide +kernel
set_option maxRecDepth 20000 in
theorem ggX9_coat_X9_readText : GoodIn wsX9_coat wsX9_readText := goodIn_r _ [13, 14, 8, 3, 2, 15, 16, 17, 18, 19, 12, 20, 21, 1, 22, 23, 24, 25, 26, 27, 28, 29, 30, 31, 32, 33, 34, 35, 36, 37, 38, 39, 40, 41, 42, 43, 44, 45, 46, 47, 48, 49, 50, 51, 52, 53, 54, 55, 56, 57, 58, 59, 60, 61, 62, 63, 64, 65, 66, 67, 68, 69, 70, 71, 72, 73, 74, 75, 76, 77, 78, 79, 80, 81, 82] (by decide +kernel) (by decide +kernel)
set_option maxRecDepth 20000 in
theorem gX9_coat_X9_readText : GoodIn wsX9_coat (wsV RX9 108 RX9 yX9_readText wsX9_readText) := goodIn_app (goodIn_of _ (by decide +kernel)) ggX9_coat_X9_readText
theorem dX9_coat_0 : decode cX9_coat 0 = .ok (.aload_n 0, 1) := by decide +kernel
theorem dX9_coat_1 : decode cX9_coat 1 = .ok (.invokevirtual 108, 3) := by decide +kernel
theorem dX9_coat_4 : decode cX9_coat 4 = .ok (.ifCond .ne 6, 3) := by decide +kernel
theorem dX9_coat_7 : decode cX9_coat 7 = .ok (.bipush (-4), 2) := by decide +kernel
theorem dX9_coat_9 : decode cX9_coat 9 = .ok (.ireturn, 1) := by decide +kernel
theorem dX9_coat_10 : decode cX9_coat 10 = .ok (.aload_n 0, 1) := by decide +kernel
theorem dX9_coat_11 : decode cX9_coat 11 = .ok (.iconst 0, 1) := by decide +kernel
theorem dX9_coat_12 : decode cX9_coat 12 = .ok (.putfield 44, 3) := by decide +kernel
theorem dX9_coat_15 : decode cX9_coat 15 = .ok (.iconst 0, 1) := by decide +kernel
theorem dX9_coat_16 : decode cX9_coat 16 = .ok (.istore_n 1, 1) := by decide +kernel
theorem dX9_coat_17 : decode cX9_coat 17 = .ok (.iload_n 1, 1) := by decide +kernel
theorem dX9_coat_18 : decode cX9_coat 18 = .ok (.bipush 36, 2) := by decide +kernel
theorem dX9_coat_20 : decode cX9_coat 20 = .ok (.if_icmp .gt 21, 3) := by decide +kernel
theorem dX9_coat_23 : decode cX9_coat 23 = .ok (.aload_n 0, 1) := by decide +kernel
theorem dX9_coat_24 : decode cX9_coat 24 = .ok (.getfield 7, 3) := by decide +kernel
theorem dX9_coat_27 : decode cX9_coat 27 = .ok (.iload_n 1, 1) := by decide +kernel
theorem dX9_coat_28 : decode cX9_coat 28 = .ok (.aload_n 0, 1) := by decide +kernel
theorem dX9_coat_29 : decode cX9_coat 29 = .ok (.getfield 19, 3) := by decide +kernel
theorem dX9_coat_32 : decode cX9_coat 32 = .ok (.iload_n 1, 1) := by decide +kernel
theorem dX9_coat_33 : decode cX9_coat 33 = .ok (.iaload, 1) := by decide +kernel
theorem dX9_coat_34 : decode cX9_coat 34 = .ok (.iastore, 1) := by decide +kernel
theorem dX9_coat_35 : decode cX9_coat 35 = .ok (.iinc 1 1, 3) := by decide +kernel
theorem dX9_coat_38 : decode cX9_coat 38 = .ok (.goto (-21), 3) := by decide +kernel
theorem dX9_coat_41 : decode cX9_coat 41 = .ok (.iconst 0, 1) := by decide +kernel
theorem dX9_coat_42 : decode cX9_coat 42 = .ok (.istore_n 1, 1) := by decide +kernel
theorem dX9_coat_43 : decode cX9_coat 43 = .ok (.iload_n 1, 1) := by decide +kernel
theorem dX9_coat_44 : decode cX9_coat 44 = .ok (.bipush 7, 2) := by decide +kernel
theorem dX9_coat_46 : decode cX9_coat 46 = .ok (.if_icmp .ge 67, 3) := by decide +kernel
theorem dX9_coat_49 : decode cX9_coat 49 = .ok (.iload_n 1, 1) := by decide +kernel
theorem dX9_coat_50 : decode cX9_coat 50 = .ok (.aload_n 0, 1) := by decide +kernel
theorem dX9_coat_51 : decode cX9_coat 51 = .ok (.getfield 7, 3) := by decide +kernel
theorem dX9_coat_54 : decode cX9_coat 54 = .ok (.iconst 0, 1) := by decide +kernel
theorem dX9_coat_55 : decode cX9_coat 55 = .ok (.iaload, 1) := by decide +kernel
theorem dX9_coat_56 : decode cX9_coat 56 = .ok (.if_icmp .ge 7, 3) := by decide +kernel
theorem dX9_coat_59 : decode cX9_coat 59 = .ok (.iconst 1, 1) := by decide +kernel
theorem dX9_coat_60 : decode cX9_coat 60 = .ok (.goto 4, 3) := by decide +kernel
theorem dX9_coat_63 : decode cX9_coat 63 = .ok (.iconst 0, 1) := by decide +kernel
theorem dX9_coat_64 : decode cX9_coat 64 = .ok (.istore_n 2, 1) := by decide +kernel
theorem dX9_coat_65 : decode cX9_coat 65 = .ok (.aload_n 0, 1) := by decide +kernel
theorem dX9_coat_66 : decode cX9_coat 66 = .ok (.getfield 13, 3) := by decide +kernel
theorem dX9_coat_69 : decode cX9_coat 69 = .ok (.iload_n 1, 1) := by decide +kernel
theorem dX9_coat_70 : decode cX9_coat 70 = .ok (.iload_n 2, 1) := by decide +kernel
theorem dX9_coat_71 : decode cX9_coat 71 = .ok (.ifCond .eq 8, 3) := by decide +kernel
theorem dX9_coat_74 : decode cX9_coat 74 = .ok (.bipush 20, 2) := by decide +kernel
theorem dX9_coat_76 : decode cX9_coat 76 = .ok (.goto 4, 3) := by decide +kernel
theorem dX9_coat_79 : decode cX9_coat 79 = .ok (.iconst 0, 1) := by decide +kernel
theorem dX9_coat_80 : decode cX9_coat 80 = .ok (.iastore, 1) := by decide +kernel
theorem dX9_coat_81 : decode cX9_coat 81 = .ok (.aload_n 0, 1) := by decide +kernel
theorem dX9_coat_82 : decode cX9_coat 82 = .ok (.getfield 13, 3) := by decide +kernel
theorem dX9_coat_85 : decode cX9_coat 85 = .ok (.bipush 7, 2) := by decide +kernel
theorem dX9_coat_87 : decode cX9_coat 87 = .ok (.iload_n 1, 1) := by decide +kernel
theorem dX9_coat_88 : decode cX9_coat 88 = .ok (.iadd, 1) := by decide +kernel
theorem dX9_coat_89 : decode cX9_coat 89 = .ok (.iload_n 2, 1) := by decide +kernel
theorem dX9_coat_90 : decode cX9_coat 90 = .ok (.ifCond .eq 15, 3) := by decide +kernel
theorem dX9_coat_93 : decode cX9_coat 93 = .ok (.aload_n 0, 1) := by decide +kernel
theorem dX9_coat_94 : decode cX9_coat 94 = .ok (.getfield 7, 3) := by decide +kernel
theorem dX9_coat_97 : decode cX9_coat 97 = .ok (.bipush 24, 2) := by decide +kernel
theorem dX9_coat_99 : decode cX9_coat 99 = .ok (.iload_n 1, 1) := by decide +kernel
theorem dX9_coat_100 : decode cX9_coat 100 = .ok (.iadd, 1) := by decide +kernel
theorem dX9_coat_101 : decode cX9_coat 101 = .ok (.iaload, 1) := by decide +kernel
theorem dX9_coat_102 : decode cX9_coat 102 = .ok (.goto 4, 3) := by decide +kernel
theorem dX9_coat_105 : decode cX9_coat 105 = .ok (.iconst 0, 1) := by decide +kernel
theorem dX9_coat_106 : decode cX9_coat 106 = .ok (.iastore, 1) := by decide +kernel
theorem dX9_coat_107 : decode cX9_coat 107 = .ok (.iinc 1 1, 3) := by decide +kernel
theorem dX9_coat_110 : decode cX9_coat 110 = .ok (.goto (-67), 3) := by decide +kernel
theorem dX9_coat_113 : decode cX9_coat 113 = .ok (.aload_n 0, 1) := by decide +kernel
theorem dX9_coat_114 : decode cX9_coat 114 = .ok (.getfield 13, 3) := by decide +kernel
theorem dX9_coat_117 : decode cX9_coat 117 = .ok (.bipush 14, 2) := by decide +kernel
theorem dX9_coat_119 : decode cX9_coat 119 = .ok (.iconst 0, 1) := by decide +kernel
theorem dX9_coat_120 : decode cX9_coat 120 = .ok (.iastore, 1) := by decide +kernel
theorem dX9_coat_121 : decode cX9_coat 121 = .ok (.aload_n 0, 1) := by decide +kernel
theorem dX9_coat_122 : decode cX9_coat 122 = .ok (.iconst 0, 1) := by decide +kernel
theorem dX9_coat_123 : decode cX9_coat 123 = .ok (.putfield 111, 3) := by decide +kernel
theorem dX9_coat_126 : decode cX9_coat 126 = .ok (.aload_n 0, 1) := by decide +kernel
theorem dX9_coat_127 : decode cX9_coat 127 = .ok (.iconst 0, 1) := by decide +kernel
theorem dX9_coat_128 : decode cX9_coat 128 = .ok (.putfield 114, 3) := by decide +kernel
theorem dX9_coat_131 : decode cX9_coat 131 = .ok (.aload_n 0, 1) := by decide +kernel
theorem dX9_coat_132 : decode cX9_coat 132 = .ok (.getfield 25, 3) := by decide +kernel
theorem dX9_coat_135 : decode cX9_coat 135 = .ok (.iconst 0, 1) := by decide +kernel
theorem dX9_coat_136 : decode cX9_coat 136 = .ok (.iconst 0, 1) := by decide +kernel
theorem dX9_coat_137 : decode cX9_coat 137 = .ok (.bastore, 1) := by decide +kernel
theorem dX9_coat_138 : decode cX9_coat 138 = .ok (.aload_n 0, 1) := by decide +kernel
theorem dX9_coat_139 : decode cX9_coat 139 = .ok (.getfield 25, 3) := by decide +kernel
theorem dX9_coat_142 : decode cX9_coat 142 = .ok (.iconst 1, 1) := by decide +kernel
theorem dX9_coat_143 : decode cX9_coat 143 = .ok (.iconst 0, 1) := by decide +kernel
theorem dX9_coat_144 : decode cX9_coat 144 = .ok (.bastore, 1) := by decide +kernel
theorem dX9_coat_145 : decode cX9_coat 145 = .ok (.aload_n 0, 1) := by decide +kernel
theorem dX9_coat_146 : decode cX9_coat 146 = .ok (.getfield 101, 3) := by decide +kernel
theorem dX9_coat_149 : decode cX9_coat 149 = .ok (.ireturn, 1) := by decide +kernel
theorem dX9_isFrozen_0 : decode cX9_isFrozen 0 = .ok (.aload_n 0, 1) := by decide +kernel
theorem dX9_isFrozen_1 : decode cX9_isFrozen 1 = .ok (.getfield 13, 3) := by decide +kernel
theorem dX9_isFrozen_4 : decode cX9_isFrozen 4 = .ok (.iload_n 1, 1) := by decide +kernel
theorem dX9_isFrozen_5 : decode cX9_isFrozen 5 = .ok (.iaload, 1) := by decide +kernel
theorem dX9_isFrozen_6 : decode cX9_isFrozen 6 = .ok (.ifCond .ne 7, 3) := by decide +kernel
theorem dX9_isFrozen_9 : decode cX9_isFrozen 9 = .ok (.iconst 1, 1) := by decide +kernel
theorem dX9_isFrozen_10 : decode cX9_isFrozen 10 = .ok (.goto 4, 3) := by decide +kernel
theorem dX9_isFrozen_13 : decode cX9_isFrozen 13 = .ok (.iconst 0, 1) := by decide +kernel
theorem dX9_isFrozen_14 : decode cX9_isFrozen 14 = .ok (.ireturn, 1) := by decide +kernel
set_option maxRecDepth 20000 in
theorem ggX9_frozen_X9_isFrozen : GoodIn wsX9_frozen wsX9_isFrozen := goodIn_r _ [6, 7, 8, 9, 10, 11, 12, 13, 14, 15, 16, 17, 18, 19, 20, 21, 22, 23, 24, 25, 26, 27, 28] (by decide +kernel) (by decide +kernel)
set_option maxRecDepth 20000 in
theorem gX9_frozen_X9_isFrozen : GoodIn wsX9_frozen (wsV RX9 117 RX9 yX9_isFrozen wsX9_isFrozen) := goodIn_app (goodIn_of _ (by decide +kernel)) ggX9_frozen_X9_isFrozen
theorem dX9_frozen_0 : decode cX9_frozen 0 = .ok (.iconst 0, 1) := by decide +kernel
theorem dX9_frozen_1 : decode cX9_frozen 1 = .ok (.istore_n 1, 1) := by decide +kernel
theorem dX9_frozen_2 : decode cX9_frozen 2 = .ok (.iconst 0, 1) := by decide +kernel
theorem dX9_frozen_3 : decode cX9_frozen 3 = .ok (.istore_n 2, 1) := by decide +kernel
theorem dX9_frozen_4 : decode cX9_frozen 4 = .ok (.iload_n 2, 1) := by decide +kernel
theorem dX9_frozen_5 : decode cX9_frozen 5 = .ok (.aload_n 0, 1) := by decide +kernel
theorem dX9_frozen_6 : decode cX9_frozen 6 = .ok (.getfield 7, 3) := by decide +kernel
theorem dX9_frozen_9 : decode cX9_frozen 9 = .ok (.iconst 0, 1) := by decide +kernel
theorem dX9_frozen_10 : decode cX9_frozen 10 = .ok (.iaload, 1) := by decide +kernel
theorem dX9_frozen_11 : decode cX9_frozen 11 = .ok (.if_icmp .ge 27, 3) := by decide +kernel
theorem dX9_frozen_14 : decode cX9_frozen 14 = .ok (.iload_n 1, 1) := by decide +kernel
theorem dX9_frozen_15 : decode cX9_frozen 15 = .ok (.aload_n 0, 1) := by decide +kernel
theorem dX9_frozen_16 : decode cX9_frozen 16 = .ok (.iload_n 2, 1) := by decide +kernel
theorem dX9_frozen_17 : decode cX9_frozen 17 = .ok (.invokevirtual 117, 3) := by decide +kernel
theorem dX9_frozen_20 : decode cX9_frozen 20 = .ok (.ifCond .eq 9, 3) := by decide +kernel
theorem dX9_frozen_23 : decode cX9_frozen 23 = .ok (.iconst 1, 1) := by decide +kernel
theorem dX9_frozen_24 : decode cX9_frozen 24 = .ok (.iload_n 2, 1) := by decide +kernel
theorem dX9_frozen_25 : decode cX9_frozen 25 = .ok (.ishl, 1) := by decide +kernel
theorem dX9_frozen_26 : decode cX9_frozen 26 = .ok (.goto 4, 3) := by decide +kernel
theorem dX9_frozen_29 : decode cX9_frozen 29 = .ok (.iconst 0, 1) := by decide +kernel
theorem dX9_frozen_30 : decode cX9_frozen 30 = .ok (.ior, 1) := by decide +kernel
theorem dX9_frozen_31 : decode cX9_frozen 31 = .ok (.istore_n 1, 1) := by decide +kernel
theorem dX9_frozen_32 : decode cX9_frozen 32 = .ok (.iinc 2 1, 3) := by decide +kernel
theorem dX9_frozen_35 : decode cX9_frozen 35 = .ok (.goto (-31), 3) := by decide +kernel
theorem dX9_frozen_38 : decode cX9_frozen 38 = .ok (.iload_n 1, 1) := by decide +kernel
theorem dX9_frozen_39 : decode cX9_frozen 39 = .ok (.ireturn, 1) := by decide +kernel
set_option maxRecDepth 20000 in
theorem ggX9_alive_X9_frozen : GoodIn wsX9_alive wsX9_frozen := goodIn_r _ [6, 1, 7, 8, 9, 5, 10, 11, 12, 13, 14, 15, 16, 17, 18, 19, 20, 21, 22, 23, 24, 25, 26, 27, 28, 29, 30, 31, 32] (by decide +kernel) (by decide +kernel)
set_option maxRecDepth 20000 in
theorem gX9_alive_X9_frozen : GoodIn wsX9_alive (wsV RX9 120 RX9 yX9_frozen wsX9_frozen) := goodIn_app (goodIn_of _ (by decide +kernel)) ggX9_alive_X9_frozen
theorem dX9_alive_0 : decode cX9_alive 0 = .ok (.iconst 1, 1) := by decide +kernel
theorem dX9_alive_1 : decode cX9_alive 1 = .ok (.aload_n 0, 1) := by decide +kernel
theorem dX9_alive_2 : decode cX9_alive 2 = .ok (.getfield 7, 3) := by decide +kernel
theorem dX9_alive_5 : decode cX9_alive 5 = .ok (.iconst 0, 1) := by decide +kernel
theorem dX9_alive_6 : decode cX9_alive 6 = .ok (.iaload, 1) := by decide +kernel
theorem dX9_alive_7 : decode cX9_alive 7 = .ok (.ishl, 1) := by decide +kernel
theorem dX9_alive_8 : decode cX9_alive 8 = .ok (.iconst 1, 1) := by decide +kernel
theorem dX9_alive_9 : decode cX9_alive 9 = .ok (.isub, 1) := by decide +kernel
theorem dX9_alive_10 : decode cX9_alive 10 = .ok (.aload_n 0, 1) := by decide +kernel
theorem dX9_alive_11 : decode cX9_alive 11 = .ok (.invokevirtual 120, 3) := by decide +kernel
theorem dX9_alive_14 : decode cX9_alive 14 = .ok (.iconst (-1), 1) := by decide +kernel
theorem dX9_alive_15 : decode cX9_alive 15 = .ok (.ixor, 1) := by decide +kernel
theorem dX9_alive_16 : decode cX9_alive 16 = .ok (.iand, 1) := by decide +kernel
theorem dX9_alive_17 : decode cX9_alive 17 = .ok (.ireturn, 1) := by decide +kernel
theorem dX9_coldNow_0 : decode cX9_coldNow 0 = .ok (.aload_n 0, 1) := by decide +kernel
theorem dX9_coldNow_1 : decode cX9_coldNow 1 = .ok (.getfield 7, 3) := by decide +kernel
theorem dX9_coldNow_4 : decode cX9_coldNow 4 = .ok (.iconst 2, 1) := by decide +kernel
theorem dX9_coldNow_5 : decode cX9_coldNow 5 = .ok (.iaload, 1) := by decide +kernel
theorem dX9_coldNow_6 : decode cX9_coldNow 6 = .ok (.ifCond .ne 7, 3) := by decide +kernel
theorem dX9_coldNow_9 : decode cX9_coldNow 9 = .ok (.iconst 5, 1) := by decide +kernel
theorem dX9_coldNow_10 : decode cX9_coldNow 10 = .ok (.goto 25, 3) := by decide +kernel
theorem dX9_coldNow_13 : decode cX9_coldNow 13 = .ok (.aload_n 0, 1) := by decide +kernel
theorem dX9_coldNow_14 : decode cX9_coldNow 14 = .ok (.getfield 7, 3) := by decide +kernel
theorem dX9_coldNow_17 : decode cX9_coldNow 17 = .ok (.bipush 31, 2) := by decide +kernel
theorem dX9_coldNow_19 : decode cX9_coldNow 19 = .ok (.aload_n 0, 1) := by decide +kernel
theorem dX9_coldNow_20 : decode cX9_coldNow 20 = .ok (.getfield 13, 3) := by decide +kernel
theorem dX9_coldNow_23 : decode cX9_coldNow 23 = .ok (.bipush 14, 2) := by decide +kernel
theorem dX9_coldNow_25 : decode cX9_coldNow 25 = .ok (.iaload, 1) := by decide +kernel
theorem dX9_coldNow_26 : decode cX9_coldNow 26 = .ok (.aload_n 0, 1) := by decide +kernel
theorem dX9_coldNow_27 : decode cX9_coldNow 27 = .ok (.getfield 7, 3) := by decide +kernel
theorem dX9_coldNow_30 : decode cX9_coldNow 30 = .ok (.iconst 2, 1) := by decide +kernel
theorem dX9_coldNow_31 : decode cX9_coldNow 31 = .ok (.iaload, 1) := by decide +kernel
theorem dX9_coldNow_32 : decode cX9_coldNow 32 = .ok (.irem, 1) := by decide +kernel
theorem dX9_coldNow_33 : decode cX9_coldNow 33 = .ok (.iadd, 1) := by decide +kernel
theorem dX9_coldNow_34 : decode cX9_coldNow 34 = .ok (.iaload, 1) := by decide +kernel
theorem dX9_coldNow_35 : decode cX9_coldNow 35 = .ok (.ireturn, 1) := by decide +kernel
set_option maxRecDepth 20000 in
theorem ggX9_warmBy_X9_has : GoodIn wsX9_warmBy wsX9_has := goodIn_r _ [5] (by decide +kernel) (by decide +kernel)
set_option maxRecDepth 20000 in
theorem gX9_warmBy_X9_has : GoodIn wsX9_warmBy (va_wsS RX9 123 yX9_has wsX9_has) := goodIn_app (goodIn_of _ (by decide +kernel)) ggX9_warmBy_X9_has
theorem dX9_warmBy_0 : decode cX9_warmBy 0 = .ok (.iconst 0, 1) := by decide +kernel
theorem dX9_warmBy_1 : decode cX9_warmBy 1 = .ok (.istore_n 2, 1) := by decide +kernel
theorem dX9_warmBy_2 : decode cX9_warmBy 2 = .ok (.iconst 0, 1) := by decide +kernel
theorem dX9_warmBy_3 : decode cX9_warmBy 3 = .ok (.istore_n 3, 1) := by decide +kernel
theorem dX9_warmBy_4 : decode cX9_warmBy 4 = .ok (.iload_n 3, 1) := by decide +kernel
theorem dX9_warmBy_5 : decode cX9_warmBy 5 = .ok (.aload_n 0, 1) := by decide +kernel
theorem dX9_warmBy_6 : decode cX9_warmBy 6 = .ok (.getfield 7, 3) := by decide +kernel
theorem dX9_warmBy_9 : decode cX9_warmBy 9 = .ok (.iconst 0, 1) := by decide +kernel
theorem dX9_warmBy_10 : decode cX9_warmBy 10 = .ok (.iaload, 1) := by decide +kernel
theorem dX9_warmBy_11 : decode cX9_warmBy 11 = .ok (.if_icmp .ge 83, 3) := by decide +kernel
theorem dX9_warmBy_14 : decode cX9_warmBy 14 = .ok (.iload_n 1, 1) := by decide +kernel
theorem dX9_warmBy_15 : decode cX9_warmBy 15 = .ok (.iload_n 3, 1) := by decide +kernel
theorem dX9_warmBy_16 : decode cX9_warmBy 16 = .ok (.iconst 1, 1) := by decide +kernel
theorem dX9_warmBy_17 : decode cX9_warmBy 17 = .ok (.iadd, 1) := by decide +kernel
theorem dX9_warmBy_18 : decode cX9_warmBy 18 = .ok (.invokestatic 123, 3) := by decide +kernel
theorem dX9_warmBy_21 : decode cX9_warmBy 21 = .ok (.ifCond .ne 17, 3) := by decide +kernel
theorem dX9_warmBy_24 : decode cX9_warmBy 24 = .ok (.iload_n 3, 1) := by decide +kernel
theorem dX9_warmBy_25 : decode cX9_warmBy 25 = .ok (.ifCond .le 17, 3) := by decide +kernel
theorem dX9_warmBy_28 : decode cX9_warmBy 28 = .ok (.iload_n 1, 1) := by decide +kernel
theorem dX9_warmBy_29 : decode cX9_warmBy 29 = .ok (.iload_n 3, 1) := by decide +kernel
theorem dX9_warmBy_30 : decode cX9_warmBy 30 = .ok (.iconst 1, 1) := by decide +kernel
theorem dX9_warmBy_31 : decode cX9_warmBy 31 = .ok (.isub, 1) := by decide +kernel
theorem dX9_warmBy_32 : decode cX9_warmBy 32 = .ok (.invokestatic 123, 3) := by decide +kernel
theorem dX9_warmBy_35 : decode cX9_warmBy 35 = .ok (.ifCond .eq 7, 3) := by decide +kernel
theorem dX9_warmBy_38 : decode cX9_warmBy 38 = .ok (.iconst 1, 1) := by decide +kernel
theorem dX9_warmBy_39 : decode cX9_warmBy 39 = .ok (.goto 4, 3) := by decide +kernel
theorem dX9_warmBy_42 : decode cX9_warmBy 42 = .ok (.iconst 0, 1) := by decide +kernel
theorem dX9_warmBy_43 : decode cX9_warmBy 43 = .ok (.istore 4, 2) := by decide +kernel
theorem dX9_warmBy_45 : decode cX9_warmBy 45 = .ok (.iload_n 2, 1) := by decide +kernel
theorem dX9_warmBy_46 : decode cX9_warmBy 46 = .ok (.iload_n 1, 1) := by decide +kernel
theorem dX9_warmBy_47 : decode cX9_warmBy 47 = .ok (.iload_n 3, 1) := by decide +kernel
theorem dX9_warmBy_48 : decode cX9_warmBy 48 = .ok (.invokestatic 123, 3) := by decide +kernel
theorem dX9_warmBy_51 : decode cX9_warmBy 51 = .ok (.ifCond .ne 7, 3) := by decide +kernel
theorem dX9_warmBy_54 : decode cX9_warmBy 54 = .ok (.iconst 0, 1) := by decide +kernel
theorem dX9_warmBy_55 : decode cX9_warmBy 55 = .ok (.goto 31, 3) := by decide +kernel
theorem dX9_warmBy_58 : decode cX9_warmBy 58 = .ok (.iload 4, 2) := by decide +kernel
theorem dX9_warmBy_60 : decode cX9_warmBy 60 = .ok (.ifCond .eq 15, 3) := by decide +kernel
theorem dX9_warmBy_63 : decode cX9_warmBy 63 = .ok (.aload_n 0, 1) := by decide +kernel
theorem dX9_warmBy_64 : decode cX9_warmBy 64 = .ok (.getfield 7, 3) := by decide +kernel
theorem dX9_warmBy_67 : decode cX9_warmBy 67 = .ok (.bipush 10, 2) := by decide +kernel
theorem dX9_warmBy_69 : decode cX9_warmBy 69 = .ok (.iload_n 3, 1) := by decide +kernel
theorem dX9_warmBy_70 : decode cX9_warmBy 70 = .ok (.iadd, 1) := by decide +kernel
theorem dX9_warmBy_71 : decode cX9_warmBy 71 = .ok (.iaload, 1) := by decide +kernel
theorem dX9_warmBy_72 : decode cX9_warmBy 72 = .ok (.goto 14, 3) := by decide +kernel
theorem dX9_warmBy_75 : decode cX9_warmBy 75 = .ok (.aload_n 0, 1) := by decide +kernel
theorem dX9_warmBy_76 : decode cX9_warmBy 76 = .ok (.getfield 7, 3) := by decide +kernel
theorem dX9_warmBy_79 : decode cX9_warmBy 79 = .ok (.bipush 10, 2) := by decide +kernel
theorem dX9_warmBy_81 : decode cX9_warmBy 81 = .ok (.iload_n 3, 1) := by decide +kernel
theorem dX9_warmBy_82 : decode cX9_warmBy 82 = .ok (.iadd, 1) := by decide +kernel
theorem dX9_warmBy_83 : decode cX9_warmBy 83 = .ok (.iaload, 1) := by decide +kernel
theorem dX9_warmBy_84 : decode cX9_warmBy 84 = .ok (.iconst 2, 1) := by decide +kernel
theorem dX9_warmBy_85 : decode cX9_warmBy 85 = .ok (.idiv, 1) := by decide +kernel
theorem dX9_warmBy_86 : decode cX9_warmBy 86 = .ok (.iadd, 1) := by decide +kernel
theorem dX9_warmBy_87 : decode cX9_warmBy 87 = .ok (.istore_n 2, 1) := by decide +kernel
theorem dX9_warmBy_88 : decode cX9_warmBy 88 = .ok (.iinc 3 1, 3) := by decide +kernel
theorem dX9_warmBy_91 : decode cX9_warmBy 91 = .ok (.goto (-87), 3) := by decide +kernel
theorem dX9_warmBy_94 : decode cX9_warmBy 94 = .ok (.iload_n 2, 1) := by decide +kernel
theorem dX9_warmBy_95 : decode cX9_warmBy 95 = .ok (.ireturn, 1) := by decide +kernel
theorem dX9_weightBy_0 : decode cX9_weightBy 0 = .ok (.aload_n 0, 1) := by decide +kernel
theorem dX9_weightBy_1 : decode cX9_weightBy 1 = .ok (.getfield 7, 3) := by decide +kernel
theorem dX9_weightBy_4 : decode cX9_weightBy 4 = .ok (.iconst 3, 1) := by decide +kernel
theorem dX9_weightBy_5 : decode cX9_weightBy 5 = .ok (.iload_n 1, 1) := by decide +kernel
theorem dX9_weightBy_6 : decode cX9_weightBy 6 = .ok (.iadd, 1) := by decide +kernel
theorem dX9_weightBy_7 : decode cX9_weightBy 7 = .ok (.iaload, 1) := by decide +kernel
theorem dX9_weightBy_8 : decode cX9_weightBy 8 = .ok (.istore_n 3, 1) := by decide +kernel
theorem dX9_weightBy_9 : decode cX9_weightBy 9 = .ok (.iload_n 3, 1) := by decide +kernel
theorem dX9_weightBy_10 : decode cX9_weightBy 10 = .ok (.iconst 2, 1) := by decide +kernel
theorem dX9_weightBy_11 : decode cX9_weightBy 11 = .ok (.if_icmp .eq 12, 3) := by decide +kernel
theorem dX9_weightBy_14 : decode cX9_weightBy 14 = .ok (.iload_n 3, 1) := by decide +kernel
theorem dX9_weightBy_15 : decode cX9_weightBy 15 = .ok (.iconst 1, 1) := by decide +kernel
theorem dX9_weightBy_16 : decode cX9_weightBy 16 = .ok (.if_icmp .ne 11, 3) := by decide +kernel
theorem dX9_weightBy_19 : decode cX9_weightBy 19 = .ok (.iload_n 2, 1) := by decide +kernel
theorem dX9_weightBy_20 : decode cX9_weightBy 20 = .ok (.ifCond .eq 7, 3) := by decide +kernel
theorem dX9_weightBy_23 : decode cX9_weightBy 23 = .ok (.iconst 2, 1) := by decide +kernel
theorem dX9_weightBy_24 : decode cX9_weightBy 24 = .ok (.goto 17, 3) := by decide +kernel
theorem dX9_weightBy_27 : decode cX9_weightBy 27 = .ok (.iload_n 3, 1) := by decide +kernel
theorem dX9_weightBy_28 : decode cX9_weightBy 28 = .ok (.iconst 3, 1) := by decide +kernel
theorem dX9_weightBy_29 : decode cX9_weightBy 29 = .ok (.if_icmp .ne 11, 3) := by decide +kernel
theorem dX9_weightBy_32 : decode cX9_weightBy 32 = .ok (.iload_n 2, 1) := by decide +kernel
theorem dX9_weightBy_33 : decode cX9_weightBy 33 = .ok (.ifCond .eq 7, 3) := by decide +kernel
theorem dX9_weightBy_36 : decode cX9_weightBy 36 = .ok (.iconst 0, 1) := by decide +kernel
theorem dX9_weightBy_37 : decode cX9_weightBy 37 = .ok (.goto 4, 3) := by decide +kernel
theorem dX9_weightBy_40 : decode cX9_weightBy 40 = .ok (.iconst 1, 1) := by decide +kernel
theorem dX9_weightBy_41 : decode cX9_weightBy 41 = .ok (.ireturn, 1) := by decide +kernel
set_option maxRecDepth 20000 in
theorem ggX9_weightsBy_X9_has : GoodIn wsX9_weightsBy wsX9_has := goodIn_r _ [5] (by decide +kernel) (by decide +kernel)
set_option maxRecDepth 20000 in
theorem gX9_weightsBy_X9_has : GoodIn wsX9_weightsBy (va_wsS RX9 123 yX9_has wsX9_has) := goodIn_app (goodIn_of _ (by decide +kernel)) ggX9_weightsBy_X9_has
set_option maxRecDepth 20000 in
theorem ggX9_weightsBy_X9_weightBy : GoodIn wsX9_weightsBy wsX9_weightBy := goodIn_r _ [9, 1, 10, 11, 12, 13, 14, 15, 16, 17, 18, 19, 20, 21, 22, 23, 24, 25, 26, 27, 28, 29, 30] (by decide +kernel) (by decide +kernel)
set_option maxRecDepth 20000 in
theorem gX9_weightsBy_X9_weightBy : GoodIn wsX9_weightsBy (wsV RX9 127 RX9 yX9_weightBy wsX9_weightBy) := goodIn_app (goodIn_of _ (by decide +kernel)) ggX9_weightsBy_X9_weightBy
theorem dX9_weightsBy_0 : decode cX9_weightsBy 0 = .ok (.iconst 0, 1) := by decide +kernel
theorem dX9_weightsBy_1 : decode cX9_weightsBy 1 = .ok (.istore_n 3, 1) := by decide +kernel
theorem dX9_weightsBy_2 : decode cX9_weightsBy 2 = .ok (.iconst 0, 1) := by decide +kernel
theorem dX9_weightsBy_3 : decode cX9_weightsBy 3 = .ok (.istore 4, 2) := by decide +kernel
theorem dX9_weightsBy_5 : decode cX9_weightsBy 5 = .ok (.iload 4, 2) := by decide +kernel
theorem dX9_weightsBy_7 : decode cX9_weightsBy 7 = .ok (.aload_n 0, 1) := by decide +kernel
theorem dX9_weightsBy_8 : decode cX9_weightsBy 8 = .ok (.getfield 7, 3) := by decide +kernel
theorem dX9_weightsBy_11 : decode cX9_weightsBy 11 = .ok (.iconst 0, 1) := by decide +kernel
theorem dX9_weightsBy_12 : decode cX9_weightsBy 12 = .ok (.iaload, 1) := by decide +kernel
theorem dX9_weightsBy_13 : decode cX9_weightsBy 13 = .ok (.if_icmp .ge 32, 3) := by decide +kernel
theorem dX9_weightsBy_16 : decode cX9_weightsBy 16 = .ok (.iload_n 3, 1) := by decide +kernel
theorem dX9_weightsBy_17 : decode cX9_weightsBy 17 = .ok (.iload_n 1, 1) := by decide +kernel
theorem dX9_weightsBy_18 : decode cX9_weightsBy 18 = .ok (.iload 4, 2) := by decide +kernel
theorem dX9_weightsBy_20 : decode cX9_weightsBy 20 = .ok (.invokestatic 123, 3) := by decide +kernel
theorem dX9_weightsBy_23 : decode cX9_weightsBy 23 = .ok (.ifCond .eq 13, 3) := by decide +kernel
theorem dX9_weightsBy_26 : decode cX9_weightsBy 26 = .ok (.aload_n 0, 1) := by decide +kernel
theorem dX9_weightsBy_27 : decode cX9_weightsBy 27 = .ok (.iload 4, 2) := by decide +kernel
theorem dX9_weightsBy_29 : decode cX9_weightsBy 29 = .ok (.iload_n 2, 1) := by decide +kernel
theorem dX9_weightsBy_30 : decode cX9_weightsBy 30 = .ok (.invokevirtual 127, 3) := by decide +kernel
theorem dX9_weightsBy_33 : decode cX9_weightsBy 33 = .ok (.goto 4, 3) := by decide +kernel
theorem dX9_weightsBy_36 : decode cX9_weightsBy 36 = .ok (.iconst 0, 1) := by decide +kernel
theorem dX9_weightsBy_37 : decode cX9_weightsBy 37 = .ok (.iadd, 1) := by decide +kernel
theorem dX9_weightsBy_38 : decode cX9_weightsBy 38 = .ok (.istore_n 3, 1) := by decide +kernel
theorem dX9_weightsBy_39 : decode cX9_weightsBy 39 = .ok (.iinc 4 1, 3) := by decide +kernel
theorem dX9_weightsBy_42 : decode cX9_weightsBy 42 = .ok (.goto (-37), 3) := by decide +kernel
theorem dX9_weightsBy_45 : decode cX9_weightsBy 45 = .ok (.iload_n 3, 1) := by decide +kernel
theorem dX9_weightsBy_46 : decode cX9_weightsBy 46 = .ok (.ireturn, 1) := by decide +kernel
theorem dX9_isNight_0 : decode cX9_isNight 0 = .ok (.aload_n 0, 1) := by decide +kernel
theorem dX9_isNight_1 : decode cX9_isNight 1 = .ok (.getfield 13, 3) := by decide +kernel
theorem dX9_isNight_4 : decode cX9_isNight 4 = .ok (.bipush 14, 2) := by decide +kernel
theorem dX9_isNight_6 : decode cX9_isNight 6 = .ok (.iaload, 1) := by decide +kernel
theorem dX9_isNight_7 : decode cX9_isNight 7 = .ok (.iconst 2, 1) := by decide +kernel
theorem dX9_isNight_8 : decode cX9_isNight 8 = .ok (.irem, 1) := by decide +kernel
theorem dX9_isNight_9 : decode cX9_isNight 9 = .ok (.iconst 1, 1) := by decide +kernel
theorem dX9_isNight_10 : decode cX9_isNight 10 = .ok (.if_icmp .ne 7, 3) := by decide +kernel
theorem dX9_isNight_13 : decode cX9_isNight 13 = .ok (.iconst 1, 1) := by decide +kernel
theorem dX9_isNight_14 : decode cX9_isNight 14 = .ok (.goto 4, 3) := by decide +kernel
theorem dX9_isNight_17 : decode cX9_isNight 17 = .ok (.iconst 0, 1) := by decide +kernel
theorem dX9_isNight_18 : decode cX9_isNight 18 = .ok (.ireturn, 1) := by decide +kernel
set_option maxRecDepth 20000 in
theorem ggX9_weights_X9_isNight : GoodIn wsX9_weights wsX9_isNight := goodIn_r _ [5, 6, 19, 20, 21, 22, 23, 24, 25, 26, 27, 28, 29, 30, 31, 32, 33, 34, 35, 36, 37, 38, 39] (by decide +kernel) (by decide +kernel)
set_option maxRecDepth 20000 in
theorem gX9_weights_X9_isNight : GoodIn wsX9_weights (wsV RX9 131 RX9 yX9_isNight wsX9_isNight) := goodIn_app (goodIn_of _ (by decide +kernel)) ggX9_weights_X9_isNight
set_option maxRecDepth 20000 in
theorem ggX9_weights_X9_weightsBy : GoodIn wsX9_weights wsX9_weightsBy := goodIn_r _ [10, 11, 12, 13, 4, 14, 15, 16, 17, 18, 19, 20, 21, 22, 23, 24, 25, 26, 27, 28, 29, 30, 31, 32, 33, 34, 35, 36, 37, 38, 39] (by decide +kernel) (by decide +kernel)
set_option maxRecDepth 20000 in
theorem gX9_weights_X9_weightsBy : GoodIn wsX9_weights (wsV RX9 134 RX9 yX9_weightsBy wsX9_weightsBy) := goodIn_app (goodIn_of _ (by decide +kernel)) ggX9_weights_X9_weightsBy
theorem dX9_weights_0 : decode cX9_weights 0 = .ok (.aload_n 0, 1) := by decide +kernel
theorem dX9_weights_1 : decode cX9_weights 1 = .ok (.iload_n 1, 1) := by decide +kernel
theorem dX9_weights_2 : decode cX9_weights 2 = .ok (.aload_n 0, 1) := by decide +kernel
theorem dX9_weights_3 : decode cX9_weights 3 = .ok (.invokevirtual 131, 3) := by decide +kernel
theorem dX9_weights_6 : decode cX9_weights 6 = .ok (.invokevirtual 134, 3) := by decide +kernel
theorem dX9_weights_9 : decode cX9_weights 9 = .ok (.ireturn, 1) := by decide +kernel
set_option maxRecDepth 20000 in
theorem ggX9_favouring_X9_has : GoodIn wsX9_favouring wsX9_has := goodIn_r _ [6] (by decide +kernel) (by decide +kernel)
set_option maxRecDepth 20000 in
theorem gX9_favouring_X9_has : GoodIn wsX9_favouring (va_wsS RX9 123 yX9_has wsX9_has) := goodIn_app (goodIn_of _ (by decide +kernel)) ggX9_favouring_X9_has
theorem dX9_favouring_0 : decode cX9_favouring 0 = .ok (.iconst 0, 1) := by decide +kernel
theorem dX9_favouring_1 : decode cX9_favouring 1 = .ok (.istore_n 2, 1) := by decide +kernel
theorem dX9_favouring_2 : decode cX9_favouring 2 = .ok (.iconst 0, 1) := by decide +kernel
theorem dX9_favouring_3 : decode cX9_favouring 3 = .ok (.istore_n 3, 1) := by decide +kernel
theorem dX9_favouring_4 : decode cX9_favouring 4 = .ok (.iload_n 3, 1) := by decide +kernel
theorem dX9_favouring_5 : decode cX9_favouring 5 = .ok (.aload_n 0, 1) := by decide +kernel
theorem dX9_favouring_6 : decode cX9_favouring 6 = .ok (.getfield 7, 3) := by decide +kernel
theorem dX9_favouring_9 : decode cX9_favouring 9 = .ok (.iconst 0, 1) := by decide +kernel
theorem dX9_favouring_10 : decode cX9_favouring 10 = .ok (.iaload, 1) := by decide +kernel
theorem dX9_favouring_11 : decode cX9_favouring 11 = .ok (.if_icmp .ge 35, 3) := by decide +kernel
theorem dX9_favouring_14 : decode cX9_favouring 14 = .ok (.iload_n 2, 1) := by decide +kernel
theorem dX9_favouring_15 : decode cX9_favouring 15 = .ok (.aload_n 0, 1) := by decide +kernel
theorem dX9_favouring_16 : decode cX9_favouring 16 = .ok (.getfield 13, 3) := by decide +kernel
theorem dX9_favouring_19 : decode cX9_favouring 19 = .ok (.bipush 7, 2) := by decide +kernel
theorem dX9_favouring_21 : decode cX9_favouring 21 = .ok (.iload_n 3, 1) := by decide +kernel
theorem dX9_favouring_22 : decode cX9_favouring 22 = .ok (.iadd, 1) := by decide +kernel
theorem dX9_favouring_23 : decode cX9_favouring 23 = .ok (.iaload, 1) := by decide +kernel
theorem dX9_favouring_24 : decode cX9_favouring 24 = .ok (.iload_n 1, 1) := by decide +kernel
theorem dX9_favouring_25 : decode cX9_favouring 25 = .ok (.invokestatic 123, 3) := by decide +kernel
theorem dX9_favouring_28 : decode cX9_favouring 28 = .ok (.ifCond .eq 9, 3) := by decide +kernel
theorem dX9_favouring_31 : decode cX9_favouring 31 = .ok (.iconst 1, 1) := by decide +kernel
theorem dX9_favouring_32 : decode cX9_favouring 32 = .ok (.iload_n 3, 1) := by decide +kernel
theorem dX9_favouring_33 : decode cX9_favouring 33 = .ok (.ishl, 1) := by decide +kernel
theorem dX9_favouring_34 : decode cX9_favouring 34 = .ok (.goto 4, 3) := by decide +kernel
theorem dX9_favouring_37 : decode cX9_favouring 37 = .ok (.iconst 0, 1) := by decide +kernel
theorem dX9_favouring_38 : decode cX9_favouring 38 = .ok (.ior, 1) := by decide +kernel
theorem dX9_favouring_39 : decode cX9_favouring 39 = .ok (.istore_n 2, 1) := by decide +kernel
theorem dX9_favouring_40 : decode cX9_favouring 40 = .ok (.iinc 3 1, 3) := by decide +kernel
theorem dX9_favouring_43 : decode cX9_favouring 43 = .ok (.goto (-39), 3) := by decide +kernel
theorem dX9_favouring_46 : decode cX9_favouring 46 = .ok (.iload_n 2, 1) := by decide +kernel
theorem dX9_favouring_47 : decode cX9_favouring 47 = .ok (.ireturn, 1) := by decide +kernel
set_option maxRecDepth 20000 in
theorem ggX9_doneUp_X9_favouring : GoodIn wsX9_doneUp wsX9_favouring := goodIn_r _ [5, 6, 7, 8, 9, 4, 10, 23, 24, 25, 26, 27, 28, 29, 30, 31, 32, 33, 34, 35, 36, 37, 38, 39, 40, 41, 42, 43] (by decide +kernel) (by decide +kernel)
set_option maxRecDepth 20000 in
theorem gX9_doneUp_X9_favouring : GoodIn wsX9_doneUp (wsV RX9 137 RX9 yX9_favouring wsX9_favouring) := goodIn_app (goodIn_of _ (by decide +kernel)) ggX9_doneUp_X9_favouring
set_option maxRecDepth 20000 in
theorem ggX9_doneUp_X9_alive : GoodIn wsX9_doneUp wsX9_alive := goodIn_r _ [14, 6, 15, 16, 17, 4, 18, 19, 20, 21, 22, 7, 23, 24, 25, 26, 27, 28, 29, 30, 31, 32, 33, 34, 35, 36, 37, 38, 39, 40, 41, 42, 43] (by decide +kernel) (by decide +kernel)
set_option maxRecDepth 20000 in
theorem gX9_doneUp_X9_alive : GoodIn wsX9_doneUp (wsV RX9 140 RX9 yX9_alive wsX9_alive) := goodIn_app (goodIn_of _ (by decide +kernel)) ggX9_doneUp_X9_alive
theorem dX9_doneUp_0 : decode cX9_doneUp 0 = .ok (.aload_n 0, 1) := by decide +kernel
theorem dX9_doneUp_1 : decode cX9_doneUp 1 = .ok (.iload_n 1, 1) := by decide +kernel
theorem dX9_doneUp_2 : decode cX9_doneUp 2 = .ok (.invokevirtual 137, 3) := by decide +kernel
theorem dX9_doneUp_5 : decode cX9_doneUp 5 = .ok (.iconst 1, 1) := by decide +kernel
theorem dX9_doneUp_6 : decode cX9_doneUp 6 = .ok (.iload_n 1, 1) := by decide +kernel
theorem dX9_doneUp_7 : decode cX9_doneUp 7 = .ok (.ishl, 1) := by decide +kernel
theorem dX9_doneUp_8 : decode cX9_doneUp 8 = .ok (.ior, 1) := by decide +kernel
theorem dX9_doneUp_9 : decode cX9_doneUp 9 = .ok (.aload_n 0, 1) := by decide +kernel
theorem dX9_doneUp_10 : decode cX9_doneUp 10 = .ok (.invokevirtual 140, 3) := by decide +kernel
theorem dX9_doneUp_13 : decode cX9_doneUp 13 = .ok (.iand, 1) := by decide +kernel
theorem dX9_doneUp_14 : decode cX9_doneUp 14 = .ok (.ireturn, 1) := by decide +kernel
set_option maxRecDepth 20000 in
theorem ggX9_isCarried_X9_doneUp : GoodIn wsX9_isCarried wsX9_doneUp := goodIn_r _ [6, 7, 8, 9, 5, 10, 1, 11, 12, 13, 14, 15, 16, 17, 18, 19, 20, 21, 22, 23, 24, 25, 26, 43, 44, 45, 46, 47, 48, 49, 50, 51, 52, 53, 54, 55, 56, 57, 58, 59, 60, 61, 62, 63] (by decide +kernel) (by decide +kernel)
set_option maxRecDepth 20000 in
theorem gX9_isCarried_X9_doneUp : GoodIn wsX9_isCarried (wsV RX9 143 RX9 yX9_doneUp wsX9_doneUp) := goodIn_app (goodIn_of _ (by decide +kernel)) ggX9_isCarried_X9_doneUp
set_option maxRecDepth 20000 in
theorem ggX9_isCarried_X9_weights : GoodIn wsX9_isCarried wsX9_weights := goodIn_r _ [30, 31, 32, 33, 5, 34, 11, 35, 36, 37, 38, 1, 12, 13, 14, 39, 40, 41, 42, 43, 44, 45, 46, 47, 48, 49, 50, 51, 52, 53, 54, 55, 56, 57, 58, 59, 60, 61, 62, 63] (by decide +kernel) (by decide +kernel)
set_option maxRecDepth 20000 in
theorem gX9_isCarried_X9_weights : GoodIn wsX9_isCarried (wsV RX9 146 RX9 yX9_weights wsX9_weights) := goodIn_app (goodIn_of _ (by decide +kernel)) ggX9_isCarried_X9_weights
theorem dX9_isCarried_0 : decode cX9_isCarried 0 = .ok (.aload_n 0, 1) := by decide +kernel
theorem dX9_isCarried_1 : decode cX9_isCarried 1 = .ok (.aload_n 0, 1) := by decide +kernel
theorem dX9_isCarried_2 : decode cX9_isCarried 2 = .ok (.iload_n 1, 1) := by decide +kernel
theorem dX9_isCarried_3 : decode cX9_isCarried 3 = .ok (.invokevirtual 143, 3) := by decide +kernel
theorem dX9_isCarried_6 : decode cX9_isCarried 6 = .ok (.invokevirtual 146, 3) := by decide +kernel
theorem dX9_isCarried_9 : decode cX9_isCarried 9 = .ok (.aload_n 0, 1) := by decide +kernel
theorem dX9_isCarried_10 : decode cX9_isCarried 10 = .ok (.getfield 7, 3) := by decide +kernel
theorem dX9_isCarried_13 : decode cX9_isCarried 13 = .ok (.iconst 1, 1) := by decide +kernel
theorem dX9_isCarried_14 : decode cX9_isCarried 14 = .ok (.iaload, 1) := by decide +kernel
theorem dX9_isCarried_15 : decode cX9_isCarried 15 = .ok (.if_icmp .lt 7, 3) := by decide +kernel
theorem dX9_isCarried_18 : decode cX9_isCarried 18 = .ok (.iconst 1, 1) := by decide +kernel
theorem dX9_isCarried_19 : decode cX9_isCarried 19 = .ok (.goto 4, 3) := by decide +kernel
theorem dX9_isCarried_22 : decode cX9_isCarried 22 = .ok (.iconst 0, 1) := by decide +kernel
theorem dX9_isCarried_23 : decode cX9_isCarried 23 = .ok (.ireturn, 1) := by decide +kernel
set_option maxRecDepth 20000 in
theorem ggX9_family_X9_isFamily : GoodIn wsX9_family wsX9_isFamily := goodIn_r _ [7, 1, 8, 9, 6, 10, 42, 43, 44, 45, 46, 47, 48, 49, 50, 51, 52, 53, 54, 55, 56, 57, 58, 59, 60, 61, 62] (by decide +kernel) (by decide +kernel)
set_option maxRecDepth 20000 in
theorem gX9_family_X9_isFamily : GoodIn wsX9_family (wsV RX9 149 RX9 yX9_isFamily wsX9_isFamily) := goodIn_app (goodIn_of _ (by decide +kernel)) ggX9_family_X9_isFamily
set_option maxRecDepth 20000 in
theorem ggX9_family_X9_isFrozen : GoodIn wsX9_family wsX9_isFrozen := goodIn_r _ [14, 2, 42, 43, 44, 45, 46, 47, 48, 49, 50, 51, 52, 53, 54, 55, 56, 57, 58, 59, 60, 61, 62] (by decide +kernel) (by decide +kernel)
set_option maxRecDepth 20000 in
theorem gX9_family_X9_isFrozen : GoodIn wsX9_family (wsV RX9 117 RX9 yX9_isFrozen wsX9_isFrozen) := goodIn_app (goodIn_of _ (by decide +kernel)) ggX9_family_X9_isFrozen
set_option maxRecDepth 20000 in
theorem ggX9_family_X9_doneUp : GoodIn wsX9_family wsX9_doneUp := goodIn_r _ [18, 19, 20, 21, 6, 22, 1, 2, 23, 24, 25, 26, 27, 28, 29, 30, 31, 32, 33, 11, 12, 13, 14, 42, 43, 44, 45, 46, 47, 48, 49, 50, 51, 52, 53, 54, 55, 56, 57, 58, 59, 60, 61, 62] (by decide +kernel) (by decide +kernel)
set_option maxRecDepth 20000 in
theorem gX9_family_X9_doneUp : GoodIn wsX9_family (wsV RX9 143 RX9 yX9_doneUp wsX9_doneUp) := goodIn_app (goodIn_of _ (by decide +kernel)) ggX9_family_X9_doneUp
set_option maxRecDepth 20000 in
theorem ggX9_family_X9_isNight : GoodIn wsX9_family wsX9_isNight := goodIn_r _ [37, 2, 42, 43, 44, 45, 46, 47, 48, 49, 50, 51, 52, 53, 54, 55, 56, 57, 58, 59, 60, 61, 62] (by decide +kernel) (by decide +kernel)
set_option maxRecDepth 20000 in
theorem gX9_family_X9_isNight : GoodIn wsX9_family (wsV RX9 131 RX9 yX9_isNight wsX9_isNight) := goodIn_app (goodIn_of _ (by decide +kernel)) ggX9_family_X9_isNight
set_option maxRecDepth 20000 in
theorem ggX9_family_X9_weightBy : GoodIn wsX9_family wsX9_weightBy := goodIn_r _ [41, 1, 42, 43, 44, 45, 46, 47, 48, 49, 50, 51, 52, 53, 54, 55, 56, 57, 58, 59, 60, 61, 62] (by decide +kernel) (by decide +kernel)
set_option maxRecDepth 20000 in
theorem gX9_family_X9_weightBy : GoodIn wsX9_family (wsV RX9 127 RX9 yX9_weightBy wsX9_weightBy) := goodIn_app (goodIn_of _ (by decide +kernel)) ggX9_family_X9_weightBy
theorem dX9_family_0 : decode cX9_family 0 = .ok (.aload_n 0, 1) := by decide +kernel
theorem dX9_family_1 : decode cX9_family 1 = .ok (.iload_n 1, 1) := by decide +kernel
theorem dX9_family_2 : decode cX9_family 2 = .ok (.invokevirtual 149, 3) := by decide +kernel
theorem dX9_family_5 : decode cX9_family 5 = .ok (.ifCond .ne 6, 3) := by decide +kernel
theorem dX9_family_8 : decode cX9_family 8 = .ok (.bipush (-2), 2) := by decide +kernel
theorem dX9_family_10 : decode cX9_family 10 = .ok (.ireturn, 1) := by decide +kernel
theorem dX9_family_11 : decode cX9_family 11 = .ok (.iload_n 2, 1) := by decide +kernel
theorem dX9_family_12 : decode cX9_family 12 = .ok (.tableswitch 118 0 6 #[44, 53, 63, 73, 80, 90, 108], 44) := by decide +kernel
theorem dX9_family_56 : decode cX9_family 56 = .ok (.aload_n 0, 1) := by decide +kernel
theorem dX9_family_57 : decode cX9_family 57 = .ok (.getfield 7, 3) := by decide +kernel
theorem dX9_family_60 : decode cX9_family 60 = .ok (.iconst 3, 1) := by decide +kernel
theorem dX9_family_61 : decode cX9_family 61 = .ok (.iload_n 1, 1) := by decide +kernel
theorem dX9_family_62 : decode cX9_family 62 = .ok (.iadd, 1) := by decide +kernel
theorem dX9_family_63 : decode cX9_family 63 = .ok (.iaload, 1) := by decide +kernel
theorem dX9_family_64 : decode cX9_family 64 = .ok (.ireturn, 1) := by decide +kernel
theorem dX9_family_65 : decode cX9_family 65 = .ok (.aload_n 0, 1) := by decide +kernel
theorem dX9_family_66 : decode cX9_family 66 = .ok (.getfield 7, 3) := by decide +kernel
theorem dX9_family_69 : decode cX9_family 69 = .ok (.bipush 10, 2) := by decide +kernel
theorem dX9_family_71 : decode cX9_family 71 = .ok (.iload_n 1, 1) := by decide +kernel
theorem dX9_family_72 : decode cX9_family 72 = .ok (.iadd, 1) := by decide +kernel
theorem dX9_family_73 : decode cX9_family 73 = .ok (.iaload, 1) := by decide +kernel
theorem dX9_family_74 : decode cX9_family 74 = .ok (.ireturn, 1) := by decide +kernel
theorem dX9_family_75 : decode cX9_family 75 = .ok (.aload_n 0, 1) := by decide +kernel
theorem dX9_family_76 : decode cX9_family 76 = .ok (.getfield 7, 3) := by decide +kernel
theorem dX9_family_79 : decode cX9_family 79 = .ok (.bipush 17, 2) := by decide +kernel
theorem dX9_family_81 : decode cX9_family 81 = .ok (.iload_n 1, 1) := by decide +kernel
theorem dX9_family_82 : decode cX9_family 82 = .ok (.iadd, 1) := by decide +kernel
theorem dX9_family_83 : decode cX9_family 83 = .ok (.iaload, 1) := by decide +kernel
theorem dX9_family_84 : decode cX9_family 84 = .ok (.ireturn, 1) := by decide +kernel
theorem dX9_family_85 : decode cX9_family 85 = .ok (.aload_n 0, 1) := by decide +kernel
theorem dX9_family_86 : decode cX9_family 86 = .ok (.getfield 13, 3) := by decide +kernel
theorem dX9_family_89 : decode cX9_family 89 = .ok (.iload_n 1, 1) := by decide +kernel
theorem dX9_family_90 : decode cX9_family 90 = .ok (.iaload, 1) := by decide +kernel
theorem dX9_family_91 : decode cX9_family 91 = .ok (.ireturn, 1) := by decide +kernel
theorem dX9_family_92 : decode cX9_family 92 = .ok (.aload_n 0, 1) := by decide +kernel
theorem dX9_family_93 : decode cX9_family 93 = .ok (.getfield 13, 3) := by decide +kernel
theorem dX9_family_96 : decode cX9_family 96 = .ok (.bipush 7, 2) := by decide +kernel
theorem dX9_family_98 : decode cX9_family 98 = .ok (.iload_n 1, 1) := by decide +kernel
theorem dX9_family_99 : decode cX9_family 99 = .ok (.iadd, 1) := by decide +kernel
theorem dX9_family_100 : decode cX9_family 100 = .ok (.iaload, 1) := by decide +kernel
theorem dX9_family_101 : decode cX9_family 101 = .ok (.ireturn, 1) := by decide +kernel
theorem dX9_family_102 : decode cX9_family 102 = .ok (.aload_n 0, 1) := by decide +kernel
theorem dX9_family_103 : decode cX9_family 103 = .ok (.iload_n 1, 1) := by decide +kernel
theorem dX9_family_104 : decode cX9_family 104 = .ok (.invokevirtual 117, 3) := by decide +kernel
theorem dX9_family_107 : decode cX9_family 107 = .ok (.ifCond .eq 7, 3) := by decide +kernel
theorem dX9_family_110 : decode cX9_family 110 = .ok (.iconst 0, 1) := by decide +kernel
theorem dX9_family_111 : decode cX9_family 111 = .ok (.goto 8, 3) := by decide +kernel
theorem dX9_family_114 : decode cX9_family 114 = .ok (.aload_n 0, 1) := by decide +kernel
theorem dX9_family_115 : decode cX9_family 115 = .ok (.iload_n 1, 1) := by decide +kernel
theorem dX9_family_116 : decode cX9_family 116 = .ok (.invokevirtual 143, 3) := by decide +kernel
theorem dX9_family_119 : decode cX9_family 119 = .ok (.ireturn, 1) := by decide +kernel
theorem dX9_family_120 : decode cX9_family 120 = .ok (.aload_n 0, 1) := by decide +kernel
theorem dX9_family_121 : decode cX9_family 121 = .ok (.iload_n 1, 1) := by decide +kernel
theorem dX9_family_122 : decode cX9_family 122 = .ok (.aload_n 0, 1) := by decide +kernel
theorem dX9_family_123 : decode cX9_family 123 = .ok (.invokevirtual 131, 3) := by decide +kernel
theorem dX9_family_126 : decode cX9_family 126 = .ok (.invokevirtual 127, 3) := by decide +kernel
theorem dX9_family_129 : decode cX9_family 129 = .ok (.ireturn, 1) := by decide +kernel
theorem dX9_family_130 : decode cX9_family 130 = .ok (.bipush (-3), 2) := by decide +kernel
theorem dX9_family_132 : decode cX9_family 132 = .ok (.ireturn, 1) := by decide +kernel
set_option maxRecDepth 20000 in
theorem ggX9_as_X9_isFamily : GoodIn wsX9_as wsX9_isFamily := goodIn_r _ [7, 2, 8, 9, 6, 10, 15, 16, 17, 18, 19, 20, 21, 22, 23, 24, 25, 26, 27, 28, 29, 30, 31, 32, 33, 34, 35] (by decide +kernel) (by decide +kernel)
set_option maxRecDepth 20000 in
theorem gX9_as_X9_isFamily : GoodIn wsX9_as (wsV RX9 149 RX9 yX9_isFamily wsX9_isFamily) := goodIn_app (goodIn_of _ (by decide +kernel)) ggX9_as_X9_isFamily
set_option maxRecDepth 20000 in
theorem ggX9_as_X9_in : GoodIn wsX9_as wsX9_in := goodIn_r _ [10] (by decide +kernel) (by decide +kernel)
set_option maxRecDepth 20000 in
theorem gX9_as_X9_in : GoodIn wsX9_as (va_wsS RX9 38 yX9_in wsX9_in) := goodIn_app (goodIn_of _ (by decide +kernel)) ggX9_as_X9_in
set_option maxRecDepth 20000 in
theorem ggX9_as_X9_weightBy : GoodIn wsX9_as wsX9_weightBy := goodIn_r _ [14, 2, 15, 16, 17, 18, 19, 20, 21, 22, 23, 24, 25, 26, 27, 28, 29, 30, 31, 32, 33, 34, 35] (by decide +kernel) (by decide +kernel)
set_option maxRecDepth 20000 in
theorem gX9_as_X9_weightBy : GoodIn wsX9_as (wsV RX9 127 RX9 yX9_weightBy wsX9_weightBy) := goodIn_app (goodIn_of _ (by decide +kernel)) ggX9_as_X9_weightBy
theorem dX9_as_0 : decode cX9_as 0 = .ok (.aload_n 0, 1) := by decide +kernel
theorem dX9_as_1 : decode cX9_as 1 = .ok (.iload_n 1, 1) := by decide +kernel
theorem dX9_as_2 : decode cX9_as 2 = .ok (.invokevirtual 149, 3) := by decide +kernel
theorem dX9_as_5 : decode cX9_as 5 = .ok (.ifCond .ne 6, 3) := by decide +kernel
theorem dX9_as_8 : decode cX9_as 8 = .ok (.bipush (-2), 2) := by decide +kernel
theorem dX9_as_10 : decode cX9_as 10 = .ok (.ireturn, 1) := by decide +kernel
theorem dX9_as_11 : decode cX9_as 11 = .ok (.iload_n 2, 1) := by decide +kernel
theorem dX9_as_12 : decode cX9_as 12 = .ok (.i2l, 1) := by decide +kernel
theorem dX9_as_13 : decode cX9_as 13 = .ok (.lconst 0, 1) := by decide +kernel
theorem dX9_as_14 : decode cX9_as 14 = .ok (.ldc2_w 152, 3) := by decide +kernel
theorem dX9_as_17 : decode cX9_as 17 = .ok (.invokestatic 38, 3) := by decide +kernel
theorem dX9_as_20 : decode cX9_as 20 = .ok (.ifCond .ne 6, 3) := by decide +kernel
theorem dX9_as_23 : decode cX9_as 23 = .ok (.bipush (-3), 2) := by decide +kernel
theorem dX9_as_25 : decode cX9_as 25 = .ok (.ireturn, 1) := by decide +kernel
theorem dX9_as_26 : decode cX9_as 26 = .ok (.aload_n 0, 1) := by decide +kernel
theorem dX9_as_27 : decode cX9_as 27 = .ok (.getfield 7, 3) := by decide +kernel
theorem dX9_as_30 : decode cX9_as 30 = .ok (.iconst 3, 1) := by decide +kernel
theorem dX9_as_31 : decode cX9_as 31 = .ok (.iload_n 1, 1) := by decide +kernel
theorem dX9_as_32 : decode cX9_as 32 = .ok (.iadd, 1) := by decide +kernel
theorem dX9_as_33 : decode cX9_as 33 = .ok (.iaload, 1) := by decide +kernel
theorem dX9_as_34 : decode cX9_as 34 = .ok (.istore_n 3, 1) := by decide +kernel
theorem dX9_as_35 : decode cX9_as 35 = .ok (.iload_n 2, 1) := by decide +kernel
theorem dX9_as_36 : decode cX9_as 36 = .ok (.ifCond .eq 25, 3) := by decide +kernel
theorem dX9_as_39 : decode cX9_as 39 = .ok (.iload_n 2, 1) := by decide +kernel
theorem dX9_as_40 : decode cX9_as 40 = .ok (.iconst 1, 1) := by decide +kernel
theorem dX9_as_41 : decode cX9_as 41 = .ok (.if_icmp .ne 8, 3) := by decide +kernel
theorem dX9_as_44 : decode cX9_as 44 = .ok (.iload_n 3, 1) := by decide +kernel
theorem dX9_as_45 : decode cX9_as 45 = .ok (.iconst 3, 1) := by decide +kernel
theorem dX9_as_46 : decode cX9_as 46 = .ok (.if_icmp .lt 15, 3) := by decide +kernel
theorem dX9_as_49 : decode cX9_as 49 = .ok (.iload_n 2, 1) := by decide +kernel
theorem dX9_as_50 : decode cX9_as 50 = .ok (.iconst 1, 1) := by decide +kernel
theorem dX9_as_51 : decode cX9_as 51 = .ok (.if_icmp .le 14, 3) := by decide +kernel
theorem dX9_as_54 : decode cX9_as 54 = .ok (.iload_n 3, 1) := by decide +kernel
theorem dX9_as_55 : decode cX9_as 55 = .ok (.iload_n 2, 1) := by decide +kernel
theorem dX9_as_56 : decode cX9_as 56 = .ok (.iconst 1, 1) := by decide +kernel
theorem dX9_as_57 : decode cX9_as 57 = .ok (.isub, 1) := by decide +kernel
theorem dX9_as_58 : decode cX9_as 58 = .ok (.if_icmp .ne 7, 3) := by decide +kernel
theorem dX9_as_61 : decode cX9_as 61 = .ok (.iconst 1, 1) := by decide +kernel
theorem dX9_as_62 : decode cX9_as 62 = .ok (.goto 4, 3) := by decide +kernel
theorem dX9_as_65 : decode cX9_as 65 = .ok (.iconst 0, 1) := by decide +kernel
theorem dX9_as_66 : decode cX9_as 66 = .ok (.istore 4, 2) := by decide +kernel
theorem dX9_as_68 : decode cX9_as 68 = .ok (.iload 4, 2) := by decide +kernel
theorem dX9_as_70 : decode cX9_as 70 = .ok (.ifCond .eq 22, 3) := by decide +kernel
theorem dX9_as_73 : decode cX9_as 73 = .ok (.bipush 10, 2) := by decide +kernel
theorem dX9_as_75 : decode cX9_as 75 = .ok (.aload_n 0, 1) := by decide +kernel
theorem dX9_as_76 : decode cX9_as 76 = .ok (.iload_n 1, 1) := by decide +kernel
theorem dX9_as_77 : decode cX9_as 77 = .ok (.iconst 0, 1) := by decide +kernel
theorem dX9_as_78 : decode cX9_as 78 = .ok (.invokevirtual 127, 3) := by decide +kernel
theorem dX9_as_81 : decode cX9_as 81 = .ok (.imul, 1) := by decide +kernel
theorem dX9_as_82 : decode cX9_as 82 = .ok (.aload_n 0, 1) := by decide +kernel
theorem dX9_as_83 : decode cX9_as 83 = .ok (.iload_n 1, 1) := by decide +kernel
theorem dX9_as_84 : decode cX9_as 84 = .ok (.iconst 1, 1) := by decide +kernel
theorem dX9_as_85 : decode cX9_as 85 = .ok (.invokevirtual 127, 3) := by decide +kernel
theorem dX9_as_88 : decode cX9_as 88 = .ok (.iadd, 1) := by decide +kernel
theorem dX9_as_89 : decode cX9_as 89 = .ok (.goto 5, 3) := by decide +kernel
theorem dX9_as_92 : decode cX9_as 92 = .ok (.bipush (-4), 2) := by decide +kernel
theorem dX9_as_94 : decode cX9_as 94 = .ok (.ireturn, 1) := by decide +kernel
theorem dX9_note_0 : decode cX9_note 0 = .ok (.aload_n 0, 1) := by decide +kernel
theorem dX9_note_1 : decode cX9_note 1 = .ok (.getfield 114, 3) := by decide +kernel
theorem dX9_note_4 : decode cX9_note 4 = .ok (.bipush 8, 2) := by decide +kernel
theorem dX9_note_6 : decode cX9_note 6 = .ok (.if_icmp .ne 42, 3) := by decide +kernel
theorem dX9_note_9 : decode cX9_note 9 = .ok (.iconst 0, 1) := by decide +kernel
theorem dX9_note_10 : decode cX9_note 10 = .ok (.istore_n 1, 1) := by decide +kernel
theorem dX9_note_11 : decode cX9_note 11 = .ok (.iload_n 1, 1) := by decide +kernel
theorem dX9_note_12 : decode cX9_note 12 = .ok (.bipush 105, 2) := by decide +kernel
theorem dX9_note_14 : decode cX9_note 14 = .ok (.if_icmp .ge 24, 3) := by decide +kernel
theorem dX9_note_17 : decode cX9_note 17 = .ok (.aload_n 0, 1) := by decide +kernel
theorem dX9_note_18 : decode cX9_note 18 = .ok (.getfield 22, 3) := by decide +kernel
theorem dX9_note_21 : decode cX9_note 21 = .ok (.iload_n 1, 1) := by decide +kernel
theorem dX9_note_22 : decode cX9_note 22 = .ok (.aload_n 0, 1) := by decide +kernel
theorem dX9_note_23 : decode cX9_note 23 = .ok (.getfield 22, 3) := by decide +kernel
theorem dX9_note_26 : decode cX9_note 26 = .ok (.iload_n 1, 1) := by decide +kernel
theorem dX9_note_27 : decode cX9_note 27 = .ok (.bipush 15, 2) := by decide +kernel
theorem dX9_note_29 : decode cX9_note 29 = .ok (.iadd, 1) := by decide +kernel
theorem dX9_note_30 : decode cX9_note 30 = .ok (.iaload, 1) := by decide +kernel
theorem dX9_note_31 : decode cX9_note 31 = .ok (.iastore, 1) := by decide +kernel
theorem dX9_note_32 : decode cX9_note 32 = .ok (.iinc 1 1, 3) := by decide +kernel
theorem dX9_note_35 : decode cX9_note 35 = .ok (.goto (-24), 3) := by decide +kernel
theorem dX9_note_38 : decode cX9_note 38 = .ok (.aload_n 0, 1) := by decide +kernel
theorem dX9_note_39 : decode cX9_note 39 = .ok (.dup, 1) := by decide +kernel
theorem dX9_note_40 : decode cX9_note 40 = .ok (.getfield 114, 3) := by decide +kernel
theorem dX9_note_43 : decode cX9_note 43 = .ok (.iconst 1, 1) := by decide +kernel
theorem dX9_note_44 : decode cX9_note 44 = .ok (.isub, 1) := by decide +kernel
theorem dX9_note_45 : decode cX9_note 45 = .ok (.putfield 114, 3) := by decide +kernel
theorem dX9_note_48 : decode cX9_note 48 = .ok (.iconst 0, 1) := by decide +kernel
theorem dX9_note_49 : decode cX9_note 49 = .ok (.istore_n 1, 1) := by decide +kernel
theorem dX9_note_50 : decode cX9_note 50 = .ok (.iload_n 1, 1) := by decide +kernel
theorem dX9_note_51 : decode cX9_note 51 = .ok (.bipush 15, 2) := by decide +kernel
theorem dX9_note_53 : decode cX9_note 53 = .ok (.if_icmp .ge 29, 3) := by decide +kernel
theorem dX9_note_56 : decode cX9_note 56 = .ok (.aload_n 0, 1) := by decide +kernel
theorem dX9_note_57 : decode cX9_note 57 = .ok (.getfield 22, 3) := by decide +kernel
theorem dX9_note_60 : decode cX9_note 60 = .ok (.bipush 15, 2) := by decide +kernel
theorem dX9_note_62 : decode cX9_note 62 = .ok (.aload_n 0, 1) := by decide +kernel
theorem dX9_note_63 : decode cX9_note 63 = .ok (.getfield 114, 3) := by decide +kernel
theorem dX9_note_66 : decode cX9_note 66 = .ok (.imul, 1) := by decide +kernel
theorem dX9_note_67 : decode cX9_note 67 = .ok (.iload_n 1, 1) := by decide +kernel
theorem dX9_note_68 : decode cX9_note 68 = .ok (.iadd, 1) := by decide +kernel
theorem dX9_note_69 : decode cX9_note 69 = .ok (.aload_n 0, 1) := by decide +kernel
theorem dX9_note_70 : decode cX9_note 70 = .ok (.getfield 13, 3) := by decide +kernel
theorem dX9_note_73 : decode cX9_note 73 = .ok (.iload_n 1, 1) := by decide +kernel
theorem dX9_note_74 : decode cX9_note 74 = .ok (.iaload, 1) := by decide +kernel
theorem dX9_note_75 : decode cX9_note 75 = .ok (.iastore, 1) := by decide +kernel
theorem dX9_note_76 : decode cX9_note 76 = .ok (.iinc 1 1, 3) := by decide +kernel
theorem dX9_note_79 : decode cX9_note 79 = .ok (.goto (-29), 3) := by decide +kernel
theorem dX9_note_82 : decode cX9_note 82 = .ok (.aload_n 0, 1) := by decide +kernel
theorem dX9_note_83 : decode cX9_note 83 = .ok (.dup, 1) := by decide +kernel
theorem dX9_note_84 : decode cX9_note 84 = .ok (.getfield 114, 3) := by decide +kernel
theorem dX9_note_87 : decode cX9_note 87 = .ok (.iconst 1, 1) := by decide +kernel
theorem dX9_note_88 : decode cX9_note 88 = .ok (.iadd, 1) := by decide +kernel
theorem dX9_note_89 : decode cX9_note 89 = .ok (.putfield 114, 3) := by decide +kernel
theorem dX9_note_92 : decode cX9_note 92 = .ok (.return_, 1) := by decide +kernel
set_option maxRecDepth 20000 in
theorem ggX9_favour_X9_isFamily : GoodIn wsX9_favour wsX9_isFamily := goodIn_r _ [6, 7, 8, 9, 5, 10, 21, 22, 23, 24, 25, 26, 27, 28, 29, 30, 31, 32, 33, 34, 35, 36, 37, 38, 39, 40, 41] (by decide +kernel) (by decide +kernel)
set_option maxRecDepth 20000 in
theorem gX9_favour_X9_isFamily : GoodIn wsX9_favour (wsV RX9 149 RX9 yX9_isFamily wsX9_isFamily) := goodIn_app (goodIn_of _ (by decide +kernel)) ggX9_favour_X9_isFamily
set_option maxRecDepth 20000 in
theorem ggX9_favour_X9_in : GoodIn wsX9_favour wsX9_in := goodIn_r _ [10] (by decide +kernel) (by decide +kernel)
set_option maxRecDepth 20000 in
theorem gX9_favour_X9_in : GoodIn wsX9_favour (va_wsS RX9 38 yX9_in wsX9_in) := goodIn_app (goodIn_of _ (by decide +kernel)) ggX9_favour_X9_in
set_option maxRecDepth 20000 in
theorem ggX9_favour_X9_isFrozen : GoodIn wsX9_favour wsX9_isFrozen := goodIn_r _ [14, 1, 21, 22, 23, 24, 25, 26, 27, 28, 29, 30, 31, 32, 33, 34, 35, 36, 37, 38, 39, 40, 41] (by decide +kernel) (by decide +kernel)
set_option maxRecDepth 20000 in
theorem gX9_favour_X9_isFrozen : GoodIn wsX9_favour (wsV RX9 117 RX9 yX9_isFrozen wsX9_isFrozen) := goodIn_app (goodIn_of _ (by decide +kernel)) ggX9_favour_X9_isFrozen
set_option maxRecDepth 20000 in
theorem ggX9_favour_X9_note : GoodIn wsX9_favour wsX9_note := goodIn_r _ [18, 19, 20, 1, 21, 22, 23, 24, 25, 26, 27, 28, 29, 30, 31, 32, 33, 34, 35, 36, 37, 38, 39, 40, 41] (by decide +kernel) (by decide +kernel)
set_option maxRecDepth 20000 in
theorem gX9_favour_X9_note : GoodIn wsX9_favour (wsV RX9 154 RX9 yX9_note wsX9_note) := goodIn_app (goodIn_of _ (by decide +kernel)) ggX9_favour_X9_note
theorem dX9_favour_0 : decode cX9_favour 0 = .ok (.aload_n 0, 1) := by decide +kernel
theorem dX9_favour_1 : decode cX9_favour 1 = .ok (.iload_n 1, 1) := by decide +kernel
theorem dX9_favour_2 : decode cX9_favour 2 = .ok (.invokevirtual 149, 3) := by decide +kernel
theorem dX9_favour_5 : decode cX9_favour 5 = .ok (.ifCond .eq 16, 3) := by decide +kernel
theorem dX9_favour_8 : decode cX9_favour 8 = .ok (.aload_n 0, 1) := by decide +kernel
theorem dX9_favour_9 : decode cX9_favour 9 = .ok (.iload_n 2, 1) := by decide +kernel
theorem dX9_favour_10 : decode cX9_favour 10 = .ok (.invokevirtual 149, 3) := by decide +kernel
theorem dX9_favour_13 : decode cX9_favour 13 = .ok (.ifCond .eq 8, 3) := by decide +kernel
theorem dX9_favour_16 : decode cX9_favour 16 = .ok (.iload_n 1, 1) := by decide +kernel
theorem dX9_favour_17 : decode cX9_favour 17 = .ok (.iload_n 2, 1) := by decide +kernel
theorem dX9_favour_18 : decode cX9_favour 18 = .ok (.if_icmp .ne 6, 3) := by decide +kernel
theorem dX9_favour_21 : decode cX9_favour 21 = .ok (.bipush (-2), 2) := by decide +kernel
theorem dX9_favour_23 : decode cX9_favour 23 = .ok (.ireturn, 1) := by decide +kernel
theorem dX9_favour_24 : decode cX9_favour 24 = .ok (.iload_n 3, 1) := by decide +kernel
theorem dX9_favour_25 : decode cX9_favour 25 = .ok (.i2l, 1) := by decide +kernel
theorem dX9_favour_26 : decode cX9_favour 26 = .ok (.lconst 0, 1) := by decide +kernel
theorem dX9_favour_27 : decode cX9_favour 27 = .ok (.lconst 1, 1) := by decide +kernel
theorem dX9_favour_28 : decode cX9_favour 28 = .ok (.invokestatic 38, 3) := by decide +kernel
theorem dX9_favour_31 : decode cX9_favour 31 = .ok (.ifCond .ne 6, 3) := by decide +kernel
theorem dX9_favour_34 : decode cX9_favour 34 = .ok (.bipush (-3), 2) := by decide +kernel
theorem dX9_favour_36 : decode cX9_favour 36 = .ok (.ireturn, 1) := by decide +kernel
theorem dX9_favour_37 : decode cX9_favour 37 = .ok (.aload_n 0, 1) := by decide +kernel
theorem dX9_favour_38 : decode cX9_favour 38 = .ok (.iload_n 1, 1) := by decide +kernel
theorem dX9_favour_39 : decode cX9_favour 39 = .ok (.invokevirtual 117, 3) := by decide +kernel
theorem dX9_favour_42 : decode cX9_favour 42 = .ok (.ifCond .ne 11, 3) := by decide +kernel
theorem dX9_favour_45 : decode cX9_favour 45 = .ok (.aload_n 0, 1) := by decide +kernel
theorem dX9_favour_46 : decode cX9_favour 46 = .ok (.iload_n 2, 1) := by decide +kernel
theorem dX9_favour_47 : decode cX9_favour 47 = .ok (.invokevirtual 117, 3) := by decide +kernel
theorem dX9_favour_50 : decode cX9_favour 50 = .ok (.ifCond .eq 6, 3) := by decide +kernel
theorem dX9_favour_53 : decode cX9_favour 53 = .ok (.bipush (-4), 2) := by decide +kernel
theorem dX9_favour_55 : decode cX9_favour 55 = .ok (.ireturn, 1) := by decide +kernel
theorem dX9_favour_56 : decode cX9_favour 56 = .ok (.aload_n 0, 1) := by decide +kernel
theorem dX9_favour_57 : decode cX9_favour 57 = .ok (.invokevirtual 154, 3) := by decide +kernel
theorem dX9_favour_60 : decode cX9_favour 60 = .ok (.aload_n 0, 1) := by decide +kernel
theorem dX9_favour_61 : decode cX9_favour 61 = .ok (.getfield 13, 3) := by decide +kernel
theorem dX9_favour_64 : decode cX9_favour 64 = .ok (.bipush 7, 2) := by decide +kernel
theorem dX9_favour_66 : decode cX9_favour 66 = .ok (.iload_n 1, 1) := by decide +kernel
theorem dX9_favour_67 : decode cX9_favour 67 = .ok (.iadd, 1) := by decide +kernel
theorem dX9_favour_68 : decode cX9_favour 68 = .ok (.iaload, 1) := by decide +kernel
theorem dX9_favour_69 : decode cX9_favour 69 = .ok (.iload_n 2, 1) := by decide +kernel
theorem dX9_favour_70 : decode cX9_favour 70 = .ok (.ishr, 1) := by decide +kernel
theorem dX9_favour_71 : decode cX9_favour 71 = .ok (.iconst 1, 1) := by decide +kernel
theorem dX9_favour_72 : decode cX9_favour 72 = .ok (.iand, 1) := by decide +kernel
theorem dX9_favour_73 : decode cX9_favour 73 = .ok (.istore 4, 2) := by decide +kernel
theorem dX9_favour_75 : decode cX9_favour 75 = .ok (.aload_n 0, 1) := by decide +kernel
theorem dX9_favour_76 : decode cX9_favour 76 = .ok (.getfield 13, 3) := by decide +kernel
theorem dX9_favour_79 : decode cX9_favour 79 = .ok (.bipush 7, 2) := by decide +kernel
theorem dX9_favour_81 : decode cX9_favour 81 = .ok (.iload_n 1, 1) := by decide +kernel
theorem dX9_favour_82 : decode cX9_favour 82 = .ok (.iadd, 1) := by decide +kernel
theorem dX9_favour_83 : decode cX9_favour 83 = .ok (.aload_n 0, 1) := by decide +kernel
theorem dX9_favour_84 : decode cX9_favour 84 = .ok (.getfield 13, 3) := by decide +kernel
theorem dX9_favour_87 : decode cX9_favour 87 = .ok (.bipush 7, 2) := by decide +kernel
theorem dX9_favour_89 : decode cX9_favour 89 = .ok (.iload_n 1, 1) := by decide +kernel
theorem dX9_favour_90 : decode cX9_favour 90 = .ok (.iadd, 1) := by decide +kernel
theorem dX9_favour_91 : decode cX9_favour 91 = .ok (.iaload, 1) := by decide +kernel
theorem dX9_favour_92 : decode cX9_favour 92 = .ok (.iconst 1, 1) := by decide +kernel
theorem dX9_favour_93 : decode cX9_favour 93 = .ok (.iload_n 2, 1) := by decide +kernel
theorem dX9_favour_94 : decode cX9_favour 94 = .ok (.ishl, 1) := by decide +kernel
theorem dX9_favour_95 : decode cX9_favour 95 = .ok (.iconst (-1), 1) := by decide +kernel
theorem dX9_favour_96 : decode cX9_favour 96 = .ok (.ixor, 1) := by decide +kernel
theorem dX9_favour_97 : decode cX9_favour 97 = .ok (.iand, 1) := by decide +kernel
theorem dX9_favour_98 : decode cX9_favour 98 = .ok (.iload_n 3, 1) := by decide +kernel
theorem dX9_favour_99 : decode cX9_favour 99 = .ok (.iload_n 2, 1) := by decide +kernel
theorem dX9_favour_100 : decode cX9_favour 100 = .ok (.ishl, 1) := by decide +kernel
theorem dX9_favour_101 : decode cX9_favour 101 = .ok (.ior, 1) := by decide +kernel
theorem dX9_favour_102 : decode cX9_favour 102 = .ok (.iastore, 1) := by decide +kernel
theorem dX9_favour_103 : decode cX9_favour 103 = .ok (.iload 4, 2) := by decide +kernel
theorem dX9_favour_105 : decode cX9_favour 105 = .ok (.ireturn, 1) := by decide +kernel
set_option maxRecDepth 20000 in
theorem ggX9_oneDay_X9_coldNow : GoodIn wsX9_oneDay wsX9_coldNow := goodIn_r _ [7, 1, 2, 55, 56, 57, 58, 59, 60, 61, 62, 63, 64, 65, 66, 67, 68, 69, 70, 71, 72, 73, 74, 75] (by decide +kernel) (by decide +kernel)
set_option maxRecDepth 20000 in
theorem gX9_oneDay_X9_coldNow : GoodIn wsX9_oneDay (wsV RX9 157 RX9 yX9_coldNow wsX9_coldNow) := goodIn_app (goodIn_of _ (by decide +kernel)) ggX9_oneDay_X9_coldNow
set_option maxRecDepth 20000 in
theorem ggX9_oneDay_X9_isFrozen : GoodIn wsX9_oneDay wsX9_isFrozen := goodIn_r _ [11, 2, 55, 56, 57, 58, 59, 60, 61, 62, 63, 64, 65, 66, 67, 68, 69, 70, 71, 72, 73, 74, 75] (by decide +kernel) (by decide +kernel)
set_option maxRecDepth 20000 in
theorem gX9_oneDay_X9_isFrozen : GoodIn wsX9_oneDay (wsV RX9 117 RX9 yX9_isFrozen wsX9_isFrozen) := goodIn_app (goodIn_of _ (by decide +kernel)) ggX9_oneDay_X9_isFrozen
set_option maxRecDepth 20000 in
theorem ggX9_oneDay_X9_isCarried : GoodIn wsX9_oneDay wsX9_isCarried := goodIn_r _ [15, 1, 16, 17, 18, 6, 19, 20, 21, 22, 23, 2, 24, 25, 26, 27, 28, 29, 30, 31, 32, 33, 34, 8, 9, 10, 11, 35, 36, 37, 38, 39, 40, 41, 42, 43, 44, 45, 46, 47, 48, 49, 50, 55, 56, 57, 58, 59, 60, 61, 62, 63, 64, 65, 66, 67, 68, 69, 70, 71, 72, 73, 74, 75] (by decide +kernel) (by decide +kernel)
set_option maxRecDepth 20000 in
theorem gX9_oneDay_X9_isCarried : GoodIn wsX9_oneDay (wsV RX9 160 RX9 yX9_isCarried wsX9_isCarried) := goodIn_app (goodIn_of _ (by decide +kernel)) ggX9_oneDay_X9_isCarried
set_option maxRecDepth 20000 in
theorem ggX9_oneDay_X9_doneUp : GoodIn wsX9_oneDay wsX9_doneUp := goodIn_r _ [19, 20, 21, 22, 6, 23, 1, 2, 24, 25, 26, 27, 28, 29, 30, 31, 32, 33, 34, 8, 9, 10, 11, 55, 56, 57, 58, 59, 60, 61, 62, 63, 64, 65, 66, 67, 68, 69, 70, 71, 72, 73, 74, 75] (by decide +kernel) (by decide +kernel)
set_option maxRecDepth 20000 in
theorem gX9_oneDay_X9_doneUp : GoodIn wsX9_oneDay (wsV RX9 143 RX9 yX9_doneUp wsX9_doneUp) := goodIn_app (goodIn_of _ (by decide +kernel)) ggX9_oneDay_X9_doneUp
set_option maxRecDepth 20000 in
theorem ggX9_oneDay_X9_warmBy : GoodIn wsX9_oneDay wsX9_warmBy := goodIn_r _ [54, 1, 24, 25, 6, 26, 55, 56, 57, 58, 59, 60, 61, 62, 63, 64, 65, 66, 67, 68, 69, 70, 71, 72, 73, 74, 75] (by decide +kernel) (by decide +kernel)
set_option maxRecDepth 20000 in
theorem gX9_oneDay_X9_warmBy : GoodIn wsX9_oneDay (wsV RX9 163 RX9 yX9_warmBy wsX9_warmBy) := goodIn_app (goodIn_of _ (by decide +kernel)) ggX9_oneDay_X9_warmBy
theorem dX9_oneDay_0 : decode cX9_oneDay 0 = .ok (.aload_n 0, 1) := by decide +kernel
theorem dX9_oneDay_1 : decode cX9_oneDay 1 = .ok (.invokevirtual 157, 3) := by decide +kernel
theorem dX9_oneDay_4 : decode cX9_oneDay 4 = .ok (.istore_n 2, 1) := by decide +kernel
theorem dX9_oneDay_5 : decode cX9_oneDay 5 = .ok (.iload_n 1, 1) := by decide +kernel
theorem dX9_oneDay_6 : decode cX9_oneDay 6 = .ok (.ifCond .lt 23, 3) := by decide +kernel
theorem dX9_oneDay_9 : decode cX9_oneDay 9 = .ok (.aload_n 0, 1) := by decide +kernel
theorem dX9_oneDay_10 : decode cX9_oneDay 10 = .ok (.iload_n 1, 1) := by decide +kernel
theorem dX9_oneDay_11 : decode cX9_oneDay 11 = .ok (.invokevirtual 117, 3) := by decide +kernel
theorem dX9_oneDay_14 : decode cX9_oneDay 14 = .ok (.ifCond .ne 15, 3) := by decide +kernel
theorem dX9_oneDay_17 : decode cX9_oneDay 17 = .ok (.aload_n 0, 1) := by decide +kernel
theorem dX9_oneDay_18 : decode cX9_oneDay 18 = .ok (.iload_n 1, 1) := by decide +kernel
theorem dX9_oneDay_19 : decode cX9_oneDay 19 = .ok (.invokevirtual 160, 3) := by decide +kernel
theorem dX9_oneDay_22 : decode cX9_oneDay 22 = .ok (.ifCond .eq 7, 3) := by decide +kernel
theorem dX9_oneDay_25 : decode cX9_oneDay 25 = .ok (.iconst 1, 1) := by decide +kernel
theorem dX9_oneDay_26 : decode cX9_oneDay 26 = .ok (.goto 4, 3) := by decide +kernel
theorem dX9_oneDay_29 : decode cX9_oneDay 29 = .ok (.iconst 0, 1) := by decide +kernel
theorem dX9_oneDay_30 : decode cX9_oneDay 30 = .ok (.istore_n 3, 1) := by decide +kernel
theorem dX9_oneDay_31 : decode cX9_oneDay 31 = .ok (.iload_n 3, 1) := by decide +kernel
theorem dX9_oneDay_32 : decode cX9_oneDay 32 = .ok (.ifCond .eq 15, 3) := by decide +kernel
theorem dX9_oneDay_35 : decode cX9_oneDay 35 = .ok (.aload_n 0, 1) := by decide +kernel
theorem dX9_oneDay_36 : decode cX9_oneDay 36 = .ok (.aload_n 0, 1) := by decide +kernel
theorem dX9_oneDay_37 : decode cX9_oneDay 37 = .ok (.iload_n 1, 1) := by decide +kernel
theorem dX9_oneDay_38 : decode cX9_oneDay 38 = .ok (.invokevirtual 143, 3) := by decide +kernel
theorem dX9_oneDay_41 : decode cX9_oneDay 41 = .ok (.invokevirtual 163, 3) := by decide +kernel
theorem dX9_oneDay_44 : decode cX9_oneDay 44 = .ok (.goto 4, 3) := by decide +kernel
theorem dX9_oneDay_47 : decode cX9_oneDay 47 = .ok (.iconst 0, 1) := by decide +kernel
theorem dX9_oneDay_48 : decode cX9_oneDay 48 = .ok (.istore 4, 2) := by decide +kernel
theorem dX9_oneDay_50 : decode cX9_oneDay 50 = .ok (.iconst 0, 1) := by decide +kernel
theorem dX9_oneDay_51 : decode cX9_oneDay 51 = .ok (.istore 5, 2) := by decide +kernel
theorem dX9_oneDay_53 : decode cX9_oneDay 53 = .ok (.iconst 0, 1) := by decide +kernel
theorem dX9_oneDay_54 : decode cX9_oneDay 54 = .ok (.istore 6, 2) := by decide +kernel
theorem dX9_oneDay_56 : decode cX9_oneDay 56 = .ok (.iload 6, 2) := by decide +kernel
theorem dX9_oneDay_58 : decode cX9_oneDay 58 = .ok (.aload_n 0, 1) := by decide +kernel
theorem dX9_oneDay_59 : decode cX9_oneDay 59 = .ok (.getfield 7, 3) := by decide +kernel
theorem dX9_oneDay_62 : decode cX9_oneDay 62 = .ok (.iconst 0, 1) := by decide +kernel
theorem dX9_oneDay_63 : decode cX9_oneDay 63 = .ok (.iaload, 1) := by decide +kernel
theorem dX9_oneDay_64 : decode cX9_oneDay 64 = .ok (.if_icmp .ge 126, 3) := by decide +kernel
theorem dX9_oneDay_67 : decode cX9_oneDay 67 = .ok (.aload_n 0, 1) := by decide +kernel
theorem dX9_oneDay_68 : decode cX9_oneDay 68 = .ok (.iload 6, 2) := by decide +kernel
theorem dX9_oneDay_70 : decode cX9_oneDay 70 = .ok (.invokevirtual 117, 3) := by decide +kernel
theorem dX9_oneDay_73 : decode cX9_oneDay 73 = .ok (.ifCond .ne 111, 3) := by decide +kernel
theorem dX9_oneDay_76 : decode cX9_oneDay 76 = .ok (.iload_n 3, 1) := by decide +kernel
theorem dX9_oneDay_77 : decode cX9_oneDay 77 = .ok (.ifCond .eq 42, 3) := by decide +kernel
theorem dX9_oneDay_80 : decode cX9_oneDay 80 = .ok (.iload 6, 2) := by decide +kernel
theorem dX9_oneDay_82 : decode cX9_oneDay 82 = .ok (.iload_n 1, 1) := by decide +kernel
theorem dX9_oneDay_83 : decode cX9_oneDay 83 = .ok (.if_icmp .ne 36, 3) := by decide +kernel
theorem dX9_oneDay_86 : decode cX9_oneDay 86 = .ok (.iload 4, 2) := by decide +kernel
theorem dX9_oneDay_88 : decode cX9_oneDay 88 = .ok (.iload_n 2, 1) := by decide +kernel
theorem dX9_oneDay_89 : decode cX9_oneDay 89 = .ok (.if_icmp .lt 15, 3) := by decide +kernel
theorem dX9_oneDay_92 : decode cX9_oneDay 92 = .ok (.aload_n 0, 1) := by decide +kernel
theorem dX9_oneDay_93 : decode cX9_oneDay 93 = .ok (.getfield 13, 3) := by decide +kernel
theorem dX9_oneDay_96 : decode cX9_oneDay 96 = .ok (.iload 6, 2) := by decide +kernel
theorem dX9_oneDay_98 : decode cX9_oneDay 98 = .ok (.iaload, 1) := by decide +kernel
theorem dX9_oneDay_99 : decode cX9_oneDay 99 = .ok (.iconst 2, 1) := by decide +kernel
theorem dX9_oneDay_100 : decode cX9_oneDay 100 = .ok (.iadd, 1) := by decide +kernel
theorem dX9_oneDay_101 : decode cX9_oneDay 101 = .ok (.goto 29, 3) := by decide +kernel
theorem dX9_oneDay_104 : decode cX9_oneDay 104 = .ok (.aload_n 0, 1) := by decide +kernel
theorem dX9_oneDay_105 : decode cX9_oneDay 105 = .ok (.getfield 13, 3) := by decide +kernel
theorem dX9_oneDay_108 : decode cX9_oneDay 108 = .ok (.iload 6, 2) := by decide +kernel
theorem dX9_oneDay_110 : decode cX9_oneDay 110 = .ok (.iaload, 1) := by decide +kernel
theorem dX9_oneDay_111 : decode cX9_oneDay 111 = .ok (.iload_n 2, 1) := by decide +kernel
theorem dX9_oneDay_112 : decode cX9_oneDay 112 = .ok (.isub, 1) := by decide +kernel
theorem dX9_oneDay_113 : decode cX9_oneDay 113 = .ok (.iload 4, 2) := by decide +kernel
theorem dX9_oneDay_115 : decode cX9_oneDay 115 = .ok (.iadd, 1) := by decide +kernel
theorem dX9_oneDay_116 : decode cX9_oneDay 116 = .ok (.goto 14, 3) := by decide +kernel
theorem dX9_oneDay_119 : decode cX9_oneDay 119 = .ok (.aload_n 0, 1) := by decide +kernel
theorem dX9_oneDay_120 : decode cX9_oneDay 120 = .ok (.getfield 13, 3) := by decide +kernel
theorem dX9_oneDay_123 : decode cX9_oneDay 123 = .ok (.iload 6, 2) := by decide +kernel
theorem dX9_oneDay_125 : decode cX9_oneDay 125 = .ok (.iaload, 1) := by decide +kernel
theorem dX9_oneDay_126 : decode cX9_oneDay 126 = .ok (.iload_n 2, 1) := by decide +kernel
theorem dX9_oneDay_127 : decode cX9_oneDay 127 = .ok (.iconst 5, 1) := by decide +kernel
theorem dX9_oneDay_128 : decode cX9_oneDay 128 = .ok (.idiv, 1) := by decide +kernel
theorem dX9_oneDay_129 : decode cX9_oneDay 129 = .ok (.isub, 1) := by decide +kernel
theorem dX9_oneDay_130 : decode cX9_oneDay 130 = .ok (.istore 7, 2) := by decide +kernel
theorem dX9_oneDay_132 : decode cX9_oneDay 132 = .ok (.aload_n 0, 1) := by decide +kernel
theorem dX9_oneDay_133 : decode cX9_oneDay 133 = .ok (.getfield 13, 3) := by decide +kernel
theorem dX9_oneDay_136 : decode cX9_oneDay 136 = .ok (.iload 6, 2) := by decide +kernel
theorem dX9_oneDay_138 : decode cX9_oneDay 138 = .ok (.iload 7, 2) := by decide +kernel
theorem dX9_oneDay_140 : decode cX9_oneDay 140 = .ok (.ifCond .ge 7, 3) := by decide +kernel
theorem dX9_oneDay_143 : decode cX9_oneDay 143 = .ok (.iconst 0, 1) := by decide +kernel
theorem dX9_oneDay_144 : decode cX9_oneDay 144 = .ok (.goto 17, 3) := by decide +kernel
theorem dX9_oneDay_147 : decode cX9_oneDay 147 = .ok (.iload 7, 2) := by decide +kernel
theorem dX9_oneDay_149 : decode cX9_oneDay 149 = .ok (.bipush 20, 2) := by decide +kernel
theorem dX9_oneDay_151 : decode cX9_oneDay 151 = .ok (.if_icmp .le 8, 3) := by decide +kernel
theorem dX9_oneDay_154 : decode cX9_oneDay 154 = .ok (.bipush 20, 2) := by decide +kernel
theorem dX9_oneDay_156 : decode cX9_oneDay 156 = .ok (.goto 5, 3) := by decide +kernel
theorem dX9_oneDay_159 : decode cX9_oneDay 159 = .ok (.iload 7, 2) := by decide +kernel
theorem dX9_oneDay_161 : decode cX9_oneDay 161 = .ok (.iastore, 1) := by decide +kernel
theorem dX9_oneDay_162 : decode cX9_oneDay 162 = .ok (.iload 5, 2) := by decide +kernel
theorem dX9_oneDay_164 : decode cX9_oneDay 164 = .ok (.aload_n 0, 1) := by decide +kernel
theorem dX9_oneDay_165 : decode cX9_oneDay 165 = .ok (.iload 6, 2) := by decide +kernel
theorem dX9_oneDay_167 : decode cX9_oneDay 167 = .ok (.invokevirtual 117, 3) := by decide +kernel
theorem dX9_oneDay_170 : decode cX9_oneDay 170 = .ok (.ifCond .eq 10, 3) := by decide +kernel
theorem dX9_oneDay_173 : decode cX9_oneDay 173 = .ok (.iconst 1, 1) := by decide +kernel
theorem dX9_oneDay_174 : decode cX9_oneDay 174 = .ok (.iload 6, 2) := by decide +kernel
theorem dX9_oneDay_176 : decode cX9_oneDay 176 = .ok (.ishl, 1) := by decide +kernel
theorem dX9_oneDay_177 : decode cX9_oneDay 177 = .ok (.goto 4, 3) := by decide +kernel
theorem dX9_oneDay_180 : decode cX9_oneDay 180 = .ok (.iconst 0, 1) := by decide +kernel
theorem dX9_oneDay_181 : decode cX9_oneDay 181 = .ok (.ior, 1) := by decide +kernel
theorem dX9_oneDay_182 : decode cX9_oneDay 182 = .ok (.istore 5, 2) := by decide +kernel
theorem dX9_oneDay_184 : decode cX9_oneDay 184 = .ok (.iinc 6 1, 3) := by decide +kernel
theorem dX9_oneDay_187 : decode cX9_oneDay 187 = .ok (.goto (-131), 3) := by decide +kernel
theorem dX9_oneDay_190 : decode cX9_oneDay 190 = .ok (.aload_n 0, 1) := by decide +kernel
theorem dX9_oneDay_191 : decode cX9_oneDay 191 = .ok (.getfield 13, 3) := by decide +kernel
theorem dX9_oneDay_194 : decode cX9_oneDay 194 = .ok (.bipush 14, 2) := by decide +kernel
theorem dX9_oneDay_196 : decode cX9_oneDay 196 = .ok (.dup2, 1) := by decide +kernel
theorem dX9_oneDay_197 : decode cX9_oneDay 197 = .ok (.iaload, 1) := by decide +kernel
theorem dX9_oneDay_198 : decode cX9_oneDay 198 = .ok (.iconst 1, 1) := by decide +kernel
theorem dX9_oneDay_199 : decode cX9_oneDay 199 = .ok (.iadd, 1) := by decide +kernel
theorem dX9_oneDay_200 : decode cX9_oneDay 200 = .ok (.iastore, 1) := by decide +kernel
theorem dX9_oneDay_201 : decode cX9_oneDay 201 = .ok (.iload 5, 2) := by decide +kernel
theorem dX9_oneDay_203 : decode cX9_oneDay 203 = .ok (.ireturn, 1) := by decide +kernel
set_option maxRecDepth 20000 in
theorem ggX9_day_X9_isFamily : GoodIn wsX9_day wsX9_isFamily := goodIn_r _ [6, 7, 8, 9, 5, 10, 72, 73, 74, 75, 76, 77, 78, 79, 80, 81, 82, 83, 84, 85, 86, 87, 88, 89, 90, 91, 92] (by decide +kernel) (by decide +kernel)
set_option maxRecDepth 20000 in
theorem gX9_day_X9_isFamily : GoodIn wsX9_day (wsV RX9 149 RX9 yX9_isFamily wsX9_isFamily) := goodIn_app (goodIn_of _ (by decide +kernel)) ggX9_day_X9_isFamily
set_option maxRecDepth 20000 in
theorem ggX9_day_X9_isFrozen : GoodIn wsX9_day wsX9_isFrozen := goodIn_r _ [14, 1, 72, 73, 74, 75, 76, 77, 78, 79, 80, 81, 82, 83, 84, 85, 86, 87, 88, 89, 90, 91, 92] (by decide +kernel) (by decide +kernel)
set_option maxRecDepth 20000 in
theorem gX9_day_X9_isFrozen : GoodIn wsX9_day (wsV RX9 117 RX9 yX9_isFrozen wsX9_isFrozen) := goodIn_app (goodIn_of _ (by decide +kernel)) ggX9_day_X9_isFrozen
set_option maxRecDepth 20000 in
theorem ggX9_day_X9_note : GoodIn wsX9_day wsX9_note := goodIn_r _ [18, 19, 20, 1, 72, 73, 74, 75, 76, 77, 78, 79, 80, 81, 82, 83, 84, 85, 86, 87, 88, 89, 90, 91, 92] (by decide +kernel) (by decide +kernel)
set_option maxRecDepth 20000 in
theorem gX9_day_X9_note : GoodIn wsX9_day (wsV RX9 154 RX9 yX9_note wsX9_note) := goodIn_app (goodIn_of _ (by decide +kernel)) ggX9_day_X9_note
set_option maxRecDepth 20000 in
theorem ggX9_day_X9_oneDay : GoodIn wsX9_day wsX9_oneDay := goodIn_r _ [24, 7, 1, 25, 26, 27, 5, 28, 11, 12, 13, 14, 29, 30, 31, 32, 33, 34, 35, 36, 37, 38, 39, 40, 41, 42, 43, 44, 45, 46, 47, 48, 49, 50, 51, 52, 53, 54, 55, 56, 57, 58, 59, 60, 61, 62, 63, 64, 65, 66, 67, 68, 69, 70, 71, 72, 73, 74, 75, 76, 77, 78, 79, 80, 81, 82, 83, 84, 85, 86, 87, 88, 89, 90, 91, 92] (by decide +kernel) (by decide +kernel)
set_option maxRecDepth 20000 in
theorem gX9_day_X9_oneDay : GoodIn wsX9_day (wsV RX9 166 RX9 yX9_oneDay wsX9_oneDay) := goodIn_app (goodIn_of _ (by decide +kernel)) ggX9_day_X9_oneDay
theorem dX9_day_0 : decode cX9_day 0 = .ok (.iload_n 1, 1) := by decide +kernel
theorem dX9_day_1 : decode cX9_day 1 = .ok (.iconst (-1), 1) := by decide +kernel
theorem dX9_day_2 : decode cX9_day 2 = .ok (.if_icmp .eq 14, 3) := by decide +kernel
theorem dX9_day_5 : decode cX9_day 5 = .ok (.aload_n 0, 1) := by decide +kernel
theorem dX9_day_6 : decode cX9_day 6 = .ok (.iload_n 1, 1) := by decide +kernel
theorem dX9_day_7 : decode cX9_day 7 = .ok (.invokevirtual 149, 3) := by decide +kernel
theorem dX9_day_10 : decode cX9_day 10 = .ok (.ifCond .ne 6, 3) := by decide +kernel
theorem dX9_day_13 : decode cX9_day 13 = .ok (.bipush (-2), 2) := by decide +kernel
theorem dX9_day_15 : decode cX9_day 15 = .ok (.ireturn, 1) := by decide +kernel
theorem dX9_day_16 : decode cX9_day 16 = .ok (.iload_n 1, 1) := by decide +kernel
theorem dX9_day_17 : decode cX9_day 17 = .ok (.ifCond .lt 14, 3) := by decide +kernel
theorem dX9_day_20 : decode cX9_day 20 = .ok (.aload_n 0, 1) := by decide +kernel
theorem dX9_day_21 : decode cX9_day 21 = .ok (.iload_n 1, 1) := by decide +kernel
theorem dX9_day_22 : decode cX9_day 22 = .ok (.invokevirtual 117, 3) := by decide +kernel
theorem dX9_day_25 : decode cX9_day 25 = .ok (.ifCond .eq 6, 3) := by decide +kernel
theorem dX9_day_28 : decode cX9_day 28 = .ok (.bipush (-4), 2) := by decide +kernel
theorem dX9_day_30 : decode cX9_day 30 = .ok (.ireturn, 1) := by decide +kernel
theorem dX9_day_31 : decode cX9_day 31 = .ok (.aload_n 0, 1) := by decide +kernel
theorem dX9_day_32 : decode cX9_day 32 = .ok (.getfield 13, 3) := by decide +kernel
theorem dX9_day_35 : decode cX9_day 35 = .ok (.bipush 14, 2) := by decide +kernel
theorem dX9_day_37 : decode cX9_day 37 = .ok (.iaload, 1) := by decide +kernel
theorem dX9_day_38 : decode cX9_day 38 = .ok (.sipush 999, 3) := by decide +kernel
theorem dX9_day_41 : decode cX9_day 41 = .ok (.if_icmp .ne 6, 3) := by decide +kernel
theorem dX9_day_44 : decode cX9_day 44 = .ok (.bipush (-5), 2) := by decide +kernel
theorem dX9_day_46 : decode cX9_day 46 = .ok (.ireturn, 1) := by decide +kernel
theorem dX9_day_47 : decode cX9_day 47 = .ok (.aload_n 0, 1) := by decide +kernel
theorem dX9_day_48 : decode cX9_day 48 = .ok (.invokevirtual 154, 3) := by decide +kernel
theorem dX9_day_51 : decode cX9_day 51 = .ok (.aload_n 0, 1) := by decide +kernel
theorem dX9_day_52 : decode cX9_day 52 = .ok (.iload_n 1, 1) := by decide +kernel
theorem dX9_day_53 : decode cX9_day 53 = .ok (.invokevirtual 166, 3) := by decide +kernel
theorem dX9_day_56 : decode cX9_day 56 = .ok (.ireturn, 1) := by decide +kernel
theorem dX9_undo_0 : decode cX9_undo 0 = .ok (.aload_n 0, 1) := by decide +kernel
theorem dX9_undo_1 : decode cX9_undo 1 = .ok (.getfield 114, 3) := by decide +kernel
theorem dX9_undo_4 : decode cX9_undo 4 = .ok (.ifCond .ne 6, 3) := by decide +kernel
theorem dX9_undo_7 : decode cX9_undo 7 = .ok (.bipush (-4), 2) := by decide +kernel
theorem dX9_undo_9 : decode cX9_undo 9 = .ok (.ireturn, 1) := by decide +kernel
theorem dX9_undo_10 : decode cX9_undo 10 = .ok (.aload_n 0, 1) := by decide +kernel
theorem dX9_undo_11 : decode cX9_undo 11 = .ok (.dup, 1) := by decide +kernel
theorem dX9_undo_12 : decode cX9_undo 12 = .ok (.getfield 114, 3) := by decide +kernel
theorem dX9_undo_15 : decode cX9_undo 15 = .ok (.iconst 1, 1) := by decide +kernel
theorem dX9_undo_16 : decode cX9_undo 16 = .ok (.isub, 1) := by decide +kernel
theorem dX9_undo_17 : decode cX9_undo 17 = .ok (.putfield 114, 3) := by decide +kernel
theorem dX9_undo_20 : decode cX9_undo 20 = .ok (.iconst 0, 1) := by decide +kernel
theorem dX9_undo_21 : decode cX9_undo 21 = .ok (.istore_n 1, 1) := by decide +kernel
theorem dX9_undo_22 : decode cX9_undo 22 = .ok (.iload_n 1, 1) := by decide +kernel
theorem dX9_undo_23 : decode cX9_undo 23 = .ok (.bipush 15, 2) := by decide +kernel
theorem dX9_undo_25 : decode cX9_undo 25 = .ok (.if_icmp .ge 29, 3) := by decide +kernel
theorem dX9_undo_28 : decode cX9_undo 28 = .ok (.aload_n 0, 1) := by decide +kernel
theorem dX9_undo_29 : decode cX9_undo 29 = .ok (.getfield 13, 3) := by decide +kernel
theorem dX9_undo_32 : decode cX9_undo 32 = .ok (.iload_n 1, 1) := by decide +kernel
theorem dX9_undo_33 : decode cX9_undo 33 = .ok (.aload_n 0, 1) := by decide +kernel
theorem dX9_undo_34 : decode cX9_undo 34 = .ok (.getfield 22, 3) := by decide +kernel
theorem dX9_undo_37 : decode cX9_undo 37 = .ok (.bipush 15, 2) := by decide +kernel
theorem dX9_undo_39 : decode cX9_undo 39 = .ok (.aload_n 0, 1) := by decide +kernel
theorem dX9_undo_40 : decode cX9_undo 40 = .ok (.getfield 114, 3) := by decide +kernel
theorem dX9_undo_43 : decode cX9_undo 43 = .ok (.imul, 1) := by decide +kernel
theorem dX9_undo_44 : decode cX9_undo 44 = .ok (.iload_n 1, 1) := by decide +kernel
theorem dX9_undo_45 : decode cX9_undo 45 = .ok (.iadd, 1) := by decide +kernel
theorem dX9_undo_46 : decode cX9_undo 46 = .ok (.iaload, 1) := by decide +kernel
theorem dX9_undo_47 : decode cX9_undo 47 = .ok (.iastore, 1) := by decide +kernel
theorem dX9_undo_48 : decode cX9_undo 48 = .ok (.iinc 1 1, 3) := by decide +kernel
theorem dX9_undo_51 : decode cX9_undo 51 = .ok (.goto (-29), 3) := by decide +kernel
theorem dX9_undo_54 : decode cX9_undo 54 = .ok (.aload_n 0, 1) := by decide +kernel
theorem dX9_undo_55 : decode cX9_undo 55 = .ok (.getfield 114, 3) := by decide +kernel
theorem dX9_undo_58 : decode cX9_undo 58 = .ok (.ireturn, 1) := by decide +kernel
set_option maxRecDepth 20000 in
theorem ggX9_keep_X9_in : GoodIn wsX9_keep wsX9_in := goodIn_r _ [7] (by decide +kernel) (by decide +kernel)
set_option maxRecDepth 20000 in
theorem gX9_keep_X9_in : GoodIn wsX9_keep (va_wsS RX9 38 yX9_in wsX9_in) := goodIn_app (goodIn_of _ (by decide +kernel)) ggX9_keep_X9_in
theorem dX9_keep_0 : decode cX9_keep 0 = .ok (.iload_n 1, 1) := by decide +kernel
theorem dX9_keep_1 : decode cX9_keep 1 = .ok (.i2l, 1) := by decide +kernel
theorem dX9_keep_2 : decode cX9_keep 2 = .ok (.lconst 0, 1) := by decide +kernel
theorem dX9_keep_3 : decode cX9_keep 3 = .ok (.lconst 1, 1) := by decide +kernel
theorem dX9_keep_4 : decode cX9_keep 4 = .ok (.invokestatic 38, 3) := by decide +kernel
theorem dX9_keep_7 : decode cX9_keep 7 = .ok (.ifCond .ne 6, 3) := by decide +kernel
theorem dX9_keep_10 : decode cX9_keep 10 = .ok (.bipush (-2), 2) := by decide +kernel
theorem dX9_keep_12 : decode cX9_keep 12 = .ok (.ireturn, 1) := by decide +kernel
theorem dX9_keep_13 : decode cX9_keep 13 = .ok (.iconst 0, 1) := by decide +kernel
theorem dX9_keep_14 : decode cX9_keep 14 = .ok (.istore_n 2, 1) := by decide +kernel
theorem dX9_keep_15 : decode cX9_keep 15 = .ok (.iload_n 2, 1) := by decide +kernel
theorem dX9_keep_16 : decode cX9_keep 16 = .ok (.bipush 15, 2) := by decide +kernel
theorem dX9_keep_18 : decode cX9_keep 18 = .ok (.if_icmp .ge 26, 3) := by decide +kernel
theorem dX9_keep_21 : decode cX9_keep 21 = .ok (.aload_n 0, 1) := by decide +kernel
theorem dX9_keep_22 : decode cX9_keep 22 = .ok (.getfield 29, 3) := by decide +kernel
theorem dX9_keep_25 : decode cX9_keep 25 = .ok (.bipush 15, 2) := by decide +kernel
theorem dX9_keep_27 : decode cX9_keep 27 = .ok (.iload_n 1, 1) := by decide +kernel
theorem dX9_keep_28 : decode cX9_keep 28 = .ok (.imul, 1) := by decide +kernel
theorem dX9_keep_29 : decode cX9_keep 29 = .ok (.iload_n 2, 1) := by decide +kernel
theorem dX9_keep_30 : decode cX9_keep 30 = .ok (.iadd, 1) := by decide +kernel
theorem dX9_keep_31 : decode cX9_keep 31 = .ok (.aload_n 0, 1) := by decide +kernel
theorem dX9_keep_32 : decode cX9_keep 32 = .ok (.getfield 13, 3) := by decide +kernel
theorem dX9_keep_35 : decode cX9_keep 35 = .ok (.iload_n 2, 1) := by decide +kernel
theorem dX9_keep_36 : decode cX9_keep 36 = .ok (.iaload, 1) := by decide +kernel
theorem dX9_keep_37 : decode cX9_keep 37 = .ok (.iastore, 1) := by decide +kernel
theorem dX9_keep_38 : decode cX9_keep 38 = .ok (.iinc 2 1, 3) := by decide +kernel
theorem dX9_keep_41 : decode cX9_keep 41 = .ok (.goto (-26), 3) := by decide +kernel
theorem dX9_keep_44 : decode cX9_keep 44 = .ok (.aload_n 0, 1) := by decide +kernel
theorem dX9_keep_45 : decode cX9_keep 45 = .ok (.getfield 25, 3) := by decide +kernel
theorem dX9_keep_48 : decode cX9_keep 48 = .ok (.iload_n 1, 1) := by decide +kernel
theorem dX9_keep_49 : decode cX9_keep 49 = .ok (.iconst 1, 1) := by decide +kernel
theorem dX9_keep_50 : decode cX9_keep 50 = .ok (.bastore, 1) := by decide +kernel
theorem dX9_keep_51 : decode cX9_keep 51 = .ok (.aload_n 0, 1) := by decide +kernel
theorem dX9_keep_52 : decode cX9_keep 52 = .ok (.getfield 13, 3) := by decide +kernel
theorem dX9_keep_55 : decode cX9_keep 55 = .ok (.bipush 14, 2) := by decide +kernel
theorem dX9_keep_57 : decode cX9_keep 57 = .ok (.iaload, 1) := by decide +kernel
theorem dX9_keep_58 : decode cX9_keep 58 = .ok (.ireturn, 1) := by decide +kernel
set_option maxRecDepth 20000 in
theorem ggX9_back_X9_in : GoodIn wsX9_back wsX9_in := goodIn_r _ [8] (by decide +kernel) (by decide +kernel)
set_option maxRecDepth 20000 in
theorem gX9_back_X9_in : GoodIn wsX9_back (va_wsS RX9 38 yX9_in wsX9_in) := goodIn_app (goodIn_of _ (by decide +kernel)) ggX9_back_X9_in
theorem dX9_back_0 : decode cX9_back 0 = .ok (.iload_n 1, 1) := by decide +kernel
theorem dX9_back_1 : decode cX9_back 1 = .ok (.i2l, 1) := by decide +kernel
theorem dX9_back_2 : decode cX9_back 2 = .ok (.lconst 0, 1) := by decide +kernel
theorem dX9_back_3 : decode cX9_back 3 = .ok (.lconst 1, 1) := by decide +kernel
theorem dX9_back_4 : decode cX9_back 4 = .ok (.invokestatic 38, 3) := by decide +kernel
theorem dX9_back_7 : decode cX9_back 7 = .ok (.ifCond .ne 6, 3) := by decide +kernel
theorem dX9_back_10 : decode cX9_back 10 = .ok (.bipush (-2), 2) := by decide +kernel
theorem dX9_back_12 : decode cX9_back 12 = .ok (.ireturn, 1) := by decide +kernel
theorem dX9_back_13 : decode cX9_back 13 = .ok (.aload_n 0, 1) := by decide +kernel
theorem dX9_back_14 : decode cX9_back 14 = .ok (.getfield 25, 3) := by decide +kernel
theorem dX9_back_17 : decode cX9_back 17 = .ok (.iload_n 1, 1) := by decide +kernel
theorem dX9_back_18 : decode cX9_back 18 = .ok (.baload, 1) := by decide +kernel
theorem dX9_back_19 : decode cX9_back 19 = .ok (.ifCond .ne 6, 3) := by decide +kernel
theorem dX9_back_22 : decode cX9_back 22 = .ok (.bipush (-4), 2) := by decide +kernel
theorem dX9_back_24 : decode cX9_back 24 = .ok (.ireturn, 1) := by decide +kernel
theorem dX9_back_25 : decode cX9_back 25 = .ok (.iconst 0, 1) := by decide +kernel
theorem dX9_back_26 : decode cX9_back 26 = .ok (.istore_n 2, 1) := by decide +kernel
theorem dX9_back_27 : decode cX9_back 27 = .ok (.iload_n 2, 1) := by decide +kernel
theorem dX9_back_28 : decode cX9_back 28 = .ok (.bipush 15, 2) := by decide +kernel
theorem dX9_back_30 : decode cX9_back 30 = .ok (.if_icmp .ge 26, 3) := by decide +kernel
theorem dX9_back_33 : decode cX9_back 33 = .ok (.aload_n 0, 1) := by decide +kernel
theorem dX9_back_34 : decode cX9_back 34 = .ok (.getfield 13, 3) := by decide +kernel
theorem dX9_back_37 : decode cX9_back 37 = .ok (.iload_n 2, 1) := by decide +kernel
theorem dX9_back_38 : decode cX9_back 38 = .ok (.aload_n 0, 1) := by decide +kernel
theorem dX9_back_39 : decode cX9_back 39 = .ok (.getfield 29, 3) := by decide +kernel
theorem dX9_back_42 : decode cX9_back 42 = .ok (.bipush 15, 2) := by decide +kernel
theorem dX9_back_44 : decode cX9_back 44 = .ok (.iload_n 1, 1) := by decide +kernel
theorem dX9_back_45 : decode cX9_back 45 = .ok (.imul, 1) := by decide +kernel
theorem dX9_back_46 : decode cX9_back 46 = .ok (.iload_n 2, 1) := by decide +kernel
theorem dX9_back_47 : decode cX9_back 47 = .ok (.iadd, 1) := by decide +kernel
theorem dX9_back_48 : decode cX9_back 48 = .ok (.iaload, 1) := by decide +kernel
theorem dX9_back_49 : decode cX9_back 49 = .ok (.iastore, 1) := by decide +kernel
theorem dX9_back_50 : decode cX9_back 50 = .ok (.iinc 2 1, 3) := by decide +kernel
theorem dX9_back_53 : decode cX9_back 53 = .ok (.goto (-26), 3) := by decide +kernel
theorem dX9_back_56 : decode cX9_back 56 = .ok (.aload_n 0, 1) := by decide +kernel
theorem dX9_back_57 : decode cX9_back 57 = .ok (.iconst 0, 1) := by decide +kernel
theorem dX9_back_58 : decode cX9_back 58 = .ok (.putfield 114, 3) := by decide +kernel
theorem dX9_back_61 : decode cX9_back 61 = .ok (.aload_n 0, 1) := by decide +kernel
theorem dX9_back_62 : decode cX9_back 62 = .ok (.getfield 13, 3) := by decide +kernel
theorem dX9_back_65 : decode cX9_back 65 = .ok (.bipush 14, 2) := by decide +kernel
theorem dX9_back_67 : decode cX9_back 67 = .ok (.iaload, 1) := by decide +kernel
theorem dX9_back_68 : decode cX9_back 68 = .ok (.ireturn, 1) := by decide +kernel
set_option maxRecDepth 20000 in
theorem ggX9_areFamilies_X9_in : GoodIn wsX9_areFamilies wsX9_in := goodIn_r _ [5] (by decide +kernel) (by decide +kernel)
set_option maxRecDepth 20000 in
theorem gX9_areFamilies_X9_in : GoodIn wsX9_areFamilies (va_wsS RX9 38 yX9_in wsX9_in) := goodIn_app (goodIn_of _ (by decide +kernel)) ggX9_areFamilies_X9_in
theorem dX9_areFamilies_0 : decode cX9_areFamilies 0 = .ok (.iload_n 1, 1) := by decide +kernel
theorem dX9_areFamilies_1 : decode cX9_areFamilies 1 = .ok (.i2l, 1) := by decide +kernel
theorem dX9_areFamilies_2 : decode cX9_areFamilies 2 = .ok (.lconst 0, 1) := by decide +kernel
theorem dX9_areFamilies_3 : decode cX9_areFamilies 3 = .ok (.iconst 1, 1) := by decide +kernel
theorem dX9_areFamilies_4 : decode cX9_areFamilies 4 = .ok (.aload_n 0, 1) := by decide +kernel
theorem dX9_areFamilies_5 : decode cX9_areFamilies 5 = .ok (.getfield 7, 3) := by decide +kernel
theorem dX9_areFamilies_8 : decode cX9_areFamilies 8 = .ok (.iconst 0, 1) := by decide +kernel
theorem dX9_areFamilies_9 : decode cX9_areFamilies 9 = .ok (.iaload, 1) := by decide +kernel
theorem dX9_areFamilies_10 : decode cX9_areFamilies 10 = .ok (.ishl, 1) := by decide +kernel
theorem dX9_areFamilies_11 : decode cX9_areFamilies 11 = .ok (.iconst 1, 1) := by decide +kernel
theorem dX9_areFamilies_12 : decode cX9_areFamilies 12 = .ok (.isub, 1) := by decide +kernel
theorem dX9_areFamilies_13 : decode cX9_areFamilies 13 = .ok (.i2l, 1) := by decide +kernel
theorem dX9_areFamilies_14 : decode cX9_areFamilies 14 = .ok (.invokestatic 38, 3) := by decide +kernel
theorem dX9_areFamilies_17 : decode cX9_areFamilies 17 = .ok (.ireturn, 1) := by decide +kernel
set_option maxRecDepth 20000 in
theorem ggX9_warm_X9_areFamilies : GoodIn wsX9_warm wsX9_areFamilies := goodIn_r _ [5, 6, 7, 8, 4, 9, 17, 18, 19, 20, 21, 22, 23, 24, 25, 26, 27, 28, 29, 30, 31, 32, 33, 34, 35, 36, 37] (by decide +kernel) (by decide +kernel)
set_option maxRecDepth 20000 in
theorem gX9_warm_X9_areFamilies : GoodIn wsX9_warm (wsV RX9 169 RX9 yX9_areFamilies wsX9_areFamilies) := goodIn_app (goodIn_of _ (by decide +kernel)) ggX9_warm_X9_areFamilies
set_option maxRecDepth 20000 in
theorem ggX9_warm_X9_warmBy : GoodIn wsX9_warm wsX9_warmBy := goodIn_r _ [13, 6, 14, 15, 4, 16, 17, 18, 19, 20, 21, 22, 23, 24, 25, 26, 27, 28, 29, 30, 31, 32, 33, 34, 35, 36, 37] (by decide +kernel) (by decide +kernel)
set_option maxRecDepth 20000 in
theorem gX9_warm_X9_warmBy : GoodIn wsX9_warm (wsV RX9 163 RX9 yX9_warmBy wsX9_warmBy) := goodIn_app (goodIn_of _ (by decide +kernel)) ggX9_warm_X9_warmBy
theorem dX9_warm_0 : decode cX9_warm 0 = .ok (.aload_n 0, 1) := by decide +kernel
theorem dX9_warm_1 : decode cX9_warm 1 = .ok (.iload_n 1, 1) := by decide +kernel
theorem dX9_warm_2 : decode cX9_warm 2 = .ok (.invokevirtual 169, 3) := by decide +kernel
theorem dX9_warm_5 : decode cX9_warm 5 = .ok (.ifCond .eq 11, 3) := by decide +kernel
theorem dX9_warm_8 : decode cX9_warm 8 = .ok (.aload_n 0, 1) := by decide +kernel
theorem dX9_warm_9 : decode cX9_warm 9 = .ok (.iload_n 1, 1) := by decide +kernel
theorem dX9_warm_10 : decode cX9_warm 10 = .ok (.invokevirtual 163, 3) := by decide +kernel
theorem dX9_warm_13 : decode cX9_warm 13 = .ok (.goto 5, 3) := by decide +kernel
theorem dX9_warm_16 : decode cX9_warm 16 = .ok (.bipush (-2), 2) := by decide +kernel
theorem dX9_warm_18 : decode cX9_warm 18 = .ok (.ireturn, 1) := by decide +kernel
set_option maxRecDepth 20000 in
theorem ggX9_carried_X9_isFamily : GoodIn wsX9_carried wsX9_isFamily := goodIn_r _ [5, 6, 7, 8, 4, 9, 54, 55, 56, 57, 58, 59, 60, 61, 62, 63, 64, 65, 66, 67, 68, 69, 70, 71, 72, 73, 74] (by decide +kernel) (by decide +kernel)
set_option maxRecDepth 20000 in
theorem gX9_carried_X9_isFamily : GoodIn wsX9_carried (wsV RX9 149 RX9 yX9_isFamily wsX9_isFamily) := goodIn_app (goodIn_of _ (by decide +kernel)) ggX9_carried_X9_isFamily
set_option maxRecDepth 20000 in
theorem ggX9_carried_X9_isFrozen : GoodIn wsX9_carried wsX9_isFrozen := goodIn_r _ [13, 14, 54, 55, 56, 57, 58, 59, 60, 61, 62, 63, 64, 65, 66, 67, 68, 69, 70, 71, 72, 73, 74] (by decide +kernel) (by decide +kernel)
set_option maxRecDepth 20000 in
theorem gX9_carried_X9_isFrozen : GoodIn wsX9_carried (wsV RX9 117 RX9 yX9_isFrozen wsX9_isFrozen) := goodIn_app (goodIn_of _ (by decide +kernel)) ggX9_carried_X9_isFrozen
set_option maxRecDepth 20000 in
theorem ggX9_carried_X9_isCarried : GoodIn wsX9_carried wsX9_isCarried := goodIn_r _ [18, 6, 19, 20, 21, 4, 22, 23, 24, 25, 26, 14, 27, 28, 29, 30, 31, 32, 33, 34, 35, 36, 37, 10, 11, 12, 13, 38, 39, 40, 41, 42, 43, 44, 45, 46, 47, 48, 49, 50, 51, 52, 53, 54, 55, 56, 57, 58, 59, 60, 61, 62, 63, 64, 65, 66, 67, 68, 69, 70, 71, 72, 73, 74] (by decide +kernel) (by decide +kernel)
set_option maxRecDepth 20000 in
theorem gX9_carried_X9_isCarried : GoodIn wsX9_carried (wsV RX9 160 RX9 yX9_isCarried wsX9_isCarried) := goodIn_app (goodIn_of _ (by decide +kernel)) ggX9_carried_X9_isCarried
theorem dX9_carried_0 : decode cX9_carried 0 = .ok (.aload_n 0, 1) := by decide +kernel
theorem dX9_carried_1 : decode cX9_carried 1 = .ok (.iload_n 1, 1) := by decide +kernel
theorem dX9_carried_2 : decode cX9_carried 2 = .ok (.invokevirtual 149, 3) := by decide +kernel
theorem dX9_carried_5 : decode cX9_carried 5 = .ok (.ifCond .ne 6, 3) := by decide +kernel
theorem dX9_carried_8 : decode cX9_carried 8 = .ok (.bipush (-2), 2) := by decide +kernel
theorem dX9_carried_10 : decode cX9_carried 10 = .ok (.ireturn, 1) := by decide +kernel
theorem dX9_carried_11 : decode cX9_carried 11 = .ok (.aload_n 0, 1) := by decide +kernel
theorem dX9_carried_12 : decode cX9_carried 12 = .ok (.iload_n 1, 1) := by decide +kernel
theorem dX9_carried_13 : decode cX9_carried 13 = .ok (.invokevirtual 117, 3) := by decide +kernel
theorem dX9_carried_16 : decode cX9_carried 16 = .ok (.ifCond .eq 8, 3) := by decide +kernel
theorem dX9_carried_19 : decode cX9_carried 19 = .ok (.bipush (-4), 2) := by decide +kernel
theorem dX9_carried_21 : decode cX9_carried 21 = .ok (.goto 16, 3) := by decide +kernel
theorem dX9_carried_24 : decode cX9_carried 24 = .ok (.aload_n 0, 1) := by decide +kernel
theorem dX9_carried_25 : decode cX9_carried 25 = .ok (.iload_n 1, 1) := by decide +kernel
theorem dX9_carried_26 : decode cX9_carried 26 = .ok (.invokevirtual 160, 3) := by decide +kernel
theorem dX9_carried_29 : decode cX9_carried 29 = .ok (.ifCond .eq 7, 3) := by decide +kernel
theorem dX9_carried_32 : decode cX9_carried 32 = .ok (.iconst 1, 1) := by decide +kernel
theorem dX9_carried_33 : decode cX9_carried 33 = .ok (.goto 4, 3) := by decide +kernel
theorem dX9_carried_36 : decode cX9_carried 36 = .ok (.iconst 0, 1) := by decide +kernel
theorem dX9_carried_37 : decode cX9_carried 37 = .ok (.ireturn, 1) := by decide +kernel
set_option maxRecDepth 20000 in
theorem ggX9_findFewest_X9_alive : GoodIn wsX9_findFewest wsX9_alive := goodIn_r _ [10, 5, 11, 12, 13, 9, 14, 15, 16, 17, 18, 19, 38, 39, 40, 41, 42, 43, 44, 45, 46, 47, 48, 49, 50, 51, 52, 53, 54, 55, 56, 57, 58] (by decide +kernel) (by decide +kernel)
set_option maxRecDepth 20000 in
theorem gX9_findFewest_X9_alive : GoodIn wsX9_findFewest (wsV RX9 140 RX9 yX9_alive wsX9_alive) := goodIn_app (goodIn_of _ (by decide +kernel)) ggX9_findFewest_X9_alive
set_option maxRecDepth 20000 in
theorem ggX9_findFewest_X9_has : GoodIn wsX9_findFewest wsX9_has := goodIn_r _ [22] (by decide +kernel) (by decide +kernel)
set_option maxRecDepth 20000 in
theorem gX9_findFewest_X9_has : GoodIn wsX9_findFewest (va_wsS RX9 123 yX9_has wsX9_has) := goodIn_app (goodIn_of _ (by decide +kernel)) ggX9_findFewest_X9_has
set_option maxRecDepth 20000 in
theorem ggX9_findFewest_X9_warmBy : GoodIn wsX9_findFewest wsX9_warmBy := goodIn_r _ [26, 5, 20, 21, 9, 22, 38, 39, 40, 41, 42, 43, 44, 45, 46, 47, 48, 49, 50, 51, 52, 53, 54, 55, 56, 57, 58] (by decide +kernel) (by decide +kernel)
set_option maxRecDepth 20000 in
theorem gX9_findFewest_X9_warmBy : GoodIn wsX9_findFewest (wsV RX9 163 RX9 yX9_warmBy wsX9_warmBy) := goodIn_app (goodIn_of _ (by decide +kernel)) ggX9_findFewest_X9_warmBy
set_option maxRecDepth 20000 in
theorem ggX9_findFewest_X9_coldNow : GoodIn wsX9_findFewest wsX9_coldNow := goodIn_r _ [30, 5, 19, 38, 39, 40, 41, 42, 43, 44, 45, 46, 47, 48, 49, 50, 51, 52, 53, 54, 55, 56, 57, 58] (by decide +kernel) (by decide +kernel)
set_option maxRecDepth 20000 in
theorem gX9_findFewest_X9_coldNow : GoodIn wsX9_findFewest (wsV RX9 157 RX9 yX9_coldNow wsX9_coldNow) := goodIn_app (goodIn_of _ (by decide +kernel)) ggX9_findFewest_X9_coldNow
set_option maxRecDepth 20000 in
theorem ggX9_findFewest_X9_ones : GoodIn wsX9_findFewest wsX9_ones := goodIn_r _ [33] (by decide +kernel) (by decide +kernel)
set_option maxRecDepth 20000 in
theorem gX9_findFewest_X9_ones : GoodIn wsX9_findFewest (va_wsS RX9 175 yX9_ones wsX9_ones) := goodIn_app (goodIn_of _ (by decide +kernel)) ggX9_findFewest_X9_ones
set_option maxRecDepth 20000 in
theorem ggX9_findFewest_X9_isFew : GoodIn wsX9_findFewest wsX9_isFew := goodIn_r _ [37, 1, 20, 21, 9, 22, 31, 32, 33, 23, 24, 25, 26, 5, 27, 28, 29, 30, 19, 38, 39, 40, 41, 42, 43, 44, 45, 46, 47, 48, 49, 50, 51, 52, 53, 54, 55, 56, 57, 58] (by decide +kernel) (by decide +kernel)
set_option maxRecDepth 20000 in
theorem gX9_findFewest_X9_isFew : GoodIn wsX9_findFewest (wsV RX9 184 RX9 yX9_isFew wsX9_isFew) := goodIn_app (goodIn_of _ (by decide +kernel)) ggX9_findFewest_X9_isFew
theorem dX9_findFewest_0 : decode cX9_findFewest 0 = .ok (.aload_n 0, 1) := by decide +kernel
theorem dX9_findFewest_1 : decode cX9_findFewest 1 = .ok (.invokevirtual 140, 3) := by decide +kernel
theorem dX9_findFewest_4 : decode cX9_findFewest 4 = .ok (.istore_n 2, 1) := by decide +kernel
theorem dX9_findFewest_5 : decode cX9_findFewest 5 = .ok (.aload_n 0, 1) := by decide +kernel
theorem dX9_findFewest_6 : decode cX9_findFewest 6 = .ok (.bipush 8, 2) := by decide +kernel
theorem dX9_findFewest_8 : decode cX9_findFewest 8 = .ok (.putfield 172, 3) := by decide +kernel
theorem dX9_findFewest_11 : decode cX9_findFewest 11 = .ok (.iconst 0, 1) := by decide +kernel
theorem dX9_findFewest_12 : decode cX9_findFewest 12 = .ok (.istore_n 3, 1) := by decide +kernel
theorem dX9_findFewest_13 : decode cX9_findFewest 13 = .ok (.iload_n 3, 1) := by decide +kernel
theorem dX9_findFewest_14 : decode cX9_findFewest 14 = .ok (.iload_n 2, 1) := by decide +kernel
theorem dX9_findFewest_15 : decode cX9_findFewest 15 = .ok (.if_icmp .gt 75, 3) := by decide +kernel
theorem dX9_findFewest_18 : decode cX9_findFewest 18 = .ok (.iload_n 3, 1) := by decide +kernel
theorem dX9_findFewest_19 : decode cX9_findFewest 19 = .ok (.iload_n 1, 1) := by decide +kernel
theorem dX9_findFewest_20 : decode cX9_findFewest 20 = .ok (.invokestatic 123, 3) := by decide +kernel
theorem dX9_findFewest_23 : decode cX9_findFewest 23 = .ok (.ifCond .eq 27, 3) := by decide +kernel
theorem dX9_findFewest_26 : decode cX9_findFewest 26 = .ok (.iload_n 3, 1) := by decide +kernel
theorem dX9_findFewest_27 : decode cX9_findFewest 27 = .ok (.iload_n 2, 1) := by decide +kernel
theorem dX9_findFewest_28 : decode cX9_findFewest 28 = .ok (.iconst (-1), 1) := by decide +kernel
theorem dX9_findFewest_29 : decode cX9_findFewest 29 = .ok (.ixor, 1) := by decide +kernel
theorem dX9_findFewest_30 : decode cX9_findFewest 30 = .ok (.iand, 1) := by decide +kernel
theorem dX9_findFewest_31 : decode cX9_findFewest 31 = .ok (.ifCond .ne 19, 3) := by decide +kernel
theorem dX9_findFewest_34 : decode cX9_findFewest 34 = .ok (.aload_n 0, 1) := by decide +kernel
theorem dX9_findFewest_35 : decode cX9_findFewest 35 = .ok (.iload_n 3, 1) := by decide +kernel
theorem dX9_findFewest_36 : decode cX9_findFewest 36 = .ok (.invokevirtual 163, 3) := by decide +kernel
theorem dX9_findFewest_39 : decode cX9_findFewest 39 = .ok (.aload_n 0, 1) := by decide +kernel
theorem dX9_findFewest_40 : decode cX9_findFewest 40 = .ok (.invokevirtual 157, 3) := by decide +kernel
theorem dX9_findFewest_43 : decode cX9_findFewest 43 = .ok (.if_icmp .lt 7, 3) := by decide +kernel
theorem dX9_findFewest_46 : decode cX9_findFewest 46 = .ok (.iconst 1, 1) := by decide +kernel
theorem dX9_findFewest_47 : decode cX9_findFewest 47 = .ok (.goto 4, 3) := by decide +kernel
theorem dX9_findFewest_50 : decode cX9_findFewest 50 = .ok (.iconst 0, 1) := by decide +kernel
theorem dX9_findFewest_51 : decode cX9_findFewest 51 = .ok (.istore 4, 2) := by decide +kernel
theorem dX9_findFewest_53 : decode cX9_findFewest 53 = .ok (.aload_n 0, 1) := by decide +kernel
theorem dX9_findFewest_54 : decode cX9_findFewest 54 = .ok (.iload 4, 2) := by decide +kernel
theorem dX9_findFewest_56 : decode cX9_findFewest 56 = .ok (.ifCond .eq 21, 3) := by decide +kernel
theorem dX9_findFewest_59 : decode cX9_findFewest 59 = .ok (.iload_n 3, 1) := by decide +kernel
theorem dX9_findFewest_60 : decode cX9_findFewest 60 = .ok (.invokestatic 175, 3) := by decide +kernel
theorem dX9_findFewest_63 : decode cX9_findFewest 63 = .ok (.aload_n 0, 1) := by decide +kernel
theorem dX9_findFewest_64 : decode cX9_findFewest 64 = .ok (.getfield 172, 3) := by decide +kernel
theorem dX9_findFewest_67 : decode cX9_findFewest 67 = .ok (.if_icmp .ge 10, 3) := by decide +kernel
theorem dX9_findFewest_70 : decode cX9_findFewest 70 = .ok (.iload_n 3, 1) := by decide +kernel
theorem dX9_findFewest_71 : decode cX9_findFewest 71 = .ok (.invokestatic 175, 3) := by decide +kernel
theorem dX9_findFewest_74 : decode cX9_findFewest 74 = .ok (.goto 7, 3) := by decide +kernel
theorem dX9_findFewest_77 : decode cX9_findFewest 77 = .ok (.aload_n 0, 1) := by decide +kernel
theorem dX9_findFewest_78 : decode cX9_findFewest 78 = .ok (.getfield 172, 3) := by decide +kernel
theorem dX9_findFewest_81 : decode cX9_findFewest 81 = .ok (.putfield 172, 3) := by decide +kernel
theorem dX9_findFewest_84 : decode cX9_findFewest 84 = .ok (.iinc 3 1, 3) := by decide +kernel
theorem dX9_findFewest_87 : decode cX9_findFewest 87 = .ok (.goto (-74), 3) := by decide +kernel
theorem dX9_findFewest_90 : decode cX9_findFewest 90 = .ok (.aload_n 0, 1) := by decide +kernel
theorem dX9_findFewest_91 : decode cX9_findFewest 91 = .ok (.iconst 0, 1) := by decide +kernel
theorem dX9_findFewest_92 : decode cX9_findFewest 92 = .ok (.putfield 178, 3) := by decide +kernel
theorem dX9_findFewest_95 : decode cX9_findFewest 95 = .ok (.iconst 1, 1) := by decide +kernel
theorem dX9_findFewest_96 : decode cX9_findFewest 96 = .ok (.istore_n 3, 1) := by decide +kernel
theorem dX9_findFewest_97 : decode cX9_findFewest 97 = .ok (.aload_n 0, 1) := by decide +kernel
theorem dX9_findFewest_98 : decode cX9_findFewest 98 = .ok (.iconst 0, 1) := by decide +kernel
theorem dX9_findFewest_99 : decode cX9_findFewest 99 = .ok (.putfield 181, 3) := by decide +kernel
theorem dX9_findFewest_102 : decode cX9_findFewest 102 = .ok (.iload_n 2, 1) := by decide +kernel
theorem dX9_findFewest_103 : decode cX9_findFewest 103 = .ok (.istore 4, 2) := by decide +kernel
theorem dX9_findFewest_105 : decode cX9_findFewest 105 = .ok (.iload 4, 2) := by decide +kernel
theorem dX9_findFewest_107 : decode cX9_findFewest 107 = .ok (.ifCond .lt 36, 3) := by decide +kernel
theorem dX9_findFewest_110 : decode cX9_findFewest 110 = .ok (.aload_n 0, 1) := by decide +kernel
theorem dX9_findFewest_111 : decode cX9_findFewest 111 = .ok (.iload 4, 2) := by decide +kernel
theorem dX9_findFewest_113 : decode cX9_findFewest 113 = .ok (.iload_n 1, 1) := by decide +kernel
theorem dX9_findFewest_114 : decode cX9_findFewest 114 = .ok (.iload_n 2, 1) := by decide +kernel
theorem dX9_findFewest_115 : decode cX9_findFewest 115 = .ok (.invokevirtual 184, 3) := by decide +kernel
theorem dX9_findFewest_118 : decode cX9_findFewest 118 = .ok (.ifCond .eq 19, 3) := by decide +kernel
theorem dX9_findFewest_121 : decode cX9_findFewest 121 = .ok (.aload_n 0, 1) := by decide +kernel
theorem dX9_findFewest_122 : decode cX9_findFewest 122 = .ok (.dup, 1) := by decide +kernel
theorem dX9_findFewest_123 : decode cX9_findFewest 123 = .ok (.getfield 178, 3) := by decide +kernel
theorem dX9_findFewest_126 : decode cX9_findFewest 126 = .ok (.iconst 1, 1) := by decide +kernel
theorem dX9_findFewest_127 : decode cX9_findFewest 127 = .ok (.iadd, 1) := by decide +kernel
theorem dX9_findFewest_128 : decode cX9_findFewest 128 = .ok (.putfield 178, 3) := by decide +kernel
theorem dX9_findFewest_131 : decode cX9_findFewest 131 = .ok (.aload_n 0, 1) := by decide +kernel
theorem dX9_findFewest_132 : decode cX9_findFewest 132 = .ok (.iload 4, 2) := by decide +kernel
theorem dX9_findFewest_134 : decode cX9_findFewest 134 = .ok (.putfield 188, 3) := by decide +kernel
theorem dX9_findFewest_137 : decode cX9_findFewest 137 = .ok (.iinc 4 (-1), 3) := by decide +kernel
theorem dX9_findFewest_140 : decode cX9_findFewest 140 = .ok (.goto (-35), 3) := by decide +kernel
theorem dX9_findFewest_143 : decode cX9_findFewest 143 = .ok (.iconst 0, 1) := by decide +kernel
theorem dX9_findFewest_144 : decode cX9_findFewest 144 = .ok (.istore 4, 2) := by decide +kernel
theorem dX9_findFewest_146 : decode cX9_findFewest 146 = .ok (.iload 4, 2) := by decide +kernel
theorem dX9_findFewest_148 : decode cX9_findFewest 148 = .ok (.aload_n 0, 1) := by decide +kernel
theorem dX9_findFewest_149 : decode cX9_findFewest 149 = .ok (.getfield 7, 3) := by decide +kernel
theorem dX9_findFewest_152 : decode cX9_findFewest 152 = .ok (.iconst 0, 1) := by decide +kernel
theorem dX9_findFewest_153 : decode cX9_findFewest 153 = .ok (.iaload, 1) := by decide +kernel
theorem dX9_findFewest_154 : decode cX9_findFewest 154 = .ok (.if_icmp .ge 101, 3) := by decide +kernel
theorem dX9_findFewest_157 : decode cX9_findFewest 157 = .ok (.iconst 0, 1) := by decide +kernel
theorem dX9_findFewest_158 : decode cX9_findFewest 158 = .ok (.istore 5, 2) := by decide +kernel
theorem dX9_findFewest_160 : decode cX9_findFewest 160 = .ok (.iconst 0, 1) := by decide +kernel
theorem dX9_findFewest_161 : decode cX9_findFewest 161 = .ok (.istore 6, 2) := by decide +kernel
theorem dX9_findFewest_163 : decode cX9_findFewest 163 = .ok (.iload 6, 2) := by decide +kernel
theorem dX9_findFewest_165 : decode cX9_findFewest 165 = .ok (.iload_n 2, 1) := by decide +kernel
theorem dX9_findFewest_166 : decode cX9_findFewest 166 = .ok (.if_icmp .gt 46, 3) := by decide +kernel
theorem dX9_findFewest_169 : decode cX9_findFewest 169 = .ok (.iload 4, 2) := by decide +kernel
theorem dX9_findFewest_171 : decode cX9_findFewest 171 = .ok (.iload_n 1, 1) := by decide +kernel
theorem dX9_findFewest_172 : decode cX9_findFewest 172 = .ok (.if_icmp .eq 40, 3) := by decide +kernel
theorem dX9_findFewest_175 : decode cX9_findFewest 175 = .ok (.iload 5, 2) := by decide +kernel
theorem dX9_findFewest_177 : decode cX9_findFewest 177 = .ok (.iload 6, 2) := by decide +kernel
theorem dX9_findFewest_179 : decode cX9_findFewest 179 = .ok (.iload 4, 2) := by decide +kernel
theorem dX9_findFewest_181 : decode cX9_findFewest 181 = .ok (.invokestatic 123, 3) := by decide +kernel
theorem dX9_findFewest_184 : decode cX9_findFewest 184 = .ok (.ifCond .eq 18, 3) := by decide +kernel
theorem dX9_findFewest_187 : decode cX9_findFewest 187 = .ok (.aload_n 0, 1) := by decide +kernel
theorem dX9_findFewest_188 : decode cX9_findFewest 188 = .ok (.iload 6, 2) := by decide +kernel
theorem dX9_findFewest_190 : decode cX9_findFewest 190 = .ok (.iload_n 1, 1) := by decide +kernel
theorem dX9_findFewest_191 : decode cX9_findFewest 191 = .ok (.iload_n 2, 1) := by decide +kernel
theorem dX9_findFewest_192 : decode cX9_findFewest 192 = .ok (.invokevirtual 184, 3) := by decide +kernel
theorem dX9_findFewest_195 : decode cX9_findFewest 195 = .ok (.ifCond .eq 7, 3) := by decide +kernel
theorem dX9_findFewest_198 : decode cX9_findFewest 198 = .ok (.iconst 1, 1) := by decide +kernel
theorem dX9_findFewest_199 : decode cX9_findFewest 199 = .ok (.goto 4, 3) := by decide +kernel
theorem dX9_findFewest_202 : decode cX9_findFewest 202 = .ok (.iconst 0, 1) := by decide +kernel
theorem dX9_findFewest_203 : decode cX9_findFewest 203 = .ok (.iadd, 1) := by decide +kernel
theorem dX9_findFewest_204 : decode cX9_findFewest 204 = .ok (.istore 5, 2) := by decide +kernel
theorem dX9_findFewest_206 : decode cX9_findFewest 206 = .ok (.iinc 6 1, 3) := by decide +kernel
theorem dX9_findFewest_209 : decode cX9_findFewest 209 = .ok (.goto (-46), 3) := by decide +kernel
theorem dX9_findFewest_212 : decode cX9_findFewest 212 = .ok (.iload 5, 2) := by decide +kernel
theorem dX9_findFewest_214 : decode cX9_findFewest 214 = .ok (.iload_n 3, 1) := by decide +kernel
theorem dX9_findFewest_215 : decode cX9_findFewest 215 = .ok (.if_icmp .le 11, 3) := by decide +kernel
theorem dX9_findFewest_218 : decode cX9_findFewest 218 = .ok (.iload 5, 2) := by decide +kernel
theorem dX9_findFewest_220 : decode cX9_findFewest 220 = .ok (.istore_n 3, 1) := by decide +kernel
theorem dX9_findFewest_221 : decode cX9_findFewest 221 = .ok (.aload_n 0, 1) := by decide +kernel
theorem dX9_findFewest_222 : decode cX9_findFewest 222 = .ok (.iconst 0, 1) := by decide +kernel
theorem dX9_findFewest_223 : decode cX9_findFewest 223 = .ok (.putfield 181, 3) := by decide +kernel
theorem dX9_findFewest_226 : decode cX9_findFewest 226 = .ok (.aload_n 0, 1) := by decide +kernel
theorem dX9_findFewest_227 : decode cX9_findFewest 227 = .ok (.dup, 1) := by decide +kernel
theorem dX9_findFewest_228 : decode cX9_findFewest 228 = .ok (.getfield 181, 3) := by decide +kernel
theorem dX9_findFewest_231 : decode cX9_findFewest 231 = .ok (.iload 5, 2) := by decide +kernel
theorem dX9_findFewest_233 : decode cX9_findFewest 233 = .ok (.iload_n 3, 1) := by decide +kernel
theorem dX9_findFewest_234 : decode cX9_findFewest 234 = .ok (.if_icmp .ne 10, 3) := by decide +kernel
theorem dX9_findFewest_237 : decode cX9_findFewest 237 = .ok (.iconst 1, 1) := by decide +kernel
theorem dX9_findFewest_238 : decode cX9_findFewest 238 = .ok (.iload 4, 2) := by decide +kernel
theorem dX9_findFewest_240 : decode cX9_findFewest 240 = .ok (.ishl, 1) := by decide +kernel
theorem dX9_findFewest_241 : decode cX9_findFewest 241 = .ok (.goto 4, 3) := by decide +kernel
theorem dX9_findFewest_244 : decode cX9_findFewest 244 = .ok (.iconst 0, 1) := by decide +kernel
theorem dX9_findFewest_245 : decode cX9_findFewest 245 = .ok (.ior, 1) := by decide +kernel
theorem dX9_findFewest_246 : decode cX9_findFewest 246 = .ok (.putfield 181, 3) := by decide +kernel
theorem dX9_findFewest_249 : decode cX9_findFewest 249 = .ok (.iinc 4 1, 3) := by decide +kernel
theorem dX9_findFewest_252 : decode cX9_findFewest 252 = .ok (.goto (-106), 3) := by decide +kernel
theorem dX9_findFewest_255 : decode cX9_findFewest 255 = .ok (.aload_n 0, 1) := by decide +kernel
theorem dX9_findFewest_256 : decode cX9_findFewest 256 = .ok (.getfield 178, 3) := by decide +kernel
theorem dX9_findFewest_259 : decode cX9_findFewest 259 = .ok (.ifCond .le 7, 3) := by decide +kernel
theorem dX9_findFewest_262 : decode cX9_findFewest 262 = .ok (.iconst 1, 1) := by decide +kernel
theorem dX9_findFewest_263 : decode cX9_findFewest 263 = .ok (.goto 4, 3) := by decide +kernel
theorem dX9_findFewest_266 : decode cX9_findFewest 266 = .ok (.iconst 0, 1) := by decide +kernel
theorem dX9_findFewest_267 : decode cX9_findFewest 267 = .ok (.ireturn, 1) := by decide +kernel
set_option maxRecDepth 20000 in
theorem ggX9_isFew_X9_has : GoodIn wsX9_isFew wsX9_has := goodIn_r _ [5] (by decide +kernel) (by decide +kernel)
set_option maxRecDepth 20000 in
theorem gX9_isFew_X9_has : GoodIn wsX9_isFew (va_wsS RX9 123 yX9_has wsX9_has) := goodIn_app (goodIn_of _ (by decide +kernel)) ggX9_isFew_X9_has
set_option maxRecDepth 20000 in
theorem ggX9_isFew_X9_ones : GoodIn wsX9_isFew wsX9_ones := goodIn_r _ [8] (by decide +kernel) (by decide +kernel)
set_option maxRecDepth 20000 in
theorem gX9_isFew_X9_ones : GoodIn wsX9_isFew (va_wsS RX9 175 yX9_ones wsX9_ones) := goodIn_app (goodIn_of _ (by decide +kernel)) ggX9_isFew_X9_ones
set_option maxRecDepth 20000 in
theorem ggX9_isFew_X9_warmBy : GoodIn wsX9_isFew wsX9_warmBy := goodIn_r _ [12, 13, 2, 3, 4, 5, 19, 20, 21, 22, 23, 24, 25, 26, 27, 28, 29, 30, 31, 32, 33, 34, 35, 36, 37, 38, 39] (by decide +kernel) (by decide +kernel)
set_option maxRecDepth 20000 in
theorem gX9_isFew_X9_warmBy : GoodIn wsX9_isFew (wsV RX9 163 RX9 yX9_warmBy wsX9_warmBy) := goodIn_app (goodIn_of _ (by decide +kernel)) ggX9_isFew_X9_warmBy
set_option maxRecDepth 20000 in
theorem ggX9_isFew_X9_coldNow : GoodIn wsX9_isFew wsX9_coldNow := goodIn_r _ [17, 13, 18, 19, 20, 21, 22, 23, 24, 25, 26, 27, 28, 29, 30, 31, 32, 33, 34, 35, 36, 37, 38, 39] (by decide +kernel) (by decide +kernel)
set_option maxRecDepth 20000 in
theorem gX9_isFew_X9_coldNow : GoodIn wsX9_isFew (wsV RX9 157 RX9 yX9_coldNow wsX9_coldNow) := goodIn_app (goodIn_of _ (by decide +kernel)) ggX9_isFew_X9_coldNow
theorem dX9_isFew_0 : decode cX9_isFew 0 = .ok (.iload_n 1, 1) := by decide +kernel
theorem dX9_isFew_1 : decode cX9_isFew 1 = .ok (.iload_n 2, 1) := by decide +kernel
theorem dX9_isFew_2 : decode cX9_isFew 2 = .ok (.invokestatic 123, 3) := by decide +kernel
theorem dX9_isFew_5 : decode cX9_isFew 5 = .ok (.ifCond .eq 38, 3) := by decide +kernel
theorem dX9_isFew_8 : decode cX9_isFew 8 = .ok (.iload_n 1, 1) := by decide +kernel
theorem dX9_isFew_9 : decode cX9_isFew 9 = .ok (.iload_n 3, 1) := by decide +kernel
theorem dX9_isFew_10 : decode cX9_isFew 10 = .ok (.iconst (-1), 1) := by decide +kernel
theorem dX9_isFew_11 : decode cX9_isFew 11 = .ok (.ixor, 1) := by decide +kernel
theorem dX9_isFew_12 : decode cX9_isFew 12 = .ok (.iand, 1) := by decide +kernel
theorem dX9_isFew_13 : decode cX9_isFew 13 = .ok (.ifCond .ne 30, 3) := by decide +kernel
theorem dX9_isFew_16 : decode cX9_isFew 16 = .ok (.iload_n 1, 1) := by decide +kernel
theorem dX9_isFew_17 : decode cX9_isFew 17 = .ok (.invokestatic 175, 3) := by decide +kernel
theorem dX9_isFew_20 : decode cX9_isFew 20 = .ok (.aload_n 0, 1) := by decide +kernel
theorem dX9_isFew_21 : decode cX9_isFew 21 = .ok (.getfield 172, 3) := by decide +kernel
theorem dX9_isFew_24 : decode cX9_isFew 24 = .ok (.if_icmp .ne 19, 3) := by decide +kernel
theorem dX9_isFew_27 : decode cX9_isFew 27 = .ok (.aload_n 0, 1) := by decide +kernel
theorem dX9_isFew_28 : decode cX9_isFew 28 = .ok (.iload_n 1, 1) := by decide +kernel
theorem dX9_isFew_29 : decode cX9_isFew 29 = .ok (.invokevirtual 163, 3) := by decide +kernel
theorem dX9_isFew_32 : decode cX9_isFew 32 = .ok (.aload_n 0, 1) := by decide +kernel
theorem dX9_isFew_33 : decode cX9_isFew 33 = .ok (.invokevirtual 157, 3) := by decide +kernel
theorem dX9_isFew_36 : decode cX9_isFew 36 = .ok (.if_icmp .lt 7, 3) := by decide +kernel
theorem dX9_isFew_39 : decode cX9_isFew 39 = .ok (.iconst 1, 1) := by decide +kernel
theorem dX9_isFew_40 : decode cX9_isFew 40 = .ok (.goto 4, 3) := by decide +kernel
theorem dX9_isFew_43 : decode cX9_isFew 43 = .ok (.iconst 0, 1) := by decide +kernel
theorem dX9_isFew_44 : decode cX9_isFew 44 = .ok (.ireturn, 1) := by decide +kernel
set_option maxRecDepth 20000 in
theorem ggX9_fewest_X9_isFamily : GoodIn wsX9_fewest wsX9_isFamily := goodIn_r _ [10, 11, 12, 13, 9, 14, 50, 51, 52, 53, 54, 55, 56, 57, 58, 59, 60, 61, 62, 63, 64, 65, 66, 67, 68, 69, 70] (by decide +kernel) (by decide +kernel)
set_option maxRecDepth 20000 in
theorem gX9_fewest_X9_isFamily : GoodIn wsX9_fewest (wsV RX9 149 RX9 yX9_isFamily wsX9_isFamily) := goodIn_app (goodIn_of _ (by decide +kernel)) ggX9_fewest_X9_isFamily
set_option maxRecDepth 20000 in
theorem ggX9_fewest_X9_in : GoodIn wsX9_fewest wsX9_in := goodIn_r _ [14] (by decide +kernel) (by decide +kernel)
set_option maxRecDepth 20000 in
theorem gX9_fewest_X9_in : GoodIn wsX9_fewest (va_wsS RX9 38 yX9_in wsX9_in) := goodIn_app (goodIn_of _ (by decide +kernel)) ggX9_fewest_X9_in
set_option maxRecDepth 20000 in
theorem ggX9_fewest_X9_isFrozen : GoodIn wsX9_fewest wsX9_isFrozen := goodIn_r _ [18, 19, 50, 51, 52, 53, 54, 55, 56, 57, 58, 59, 60, 61, 62, 63, 64, 65, 66, 67, 68, 69, 70] (by decide +kernel) (by decide +kernel)
set_option maxRecDepth 20000 in
theorem gX9_fewest_X9_isFrozen : GoodIn wsX9_fewest (wsV RX9 117 RX9 yX9_isFrozen wsX9_isFrozen) := goodIn_app (goodIn_of _ (by decide +kernel)) ggX9_fewest_X9_isFrozen
set_option maxRecDepth 20000 in
theorem ggX9_fewest_X9_findFewest : GoodIn wsX9_fewest wsX9_findFewest := goodIn_r _ [23, 2, 3, 5, 4, 11, 24, 25, 26, 9, 27, 28, 29, 30, 31, 15, 16, 17, 18, 19, 32, 33, 34, 35, 36, 37, 38, 39, 40, 41, 42, 43, 44, 45, 46, 47, 48, 49, 50, 51, 52, 53, 54, 55, 56, 57, 58, 59, 60, 61, 62, 63, 64, 65, 66, 67, 68, 69, 70] (by decide +kernel) (by decide +kernel)
set_option maxRecDepth 20000 in
theorem gX9_fewest_X9_findFewest : GoodIn wsX9_fewest (wsV RX9 193 RX9 yX9_findFewest wsX9_findFewest) := goodIn_app (goodIn_of _ (by decide +kernel)) ggX9_fewest_X9_findFewest
theorem dX9_fewest_0 : decode cX9_fewest 0 = .ok (.aload_n 0, 1) := by decide +kernel
theorem dX9_fewest_1 : decode cX9_fewest 1 = .ok (.iload_n 1, 1) := by decide +kernel
theorem dX9_fewest_2 : decode cX9_fewest 2 = .ok (.invokevirtual 149, 3) := by decide +kernel
theorem dX9_fewest_5 : decode cX9_fewest 5 = .ok (.ifCond .ne 6, 3) := by decide +kernel
theorem dX9_fewest_8 : decode cX9_fewest 8 = .ok (.bipush (-2), 2) := by decide +kernel
theorem dX9_fewest_10 : decode cX9_fewest 10 = .ok (.ireturn, 1) := by decide +kernel
theorem dX9_fewest_11 : decode cX9_fewest 11 = .ok (.iload_n 2, 1) := by decide +kernel
theorem dX9_fewest_12 : decode cX9_fewest 12 = .ok (.i2l, 1) := by decide +kernel
theorem dX9_fewest_13 : decode cX9_fewest 13 = .ok (.lconst 0, 1) := by decide +kernel
theorem dX9_fewest_14 : decode cX9_fewest 14 = .ok (.ldc2_w 191, 3) := by decide +kernel
theorem dX9_fewest_17 : decode cX9_fewest 17 = .ok (.invokestatic 38, 3) := by decide +kernel
theorem dX9_fewest_20 : decode cX9_fewest 20 = .ok (.ifCond .ne 6, 3) := by decide +kernel
theorem dX9_fewest_23 : decode cX9_fewest 23 = .ok (.bipush (-3), 2) := by decide +kernel
theorem dX9_fewest_25 : decode cX9_fewest 25 = .ok (.ireturn, 1) := by decide +kernel
theorem dX9_fewest_26 : decode cX9_fewest 26 = .ok (.aload_n 0, 1) := by decide +kernel
theorem dX9_fewest_27 : decode cX9_fewest 27 = .ok (.iload_n 1, 1) := by decide +kernel
theorem dX9_fewest_28 : decode cX9_fewest 28 = .ok (.invokevirtual 117, 3) := by decide +kernel
theorem dX9_fewest_31 : decode cX9_fewest 31 = .ok (.ifCond .eq 6, 3) := by decide +kernel
theorem dX9_fewest_34 : decode cX9_fewest 34 = .ok (.bipush (-4), 2) := by decide +kernel
theorem dX9_fewest_36 : decode cX9_fewest 36 = .ok (.ireturn, 1) := by decide +kernel
theorem dX9_fewest_37 : decode cX9_fewest 37 = .ok (.aload_n 0, 1) := by decide +kernel
theorem dX9_fewest_38 : decode cX9_fewest 38 = .ok (.iload_n 1, 1) := by decide +kernel
theorem dX9_fewest_39 : decode cX9_fewest 39 = .ok (.invokevirtual 193, 3) := by decide +kernel
theorem dX9_fewest_42 : decode cX9_fewest 42 = .ok (.ifCond .ne 5, 3) := by decide +kernel
theorem dX9_fewest_45 : decode cX9_fewest 45 = .ok (.iconst (-1), 1) := by decide +kernel
theorem dX9_fewest_46 : decode cX9_fewest 46 = .ok (.ireturn, 1) := by decide +kernel
theorem dX9_fewest_47 : decode cX9_fewest 47 = .ok (.iload_n 2, 1) := by decide +kernel
theorem dX9_fewest_48 : decode cX9_fewest 48 = .ok (.ifCond .ne 10, 3) := by decide +kernel
theorem dX9_fewest_51 : decode cX9_fewest 51 = .ok (.aload_n 0, 1) := by decide +kernel
theorem dX9_fewest_52 : decode cX9_fewest 52 = .ok (.getfield 172, 3) := by decide +kernel
theorem dX9_fewest_55 : decode cX9_fewest 55 = .ok (.goto 31, 3) := by decide +kernel
theorem dX9_fewest_58 : decode cX9_fewest 58 = .ok (.iload_n 2, 1) := by decide +kernel
theorem dX9_fewest_59 : decode cX9_fewest 59 = .ok (.iconst 1, 1) := by decide +kernel
theorem dX9_fewest_60 : decode cX9_fewest 60 = .ok (.if_icmp .ne 10, 3) := by decide +kernel
theorem dX9_fewest_63 : decode cX9_fewest 63 = .ok (.aload_n 0, 1) := by decide +kernel
theorem dX9_fewest_64 : decode cX9_fewest 64 = .ok (.getfield 178, 3) := by decide +kernel
theorem dX9_fewest_67 : decode cX9_fewest 67 = .ok (.goto 19, 3) := by decide +kernel
theorem dX9_fewest_70 : decode cX9_fewest 70 = .ok (.iload_n 2, 1) := by decide +kernel
theorem dX9_fewest_71 : decode cX9_fewest 71 = .ok (.iconst 2, 1) := by decide +kernel
theorem dX9_fewest_72 : decode cX9_fewest 72 = .ok (.if_icmp .ne 10, 3) := by decide +kernel
theorem dX9_fewest_75 : decode cX9_fewest 75 = .ok (.aload_n 0, 1) := by decide +kernel
theorem dX9_fewest_76 : decode cX9_fewest 76 = .ok (.getfield 188, 3) := by decide +kernel
theorem dX9_fewest_79 : decode cX9_fewest 79 = .ok (.goto 7, 3) := by decide +kernel
theorem dX9_fewest_82 : decode cX9_fewest 82 = .ok (.aload_n 0, 1) := by decide +kernel
theorem dX9_fewest_83 : decode cX9_fewest 83 = .ok (.getfield 181, 3) := by decide +kernel
theorem dX9_fewest_86 : decode cX9_fewest 86 = .ok (.ireturn, 1) := by decide +kernel
set_option maxRecDepth 20000 in
theorem ggX9_isSwing_X9_has : GoodIn wsX9_isSwing wsX9_has := goodIn_r _ [5] (by decide +kernel) (by decide +kernel)
set_option maxRecDepth 20000 in
theorem gX9_isSwing_X9_has : GoodIn wsX9_isSwing (va_wsS RX9 123 yX9_has wsX9_has) := goodIn_app (goodIn_of _ (by decide +kernel)) ggX9_isSwing_X9_has
set_option maxRecDepth 20000 in
theorem ggX9_isSwing_X9_alive : GoodIn wsX9_isSwing wsX9_alive := goodIn_r _ [9, 1, 10, 11, 12, 4, 13, 14, 15, 16, 17, 18, 35, 36, 37, 38, 39, 40, 41, 42, 43, 44, 45, 46, 47, 48, 49, 50, 51, 52, 53, 54, 55] (by decide +kernel) (by decide +kernel)
set_option maxRecDepth 20000 in
theorem gX9_isSwing_X9_alive : GoodIn wsX9_isSwing (wsV RX9 140 RX9 yX9_alive wsX9_alive) := goodIn_app (goodIn_of _ (by decide +kernel)) ggX9_isSwing_X9_alive
set_option maxRecDepth 20000 in
theorem ggX9_isSwing_X9_weights : GoodIn wsX9_isSwing wsX9_weights := goodIn_r _ [22, 23, 24, 25, 4, 26, 18, 27, 28, 29, 30, 1, 2, 3, 5, 31, 32, 33, 34, 35, 36, 37, 38, 39, 40, 41, 42, 43, 44, 45, 46, 47, 48, 49, 50, 51, 52, 53, 54, 55] (by decide +kernel) (by decide +kernel)
set_option maxRecDepth 20000 in
theorem gX9_isSwing_X9_weights : GoodIn wsX9_isSwing (wsV RX9 146 RX9 yX9_weights wsX9_weights) := goodIn_app (goodIn_of _ (by decide +kernel)) ggX9_isSwing_X9_weights
theorem dX9_isSwing_0 : decode cX9_isSwing 0 = .ok (.iload_n 1, 1) := by decide +kernel
theorem dX9_isSwing_1 : decode cX9_isSwing 1 = .ok (.iload_n 2, 1) := by decide +kernel
theorem dX9_isSwing_2 : decode cX9_isSwing 2 = .ok (.invokestatic 123, 3) := by decide +kernel
theorem dX9_isSwing_5 : decode cX9_isSwing 5 = .ok (.ifCond .ne 18, 3) := by decide +kernel
theorem dX9_isSwing_8 : decode cX9_isSwing 8 = .ok (.iload_n 1, 1) := by decide +kernel
theorem dX9_isSwing_9 : decode cX9_isSwing 9 = .ok (.aload_n 0, 1) := by decide +kernel
theorem dX9_isSwing_10 : decode cX9_isSwing 10 = .ok (.invokevirtual 140, 3) := by decide +kernel
theorem dX9_isSwing_13 : decode cX9_isSwing 13 = .ok (.iconst (-1), 1) := by decide +kernel
theorem dX9_isSwing_14 : decode cX9_isSwing 14 = .ok (.ixor, 1) := by decide +kernel
theorem dX9_isSwing_15 : decode cX9_isSwing 15 = .ok (.iand, 1) := by decide +kernel
theorem dX9_isSwing_16 : decode cX9_isSwing 16 = .ok (.ifCond .ne 7, 3) := by decide +kernel
theorem dX9_isSwing_19 : decode cX9_isSwing 19 = .ok (.iconst 1, 1) := by decide +kernel
theorem dX9_isSwing_20 : decode cX9_isSwing 20 = .ok (.goto 4, 3) := by decide +kernel
theorem dX9_isSwing_23 : decode cX9_isSwing 23 = .ok (.iconst 0, 1) := by decide +kernel
theorem dX9_isSwing_24 : decode cX9_isSwing 24 = .ok (.istore_n 3, 1) := by decide +kernel
theorem dX9_isSwing_25 : decode cX9_isSwing 25 = .ok (.iload_n 3, 1) := by decide +kernel
theorem dX9_isSwing_26 : decode cX9_isSwing 26 = .ok (.ifCond .eq 39, 3) := by decide +kernel
theorem dX9_isSwing_29 : decode cX9_isSwing 29 = .ok (.aload_n 0, 1) := by decide +kernel
theorem dX9_isSwing_30 : decode cX9_isSwing 30 = .ok (.iload_n 1, 1) := by decide +kernel
theorem dX9_isSwing_31 : decode cX9_isSwing 31 = .ok (.invokevirtual 146, 3) := by decide +kernel
theorem dX9_isSwing_34 : decode cX9_isSwing 34 = .ok (.aload_n 0, 1) := by decide +kernel
theorem dX9_isSwing_35 : decode cX9_isSwing 35 = .ok (.getfield 7, 3) := by decide +kernel
theorem dX9_isSwing_38 : decode cX9_isSwing 38 = .ok (.iconst 1, 1) := by decide +kernel
theorem dX9_isSwing_39 : decode cX9_isSwing 39 = .ok (.iaload, 1) := by decide +kernel
theorem dX9_isSwing_40 : decode cX9_isSwing 40 = .ok (.if_icmp .ge 25, 3) := by decide +kernel
theorem dX9_isSwing_43 : decode cX9_isSwing 43 = .ok (.aload_n 0, 1) := by decide +kernel
theorem dX9_isSwing_44 : decode cX9_isSwing 44 = .ok (.iload_n 1, 1) := by decide +kernel
theorem dX9_isSwing_45 : decode cX9_isSwing 45 = .ok (.iconst 1, 1) := by decide +kernel
theorem dX9_isSwing_46 : decode cX9_isSwing 46 = .ok (.iload_n 2, 1) := by decide +kernel
theorem dX9_isSwing_47 : decode cX9_isSwing 47 = .ok (.ishl, 1) := by decide +kernel
theorem dX9_isSwing_48 : decode cX9_isSwing 48 = .ok (.ior, 1) := by decide +kernel
theorem dX9_isSwing_49 : decode cX9_isSwing 49 = .ok (.invokevirtual 146, 3) := by decide +kernel
theorem dX9_isSwing_52 : decode cX9_isSwing 52 = .ok (.aload_n 0, 1) := by decide +kernel
theorem dX9_isSwing_53 : decode cX9_isSwing 53 = .ok (.getfield 7, 3) := by decide +kernel
theorem dX9_isSwing_56 : decode cX9_isSwing 56 = .ok (.iconst 1, 1) := by decide +kernel
theorem dX9_isSwing_57 : decode cX9_isSwing 57 = .ok (.iaload, 1) := by decide +kernel
theorem dX9_isSwing_58 : decode cX9_isSwing 58 = .ok (.if_icmp .lt 7, 3) := by decide +kernel
theorem dX9_isSwing_61 : decode cX9_isSwing 61 = .ok (.iconst 1, 1) := by decide +kernel
theorem dX9_isSwing_62 : decode cX9_isSwing 62 = .ok (.goto 4, 3) := by decide +kernel
theorem dX9_isSwing_65 : decode cX9_isSwing 65 = .ok (.iconst 0, 1) := by decide +kernel
theorem dX9_isSwing_66 : decode cX9_isSwing 66 = .ok (.ireturn, 1) := by decide +kernel
set_option maxRecDepth 20000 in
theorem ggX9_swings_X9_isFamily : GoodIn wsX9_swings wsX9_isFamily := goodIn_r _ [6, 1, 7, 8, 5, 9, 46, 47, 48, 49, 50, 51, 52, 53, 54, 55, 56, 57, 58, 59, 60, 61, 62, 63, 64, 65, 66] (by decide +kernel) (by decide +kernel)
set_option maxRecDepth 20000 in
theorem gX9_swings_X9_isFamily : GoodIn wsX9_swings (wsV RX9 149 RX9 yX9_isFamily wsX9_isFamily) := goodIn_app (goodIn_of _ (by decide +kernel)) ggX9_swings_X9_isFamily
set_option maxRecDepth 20000 in
theorem ggX9_swings_X9_isFrozen : GoodIn wsX9_swings wsX9_isFrozen := goodIn_r _ [13, 14, 46, 47, 48, 49, 50, 51, 52, 53, 54, 55, 56, 57, 58, 59, 60, 61, 62, 63, 64, 65, 66] (by decide +kernel) (by decide +kernel)
set_option maxRecDepth 20000 in
theorem gX9_swings_X9_isFrozen : GoodIn wsX9_swings (wsV RX9 117 RX9 yX9_isFrozen wsX9_isFrozen) := goodIn_app (goodIn_of _ (by decide +kernel)) ggX9_swings_X9_isFrozen
set_option maxRecDepth 20000 in
theorem ggX9_swings_X9_isSwing : GoodIn wsX9_swings wsX9_isSwing := goodIn_r _ [18, 1, 19, 20, 5, 21, 22, 23, 24, 25, 26, 27, 28, 29, 10, 11, 12, 13, 14, 30, 31, 32, 33, 34, 35, 36, 37, 38, 39, 40, 41, 42, 43, 44, 45, 46, 47, 48, 49, 50, 51, 52, 53, 54, 55, 56, 57, 58, 59, 60, 61, 62, 63, 64, 65, 66] (by decide +kernel) (by decide +kernel)
set_option maxRecDepth 20000 in
theorem gX9_swings_X9_isSwing : GoodIn wsX9_swings (wsV RX9 196 RX9 yX9_isSwing wsX9_isSwing) := goodIn_app (goodIn_of _ (by decide +kernel)) ggX9_swings_X9_isSwing
theorem dX9_swings_0 : decode cX9_swings 0 = .ok (.aload_n 0, 1) := by decide +kernel
theorem dX9_swings_1 : decode cX9_swings 1 = .ok (.iload_n 1, 1) := by decide +kernel
theorem dX9_swings_2 : decode cX9_swings 2 = .ok (.invokevirtual 149, 3) := by decide +kernel
theorem dX9_swings_5 : decode cX9_swings 5 = .ok (.ifCond .ne 6, 3) := by decide +kernel
theorem dX9_swings_8 : decode cX9_swings 8 = .ok (.bipush (-2), 2) := by decide +kernel
theorem dX9_swings_10 : decode cX9_swings 10 = .ok (.ireturn, 1) := by decide +kernel
theorem dX9_swings_11 : decode cX9_swings 11 = .ok (.aload_n 0, 1) := by decide +kernel
theorem dX9_swings_12 : decode cX9_swings 12 = .ok (.iload_n 1, 1) := by decide +kernel
theorem dX9_swings_13 : decode cX9_swings 13 = .ok (.invokevirtual 117, 3) := by decide +kernel
theorem dX9_swings_16 : decode cX9_swings 16 = .ok (.ifCond .eq 6, 3) := by decide +kernel
theorem dX9_swings_19 : decode cX9_swings 19 = .ok (.bipush (-4), 2) := by decide +kernel
theorem dX9_swings_21 : decode cX9_swings 21 = .ok (.ireturn, 1) := by decide +kernel
theorem dX9_swings_22 : decode cX9_swings 22 = .ok (.iconst 0, 1) := by decide +kernel
theorem dX9_swings_23 : decode cX9_swings 23 = .ok (.istore_n 2, 1) := by decide +kernel
theorem dX9_swings_24 : decode cX9_swings 24 = .ok (.iconst 0, 1) := by decide +kernel
theorem dX9_swings_25 : decode cX9_swings 25 = .ok (.istore_n 3, 1) := by decide +kernel
theorem dX9_swings_26 : decode cX9_swings 26 = .ok (.iload_n 3, 1) := by decide +kernel
theorem dX9_swings_27 : decode cX9_swings 27 = .ok (.iconst 1, 1) := by decide +kernel
theorem dX9_swings_28 : decode cX9_swings 28 = .ok (.aload_n 0, 1) := by decide +kernel
theorem dX9_swings_29 : decode cX9_swings 29 = .ok (.getfield 7, 3) := by decide +kernel
theorem dX9_swings_32 : decode cX9_swings 32 = .ok (.iconst 0, 1) := by decide +kernel
theorem dX9_swings_33 : decode cX9_swings 33 = .ok (.iaload, 1) := by decide +kernel
theorem dX9_swings_34 : decode cX9_swings 34 = .ok (.ishl, 1) := by decide +kernel
theorem dX9_swings_35 : decode cX9_swings 35 = .ok (.if_icmp .ge 26, 3) := by decide +kernel
theorem dX9_swings_38 : decode cX9_swings 38 = .ok (.iload_n 2, 1) := by decide +kernel
theorem dX9_swings_39 : decode cX9_swings 39 = .ok (.aload_n 0, 1) := by decide +kernel
theorem dX9_swings_40 : decode cX9_swings 40 = .ok (.iload_n 3, 1) := by decide +kernel
theorem dX9_swings_41 : decode cX9_swings 41 = .ok (.iload_n 1, 1) := by decide +kernel
theorem dX9_swings_42 : decode cX9_swings 42 = .ok (.invokevirtual 196, 3) := by decide +kernel
theorem dX9_swings_45 : decode cX9_swings 45 = .ok (.ifCond .eq 7, 3) := by decide +kernel
theorem dX9_swings_48 : decode cX9_swings 48 = .ok (.iconst 1, 1) := by decide +kernel
theorem dX9_swings_49 : decode cX9_swings 49 = .ok (.goto 4, 3) := by decide +kernel
theorem dX9_swings_52 : decode cX9_swings 52 = .ok (.iconst 0, 1) := by decide +kernel
theorem dX9_swings_53 : decode cX9_swings 53 = .ok (.iadd, 1) := by decide +kernel
theorem dX9_swings_54 : decode cX9_swings 54 = .ok (.istore_n 2, 1) := by decide +kernel
theorem dX9_swings_55 : decode cX9_swings 55 = .ok (.iinc 3 1, 3) := by decide +kernel
theorem dX9_swings_58 : decode cX9_swings 58 = .ok (.goto (-32), 3) := by decide +kernel
theorem dX9_swings_61 : decode cX9_swings 61 = .ok (.iload_n 2, 1) := by decide +kernel
theorem dX9_swings_62 : decode cX9_swings 62 = .ok (.ireturn, 1) := by decide +kernel
theorem dX9_factorial_0 : decode cX9_factorial 0 = .ok (.iconst 1, 1) := by decide +kernel
theorem dX9_factorial_1 : decode cX9_factorial 1 = .ok (.istore_n 1, 1) := by decide +kernel
theorem dX9_factorial_2 : decode cX9_factorial 2 = .ok (.iconst 2, 1) := by decide +kernel
theorem dX9_factorial_3 : decode cX9_factorial 3 = .ok (.istore_n 2, 1) := by decide +kernel
theorem dX9_factorial_4 : decode cX9_factorial 4 = .ok (.iload_n 2, 1) := by decide +kernel
theorem dX9_factorial_5 : decode cX9_factorial 5 = .ok (.iload_n 0, 1) := by decide +kernel
theorem dX9_factorial_6 : decode cX9_factorial 6 = .ok (.if_icmp .gt 13, 3) := by decide +kernel
theorem dX9_factorial_9 : decode cX9_factorial 9 = .ok (.iload_n 1, 1) := by decide +kernel
theorem dX9_factorial_10 : decode cX9_factorial 10 = .ok (.iload_n 2, 1) := by decide +kernel
theorem dX9_factorial_11 : decode cX9_factorial 11 = .ok (.imul, 1) := by decide +kernel
theorem dX9_factorial_12 : decode cX9_factorial 12 = .ok (.istore_n 1, 1) := by decide +kernel
theorem dX9_factorial_13 : decode cX9_factorial 13 = .ok (.iinc 2 1, 3) := by decide +kernel
theorem dX9_factorial_16 : decode cX9_factorial 16 = .ok (.goto (-12), 3) := by decide +kernel
theorem dX9_factorial_19 : decode cX9_factorial 19 = .ok (.iload_n 1, 1) := by decide +kernel
theorem dX9_factorial_20 : decode cX9_factorial 20 = .ok (.ireturn, 1) := by decide +kernel
theorem dX9_common_0 : decode cX9_common 0 = .ok (.iload_n 0, 1) := by decide +kernel
theorem dX9_common_1 : decode cX9_common 1 = .ok (.istore_n 2, 1) := by decide +kernel
theorem dX9_common_2 : decode cX9_common 2 = .ok (.iload_n 1, 1) := by decide +kernel
theorem dX9_common_3 : decode cX9_common 3 = .ok (.istore_n 3, 1) := by decide +kernel
theorem dX9_common_4 : decode cX9_common 4 = .ok (.iload_n 3, 1) := by decide +kernel
theorem dX9_common_5 : decode cX9_common 5 = .ok (.ifCond .eq 16, 3) := by decide +kernel
theorem dX9_common_8 : decode cX9_common 8 = .ok (.iload_n 2, 1) := by decide +kernel
theorem dX9_common_9 : decode cX9_common 9 = .ok (.iload_n 3, 1) := by decide +kernel
theorem dX9_common_10 : decode cX9_common 10 = .ok (.irem, 1) := by decide +kernel
theorem dX9_common_11 : decode cX9_common 11 = .ok (.istore 4, 2) := by decide +kernel
theorem dX9_common_13 : decode cX9_common 13 = .ok (.iload_n 3, 1) := by decide +kernel
theorem dX9_common_14 : decode cX9_common 14 = .ok (.istore_n 2, 1) := by decide +kernel
theorem dX9_common_15 : decode cX9_common 15 = .ok (.iload 4, 2) := by decide +kernel
theorem dX9_common_17 : decode cX9_common 17 = .ok (.istore_n 3, 1) := by decide +kernel
theorem dX9_common_18 : decode cX9_common 18 = .ok (.goto (-14), 3) := by decide +kernel
theorem dX9_common_21 : decode cX9_common 21 = .ok (.iload_n 2, 1) := by decide +kernel
theorem dX9_common_22 : decode cX9_common 22 = .ok (.ireturn, 1) := by decide +kernel
set_option maxRecDepth 20000 in
theorem ggX9_lot_X9_isFamily : GoodIn wsX9_lot wsX9_isFamily := goodIn_r _ [6, 1, 7, 8, 5, 9, 55, 56, 57, 58, 59, 60, 61, 62, 63, 64, 65, 66, 67, 68, 69, 70, 71, 72, 73, 74, 75] (by decide +kernel) (by decide +kernel)
set_option maxRecDepth 20000 in
theorem gX9_lot_X9_isFamily : GoodIn wsX9_lot (wsV RX9 149 RX9 yX9_isFamily wsX9_isFamily) := goodIn_app (goodIn_of _ (by decide +kernel)) ggX9_lot_X9_isFamily
set_option maxRecDepth 20000 in
theorem ggX9_lot_X9_in : GoodIn wsX9_lot wsX9_in := goodIn_r _ [9] (by decide +kernel) (by decide +kernel)
set_option maxRecDepth 20000 in
theorem gX9_lot_X9_in : GoodIn wsX9_lot (va_wsS RX9 38 yX9_in wsX9_in) := goodIn_app (goodIn_of _ (by decide +kernel)) ggX9_lot_X9_in
set_option maxRecDepth 20000 in
theorem ggX9_lot_X9_isFrozen : GoodIn wsX9_lot wsX9_isFrozen := goodIn_r _ [13, 14, 55, 56, 57, 58, 59, 60, 61, 62, 63, 64, 65, 66, 67, 68, 69, 70, 71, 72, 73, 74, 75] (by decide +kernel) (by decide +kernel)
set_option maxRecDepth 20000 in
theorem gX9_lot_X9_isFrozen : GoodIn wsX9_lot (wsV RX9 117 RX9 yX9_isFrozen wsX9_isFrozen) := goodIn_app (goodIn_of _ (by decide +kernel)) ggX9_lot_X9_isFrozen
set_option maxRecDepth 20000 in
theorem ggX9_lot_X9_alive : GoodIn wsX9_lot wsX9_alive := goodIn_r _ [18, 1, 19, 20, 21, 5, 22, 10, 11, 12, 13, 14, 55, 56, 57, 58, 59, 60, 61, 62, 63, 64, 65, 66, 67, 68, 69, 70, 71, 72, 73, 74, 75] (by decide +kernel) (by decide +kernel)
set_option maxRecDepth 20000 in
theorem gX9_lot_X9_alive : GoodIn wsX9_lot (wsV RX9 140 RX9 yX9_alive wsX9_alive) := goodIn_app (goodIn_of _ (by decide +kernel)) ggX9_lot_X9_alive
set_option maxRecDepth 20000 in
theorem ggX9_lot_X9_ones : GoodIn wsX9_lot wsX9_ones := goodIn_r _ [25] (by decide +kernel) (by decide +kernel)
set_option maxRecDepth 20000 in
theorem gX9_lot_X9_ones : GoodIn wsX9_lot (va_wsS RX9 175 yX9_ones wsX9_ones) := goodIn_app (goodIn_of _ (by decide +kernel)) ggX9_lot_X9_ones
set_option maxRecDepth 20000 in
theorem ggX9_lot_X9_isSwing : GoodIn wsX9_lot wsX9_isSwing := goodIn_r _ [29, 1, 30, 31, 5, 32, 15, 16, 17, 18, 19, 20, 21, 22, 10, 11, 12, 13, 14, 33, 34, 35, 36, 37, 38, 39, 40, 41, 42, 43, 44, 45, 46, 47, 48, 55, 56, 57, 58, 59, 60, 61, 62, 63, 64, 65, 66, 67, 68, 69, 70, 71, 72, 73, 74, 75] (by decide +kernel) (by decide +kernel)
set_option maxRecDepth 20000 in
theorem gX9_lot_X9_isSwing : GoodIn wsX9_lot (wsV RX9 196 RX9 yX9_isSwing wsX9_isSwing) := goodIn_app (goodIn_of _ (by decide +kernel)) ggX9_lot_X9_isSwing
set_option maxRecDepth 20000 in
theorem ggX9_lot_X9_factorial : GoodIn wsX9_lot wsX9_factorial := goodIn_r _ [51] (by decide +kernel) (by decide +kernel)
set_option maxRecDepth 20000 in
theorem gX9_lot_X9_factorial : GoodIn wsX9_lot (va_wsS RX9 199 yX9_factorial wsX9_factorial) := goodIn_app (goodIn_of _ (by decide +kernel)) ggX9_lot_X9_factorial
set_option maxRecDepth 20000 in
theorem ggX9_lot_X9_common : GoodIn wsX9_lot wsX9_common := goodIn_r _ [54] (by decide +kernel) (by decide +kernel)
set_option maxRecDepth 20000 in
theorem gX9_lot_X9_common : GoodIn wsX9_lot (va_wsS RX9 202 yX9_common wsX9_common) := goodIn_app (goodIn_of _ (by decide +kernel)) ggX9_lot_X9_common
theorem dX9_lot_0 : decode cX9_lot 0 = .ok (.aload_n 0, 1) := by decide +kernel
theorem dX9_lot_1 : decode cX9_lot 1 = .ok (.iload_n 1, 1) := by decide +kernel
theorem dX9_lot_2 : decode cX9_lot 2 = .ok (.invokevirtual 149, 3) := by decide +kernel
theorem dX9_lot_5 : decode cX9_lot 5 = .ok (.ifCond .ne 6, 3) := by decide +kernel
theorem dX9_lot_8 : decode cX9_lot 8 = .ok (.bipush (-2), 2) := by decide +kernel
theorem dX9_lot_10 : decode cX9_lot 10 = .ok (.ireturn, 1) := by decide +kernel
theorem dX9_lot_11 : decode cX9_lot 11 = .ok (.iload_n 2, 1) := by decide +kernel
theorem dX9_lot_12 : decode cX9_lot 12 = .ok (.i2l, 1) := by decide +kernel
theorem dX9_lot_13 : decode cX9_lot 13 = .ok (.lconst 0, 1) := by decide +kernel
theorem dX9_lot_14 : decode cX9_lot 14 = .ok (.lconst 1, 1) := by decide +kernel
theorem dX9_lot_15 : decode cX9_lot 15 = .ok (.invokestatic 38, 3) := by decide +kernel
theorem dX9_lot_18 : decode cX9_lot 18 = .ok (.ifCond .ne 6, 3) := by decide +kernel
theorem dX9_lot_21 : decode cX9_lot 21 = .ok (.bipush (-3), 2) := by decide +kernel
theorem dX9_lot_23 : decode cX9_lot 23 = .ok (.ireturn, 1) := by decide +kernel
theorem dX9_lot_24 : decode cX9_lot 24 = .ok (.aload_n 0, 1) := by decide +kernel
theorem dX9_lot_25 : decode cX9_lot 25 = .ok (.iload_n 1, 1) := by decide +kernel
theorem dX9_lot_26 : decode cX9_lot 26 = .ok (.invokevirtual 117, 3) := by decide +kernel
theorem dX9_lot_29 : decode cX9_lot 29 = .ok (.ifCond .eq 6, 3) := by decide +kernel
theorem dX9_lot_32 : decode cX9_lot 32 = .ok (.bipush (-4), 2) := by decide +kernel
theorem dX9_lot_34 : decode cX9_lot 34 = .ok (.ireturn, 1) := by decide +kernel
theorem dX9_lot_35 : decode cX9_lot 35 = .ok (.aload_n 0, 1) := by decide +kernel
theorem dX9_lot_36 : decode cX9_lot 36 = .ok (.invokevirtual 140, 3) := by decide +kernel
theorem dX9_lot_39 : decode cX9_lot 39 = .ok (.invokestatic 175, 3) := by decide +kernel
theorem dX9_lot_42 : decode cX9_lot 42 = .ok (.istore_n 3, 1) := by decide +kernel
theorem dX9_lot_43 : decode cX9_lot 43 = .ok (.iconst 0, 1) := by decide +kernel
theorem dX9_lot_44 : decode cX9_lot 44 = .ok (.istore 4, 2) := by decide +kernel
theorem dX9_lot_46 : decode cX9_lot 46 = .ok (.iconst 0, 1) := by decide +kernel
theorem dX9_lot_47 : decode cX9_lot 47 = .ok (.istore 5, 2) := by decide +kernel
theorem dX9_lot_49 : decode cX9_lot 49 = .ok (.iload 5, 2) := by decide +kernel
theorem dX9_lot_51 : decode cX9_lot 51 = .ok (.iconst 1, 1) := by decide +kernel
theorem dX9_lot_52 : decode cX9_lot 52 = .ok (.aload_n 0, 1) := by decide +kernel
theorem dX9_lot_53 : decode cX9_lot 53 = .ok (.getfield 7, 3) := by decide +kernel
theorem dX9_lot_56 : decode cX9_lot 56 = .ok (.iconst 0, 1) := by decide +kernel
theorem dX9_lot_57 : decode cX9_lot 57 = .ok (.iaload, 1) := by decide +kernel
theorem dX9_lot_58 : decode cX9_lot 58 = .ok (.ishl, 1) := by decide +kernel
theorem dX9_lot_59 : decode cX9_lot 59 = .ok (.if_icmp .ge 49, 3) := by decide +kernel
theorem dX9_lot_62 : decode cX9_lot 62 = .ok (.iload 4, 2) := by decide +kernel
theorem dX9_lot_64 : decode cX9_lot 64 = .ok (.aload_n 0, 1) := by decide +kernel
theorem dX9_lot_65 : decode cX9_lot 65 = .ok (.iload 5, 2) := by decide +kernel
theorem dX9_lot_67 : decode cX9_lot 67 = .ok (.iload_n 1, 1) := by decide +kernel
theorem dX9_lot_68 : decode cX9_lot 68 = .ok (.invokevirtual 196, 3) := by decide +kernel
theorem dX9_lot_71 : decode cX9_lot 71 = .ok (.ifCond .eq 27, 3) := by decide +kernel
theorem dX9_lot_74 : decode cX9_lot 74 = .ok (.iload 5, 2) := by decide +kernel
theorem dX9_lot_76 : decode cX9_lot 76 = .ok (.invokestatic 175, 3) := by decide +kernel
theorem dX9_lot_79 : decode cX9_lot 79 = .ok (.invokestatic 199, 3) := by decide +kernel
theorem dX9_lot_82 : decode cX9_lot 82 = .ok (.iload_n 3, 1) := by decide +kernel
theorem dX9_lot_83 : decode cX9_lot 83 = .ok (.iconst 1, 1) := by decide +kernel
theorem dX9_lot_84 : decode cX9_lot 84 = .ok (.isub, 1) := by decide +kernel
theorem dX9_lot_85 : decode cX9_lot 85 = .ok (.iload 5, 2) := by decide +kernel
theorem dX9_lot_87 : decode cX9_lot 87 = .ok (.invokestatic 175, 3) := by decide +kernel
theorem dX9_lot_90 : decode cX9_lot 90 = .ok (.isub, 1) := by decide +kernel
theorem dX9_lot_91 : decode cX9_lot 91 = .ok (.invokestatic 199, 3) := by decide +kernel
theorem dX9_lot_94 : decode cX9_lot 94 = .ok (.imul, 1) := by decide +kernel
theorem dX9_lot_95 : decode cX9_lot 95 = .ok (.goto 4, 3) := by decide +kernel
theorem dX9_lot_98 : decode cX9_lot 98 = .ok (.iconst 0, 1) := by decide +kernel
theorem dX9_lot_99 : decode cX9_lot 99 = .ok (.iadd, 1) := by decide +kernel
theorem dX9_lot_100 : decode cX9_lot 100 = .ok (.istore 4, 2) := by decide +kernel
theorem dX9_lot_102 : decode cX9_lot 102 = .ok (.iinc 5 1, 3) := by decide +kernel
theorem dX9_lot_105 : decode cX9_lot 105 = .ok (.goto (-56), 3) := by decide +kernel
theorem dX9_lot_108 : decode cX9_lot 108 = .ok (.iload_n 3, 1) := by decide +kernel
theorem dX9_lot_109 : decode cX9_lot 109 = .ok (.invokestatic 199, 3) := by decide +kernel
theorem dX9_lot_112 : decode cX9_lot 112 = .ok (.istore 5, 2) := by decide +kernel
theorem dX9_lot_114 : decode cX9_lot 114 = .ok (.iload 4, 2) := by decide +kernel
theorem dX9_lot_116 : decode cX9_lot 116 = .ok (.iload 5, 2) := by decide +kernel
theorem dX9_lot_118 : decode cX9_lot 118 = .ok (.invokestatic 202, 3) := by decide +kernel
theorem dX9_lot_121 : decode cX9_lot 121 = .ok (.istore 6, 2) := by decide +kernel
theorem dX9_lot_123 : decode cX9_lot 123 = .ok (.iload_n 2, 1) := by decide +kernel
theorem dX9_lot_124 : decode cX9_lot 124 = .ok (.ifCond .ne 11, 3) := by decide +kernel
theorem dX9_lot_127 : decode cX9_lot 127 = .ok (.iload 4, 2) := by decide +kernel
theorem dX9_lot_129 : decode cX9_lot 129 = .ok (.iload 6, 2) := by decide +kernel
theorem dX9_lot_131 : decode cX9_lot 131 = .ok (.idiv, 1) := by decide +kernel
theorem dX9_lot_132 : decode cX9_lot 132 = .ok (.goto 8, 3) := by decide +kernel
theorem dX9_lot_135 : decode cX9_lot 135 = .ok (.iload 5, 2) := by decide +kernel
theorem dX9_lot_137 : decode cX9_lot 137 = .ok (.iload 6, 2) := by decide +kernel
theorem dX9_lot_139 : decode cX9_lot 139 = .ok (.idiv, 1) := by decide +kernel
theorem dX9_lot_140 : decode cX9_lot 140 = .ok (.ireturn, 1) := by decide +kernel
set_option maxRecDepth 20000 in
theorem ggX9_win_X9_isFamily : GoodIn wsX9_win wsX9_isFamily := goodIn_r _ [6, 1, 7, 8, 5, 9, 58, 59, 60, 61, 62, 63, 64, 65, 66, 67, 68, 69, 70, 71, 72, 73, 74, 75, 76, 77, 78] (by decide +kernel) (by decide +kernel)
set_option maxRecDepth 20000 in
theorem gX9_win_X9_isFamily : GoodIn wsX9_win (wsV RX9 149 RX9 yX9_isFamily wsX9_isFamily) := goodIn_app (goodIn_of _ (by decide +kernel)) ggX9_win_X9_isFamily
set_option maxRecDepth 20000 in
theorem ggX9_win_X9_in : GoodIn wsX9_win wsX9_in := goodIn_r _ [9] (by decide +kernel) (by decide +kernel)
set_option maxRecDepth 20000 in
theorem gX9_win_X9_in : GoodIn wsX9_win (va_wsS RX9 38 yX9_in wsX9_in) := goodIn_app (goodIn_of _ (by decide +kernel)) ggX9_win_X9_in
set_option maxRecDepth 20000 in
theorem ggX9_win_X9_isFrozen : GoodIn wsX9_win wsX9_isFrozen := goodIn_r _ [13, 14, 58, 59, 60, 61, 62, 63, 64, 65, 66, 67, 68, 69, 70, 71, 72, 73, 74, 75, 76, 77, 78] (by decide +kernel) (by decide +kernel)
set_option maxRecDepth 20000 in
theorem gX9_win_X9_isFrozen : GoodIn wsX9_win (wsV RX9 117 RX9 yX9_isFrozen wsX9_isFrozen) := goodIn_app (goodIn_of _ (by decide +kernel)) ggX9_win_X9_isFrozen
set_option maxRecDepth 20000 in
theorem ggX9_win_X9_doneUp : GoodIn wsX9_win wsX9_doneUp := goodIn_r _ [18, 19, 20, 21, 5, 22, 1, 14, 23, 24, 25, 26, 27, 28, 29, 30, 31, 32, 33, 10, 11, 12, 13, 58, 59, 60, 61, 62, 63, 64, 65, 66, 67, 68, 69, 70, 71, 72, 73, 74, 75, 76, 77, 78] (by decide +kernel) (by decide +kernel)
set_option maxRecDepth 20000 in
theorem gX9_win_X9_doneUp : GoodIn wsX9_win (wsV RX9 143 RX9 yX9_doneUp wsX9_doneUp) := goodIn_app (goodIn_of _ (by decide +kernel)) ggX9_win_X9_doneUp
set_option maxRecDepth 20000 in
theorem ggX9_win_X9_alive : GoodIn wsX9_win wsX9_alive := goodIn_r _ [29, 1, 30, 31, 32, 5, 33, 10, 11, 12, 13, 14, 58, 59, 60, 61, 62, 63, 64, 65, 66, 67, 68, 69, 70, 71, 72, 73, 74, 75, 76, 77, 78] (by decide +kernel) (by decide +kernel)
set_option maxRecDepth 20000 in
theorem gX9_win_X9_alive : GoodIn wsX9_win (wsV RX9 140 RX9 yX9_alive wsX9_alive) := goodIn_app (goodIn_of _ (by decide +kernel)) ggX9_win_X9_alive
set_option maxRecDepth 20000 in
theorem ggX9_win_X9_weights : GoodIn wsX9_win wsX9_weights := goodIn_r _ [37, 38, 39, 40, 5, 41, 14, 42, 43, 44, 45, 1, 23, 24, 25, 46, 47, 48, 49, 58, 59, 60, 61, 62, 63, 64, 65, 66, 67, 68, 69, 70, 71, 72, 73, 74, 75, 76, 77, 78] (by decide +kernel) (by decide +kernel)
set_option maxRecDepth 20000 in
theorem gX9_win_X9_weights : GoodIn wsX9_win (wsV RX9 146 RX9 yX9_weights wsX9_weights) := goodIn_app (goodIn_of _ (by decide +kernel)) ggX9_win_X9_weights
set_option maxRecDepth 20000 in
theorem ggX9_win_X9_warmBy : GoodIn wsX9_win wsX9_warmBy := goodIn_r _ [53, 1, 23, 24, 5, 25, 58, 59, 60, 61, 62, 63, 64, 65, 66, 67, 68, 69, 70, 71, 72, 73, 74, 75, 76, 77, 78] (by decide +kernel) (by decide +kernel)
set_option maxRecDepth 20000 in
theorem gX9_win_X9_warmBy : GoodIn wsX9_win (wsV RX9 163 RX9 yX9_warmBy wsX9_warmBy) := goodIn_app (goodIn_of _ (by decide +kernel)) ggX9_win_X9_warmBy
set_option maxRecDepth 20000 in
theorem ggX9_win_X9_coldNow : GoodIn wsX9_win wsX9_coldNow := goodIn_r _ [57, 1, 14, 58, 59, 60, 61, 62, 63, 64, 65, 66, 67, 68, 69, 70, 71, 72, 73, 74, 75, 76, 77, 78] (by decide +kernel) (by decide +kernel)
set_option maxRecDepth 20000 in
theorem gX9_win_X9_coldNow : GoodIn wsX9_win (wsV RX9 157 RX9 yX9_coldNow wsX9_coldNow) := goodIn_app (goodIn_of _ (by decide +kernel)) ggX9_win_X9_coldNow
set_option maxRecDepth 20000 in
theorem ggX9_win_X9_has : GoodIn wsX9_win wsX9_has := goodIn_r _ [25] (by decide +kernel) (by decide +kernel)
set_option maxRecDepth 20000 in
theorem gX9_win_X9_has : GoodIn wsX9_win (va_wsS RX9 123 yX9_has wsX9_has) := goodIn_app (goodIn_of _ (by decide +kernel)) ggX9_win_X9_has
theorem dX9_win_0 : decode cX9_win 0 = .ok (.aload_n 0, 1) := by decide +kernel
theorem dX9_win_1 : decode cX9_win 1 = .ok (.iload_n 1, 1) := by decide +kernel
theorem dX9_win_2 : decode cX9_win 2 = .ok (.invokevirtual 149, 3) := by decide +kernel
theorem dX9_win_5 : decode cX9_win 5 = .ok (.ifCond .ne 6, 3) := by decide +kernel
theorem dX9_win_8 : decode cX9_win 8 = .ok (.bipush (-2), 2) := by decide +kernel
theorem dX9_win_10 : decode cX9_win 10 = .ok (.ireturn, 1) := by decide +kernel
theorem dX9_win_11 : decode cX9_win 11 = .ok (.iload_n 2, 1) := by decide +kernel
theorem dX9_win_12 : decode cX9_win 12 = .ok (.i2l, 1) := by decide +kernel
theorem dX9_win_13 : decode cX9_win 13 = .ok (.lconst 0, 1) := by decide +kernel
theorem dX9_win_14 : decode cX9_win 14 = .ok (.lconst 1, 1) := by decide +kernel
theorem dX9_win_15 : decode cX9_win 15 = .ok (.invokestatic 38, 3) := by decide +kernel
theorem dX9_win_18 : decode cX9_win 18 = .ok (.ifCond .ne 6, 3) := by decide +kernel
theorem dX9_win_21 : decode cX9_win 21 = .ok (.bipush (-3), 2) := by decide +kernel
theorem dX9_win_23 : decode cX9_win 23 = .ok (.ireturn, 1) := by decide +kernel
theorem dX9_win_24 : decode cX9_win 24 = .ok (.aload_n 0, 1) := by decide +kernel
theorem dX9_win_25 : decode cX9_win 25 = .ok (.iload_n 1, 1) := by decide +kernel
theorem dX9_win_26 : decode cX9_win 26 = .ok (.invokevirtual 117, 3) := by decide +kernel
theorem dX9_win_29 : decode cX9_win 29 = .ok (.ifCond .eq 6, 3) := by decide +kernel
theorem dX9_win_32 : decode cX9_win 32 = .ok (.bipush (-4), 2) := by decide +kernel
theorem dX9_win_34 : decode cX9_win 34 = .ok (.ireturn, 1) := by decide +kernel
theorem dX9_win_35 : decode cX9_win 35 = .ok (.aload_n 0, 1) := by decide +kernel
theorem dX9_win_36 : decode cX9_win 36 = .ok (.iload_n 1, 1) := by decide +kernel
theorem dX9_win_37 : decode cX9_win 37 = .ok (.invokevirtual 143, 3) := by decide +kernel
theorem dX9_win_40 : decode cX9_win 40 = .ok (.istore_n 3, 1) := by decide +kernel
theorem dX9_win_41 : decode cX9_win 41 = .ok (.aload_n 0, 1) := by decide +kernel
theorem dX9_win_42 : decode cX9_win 42 = .ok (.invokevirtual 140, 3) := by decide +kernel
theorem dX9_win_45 : decode cX9_win 45 = .ok (.iload_n 3, 1) := by decide +kernel
theorem dX9_win_46 : decode cX9_win 46 = .ok (.iconst (-1), 1) := by decide +kernel
theorem dX9_win_47 : decode cX9_win 47 = .ok (.ixor, 1) := by decide +kernel
theorem dX9_win_48 : decode cX9_win 48 = .ok (.iand, 1) := by decide +kernel
theorem dX9_win_49 : decode cX9_win 49 = .ok (.istore 4, 2) := by decide +kernel
theorem dX9_win_51 : decode cX9_win 51 = .ok (.iconst (-1), 1) := by decide +kernel
theorem dX9_win_52 : decode cX9_win 52 = .ok (.istore 5, 2) := by decide +kernel
theorem dX9_win_54 : decode cX9_win 54 = .ok (.iconst 0, 1) := by decide +kernel
theorem dX9_win_55 : decode cX9_win 55 = .ok (.istore 6, 2) := by decide +kernel
theorem dX9_win_57 : decode cX9_win 57 = .ok (.iconst 0, 1) := by decide +kernel
theorem dX9_win_58 : decode cX9_win 58 = .ok (.istore 7, 2) := by decide +kernel
theorem dX9_win_60 : decode cX9_win 60 = .ok (.iload 7, 2) := by decide +kernel
theorem dX9_win_62 : decode cX9_win 62 = .ok (.iconst 1, 1) := by decide +kernel
theorem dX9_win_63 : decode cX9_win 63 = .ok (.aload_n 0, 1) := by decide +kernel
theorem dX9_win_64 : decode cX9_win 64 = .ok (.getfield 7, 3) := by decide +kernel
theorem dX9_win_67 : decode cX9_win 67 = .ok (.iconst 0, 1) := by decide +kernel
theorem dX9_win_68 : decode cX9_win 68 = .ok (.iaload, 1) := by decide +kernel
theorem dX9_win_69 : decode cX9_win 69 = .ok (.ishl, 1) := by decide +kernel
theorem dX9_win_70 : decode cX9_win 70 = .ok (.if_icmp .ge 135, 3) := by decide +kernel
theorem dX9_win_73 : decode cX9_win 73 = .ok (.iload 7, 2) := by decide +kernel
theorem dX9_win_75 : decode cX9_win 75 = .ok (.iload 4, 2) := by decide +kernel
theorem dX9_win_77 : decode cX9_win 77 = .ok (.iconst (-1), 1) := by decide +kernel
theorem dX9_win_78 : decode cX9_win 78 = .ok (.ixor, 1) := by decide +kernel
theorem dX9_win_79 : decode cX9_win 79 = .ok (.iand, 1) := by decide +kernel
theorem dX9_win_80 : decode cX9_win 80 = .ok (.ifCond .ne 39, 3) := by decide +kernel
theorem dX9_win_83 : decode cX9_win 83 = .ok (.aload_n 0, 1) := by decide +kernel
theorem dX9_win_84 : decode cX9_win 84 = .ok (.iload_n 3, 1) := by decide +kernel
theorem dX9_win_85 : decode cX9_win 85 = .ok (.iload 7, 2) := by decide +kernel
theorem dX9_win_87 : decode cX9_win 87 = .ok (.ior, 1) := by decide +kernel
theorem dX9_win_88 : decode cX9_win 88 = .ok (.invokevirtual 146, 3) := by decide +kernel
theorem dX9_win_91 : decode cX9_win 91 = .ok (.aload_n 0, 1) := by decide +kernel
theorem dX9_win_92 : decode cX9_win 92 = .ok (.getfield 7, 3) := by decide +kernel
theorem dX9_win_95 : decode cX9_win 95 = .ok (.iconst 1, 1) := by decide +kernel
theorem dX9_win_96 : decode cX9_win 96 = .ok (.iaload, 1) := by decide +kernel
theorem dX9_win_97 : decode cX9_win 97 = .ok (.if_icmp .lt 22, 3) := by decide +kernel
theorem dX9_win_100 : decode cX9_win 100 = .ok (.aload_n 0, 1) := by decide +kernel
theorem dX9_win_101 : decode cX9_win 101 = .ok (.iload_n 3, 1) := by decide +kernel
theorem dX9_win_102 : decode cX9_win 102 = .ok (.iload 7, 2) := by decide +kernel
theorem dX9_win_104 : decode cX9_win 104 = .ok (.ior, 1) := by decide +kernel
theorem dX9_win_105 : decode cX9_win 105 = .ok (.invokevirtual 163, 3) := by decide +kernel
theorem dX9_win_108 : decode cX9_win 108 = .ok (.aload_n 0, 1) := by decide +kernel
theorem dX9_win_109 : decode cX9_win 109 = .ok (.invokevirtual 157, 3) := by decide +kernel
theorem dX9_win_112 : decode cX9_win 112 = .ok (.if_icmp .lt 7, 3) := by decide +kernel
theorem dX9_win_115 : decode cX9_win 115 = .ok (.iconst 1, 1) := by decide +kernel
theorem dX9_win_116 : decode cX9_win 116 = .ok (.goto 4, 3) := by decide +kernel
theorem dX9_win_119 : decode cX9_win 119 = .ok (.iconst 0, 1) := by decide +kernel
theorem dX9_win_120 : decode cX9_win 120 = .ok (.istore 8, 2) := by decide +kernel
theorem dX9_win_122 : decode cX9_win 122 = .ok (.iconst 0, 1) := by decide +kernel
theorem dX9_win_123 : decode cX9_win 123 = .ok (.istore 9, 2) := by decide +kernel
theorem dX9_win_125 : decode cX9_win 125 = .ok (.iconst 0, 1) := by decide +kernel
theorem dX9_win_126 : decode cX9_win 126 = .ok (.istore 10, 2) := by decide +kernel
theorem dX9_win_128 : decode cX9_win 128 = .ok (.iload 10, 2) := by decide +kernel
theorem dX9_win_130 : decode cX9_win 130 = .ok (.aload_n 0, 1) := by decide +kernel
theorem dX9_win_131 : decode cX9_win 131 = .ok (.getfield 7, 3) := by decide +kernel
theorem dX9_win_134 : decode cX9_win 134 = .ok (.iconst 0, 1) := by decide +kernel
theorem dX9_win_135 : decode cX9_win 135 = .ok (.iaload, 1) := by decide +kernel
theorem dX9_win_136 : decode cX9_win 136 = .ok (.if_icmp .ge 38, 3) := by decide +kernel
theorem dX9_win_139 : decode cX9_win 139 = .ok (.iload 9, 2) := by decide +kernel
theorem dX9_win_141 : decode cX9_win 141 = .ok (.iload 7, 2) := by decide +kernel
theorem dX9_win_143 : decode cX9_win 143 = .ok (.iload 10, 2) := by decide +kernel
theorem dX9_win_145 : decode cX9_win 145 = .ok (.invokestatic 123, 3) := by decide +kernel
theorem dX9_win_148 : decode cX9_win 148 = .ok (.ifCond .eq 16, 3) := by decide +kernel
theorem dX9_win_151 : decode cX9_win 151 = .ok (.aload_n 0, 1) := by decide +kernel
theorem dX9_win_152 : decode cX9_win 152 = .ok (.getfield 7, 3) := by decide +kernel
theorem dX9_win_155 : decode cX9_win 155 = .ok (.bipush 17, 2) := by decide +kernel
theorem dX9_win_157 : decode cX9_win 157 = .ok (.iload 10, 2) := by decide +kernel
theorem dX9_win_159 : decode cX9_win 159 = .ok (.iadd, 1) := by decide +kernel
theorem dX9_win_160 : decode cX9_win 160 = .ok (.iaload, 1) := by decide +kernel
theorem dX9_win_161 : decode cX9_win 161 = .ok (.goto 4, 3) := by decide +kernel
theorem dX9_win_164 : decode cX9_win 164 = .ok (.iconst 0, 1) := by decide +kernel
theorem dX9_win_165 : decode cX9_win 165 = .ok (.iadd, 1) := by decide +kernel
theorem dX9_win_166 : decode cX9_win 166 = .ok (.istore 9, 2) := by decide +kernel
theorem dX9_win_168 : decode cX9_win 168 = .ok (.iinc 10 1, 3) := by decide +kernel
theorem dX9_win_171 : decode cX9_win 171 = .ok (.goto (-43), 3) := by decide +kernel
theorem dX9_win_174 : decode cX9_win 174 = .ok (.iload 8, 2) := by decide +kernel
theorem dX9_win_176 : decode cX9_win 176 = .ok (.ifCond .eq 23, 3) := by decide +kernel
theorem dX9_win_179 : decode cX9_win 179 = .ok (.iload 5, 2) := by decide +kernel
theorem dX9_win_181 : decode cX9_win 181 = .ok (.ifCond .lt 10, 3) := by decide +kernel
theorem dX9_win_184 : decode cX9_win 184 = .ok (.iload 9, 2) := by decide +kernel
theorem dX9_win_186 : decode cX9_win 186 = .ok (.iload 6, 2) := by decide +kernel
theorem dX9_win_188 : decode cX9_win 188 = .ok (.if_icmp .ge 11, 3) := by decide +kernel
theorem dX9_win_191 : decode cX9_win 191 = .ok (.iload 7, 2) := by decide +kernel
theorem dX9_win_193 : decode cX9_win 193 = .ok (.istore 5, 2) := by decide +kernel
theorem dX9_win_195 : decode cX9_win 195 = .ok (.iload 9, 2) := by decide +kernel
theorem dX9_win_197 : decode cX9_win 197 = .ok (.istore 6, 2) := by decide +kernel
theorem dX9_win_199 : decode cX9_win 199 = .ok (.iinc 7 1, 3) := by decide +kernel
theorem dX9_win_202 : decode cX9_win 202 = .ok (.goto (-142), 3) := by decide +kernel
theorem dX9_win_205 : decode cX9_win 205 = .ok (.iload 5, 2) := by decide +kernel
theorem dX9_win_207 : decode cX9_win 207 = .ok (.ifCond .ge 7, 3) := by decide +kernel
theorem dX9_win_210 : decode cX9_win 210 = .ok (.iconst (-1), 1) := by decide +kernel
theorem dX9_win_211 : decode cX9_win 211 = .ok (.goto 14, 3) := by decide +kernel
theorem dX9_win_214 : decode cX9_win 214 = .ok (.iload_n 2, 1) := by decide +kernel
theorem dX9_win_215 : decode cX9_win 215 = .ok (.ifCond .ne 8, 3) := by decide +kernel
theorem dX9_win_218 : decode cX9_win 218 = .ok (.iload 6, 2) := by decide +kernel
theorem dX9_win_220 : decode cX9_win 220 = .ok (.goto 5, 3) := by decide +kernel
theorem dX9_win_223 : decode cX9_win 223 = .ok (.iload 5, 2) := by decide +kernel
theorem dX9_win_225 : decode cX9_win 225 = .ok (.ireturn, 1) := by decide +kernel
set_option maxRecDepth 20000 in
theorem ggX9_block_X9_isFamily : GoodIn wsX9_block wsX9_isFamily := goodIn_r _ [6, 1, 7, 8, 5, 9, 37, 38, 39, 40, 41, 42, 43, 44, 45, 46, 47, 48, 49, 50, 51, 52, 53, 54, 55, 56, 57] (by decide +kernel) (by decide +kernel)
set_option maxRecDepth 20000 in
theorem gX9_block_X9_isFamily : GoodIn wsX9_block (wsV RX9 149 RX9 yX9_isFamily wsX9_isFamily) := goodIn_app (goodIn_of _ (by decide +kernel)) ggX9_block_X9_isFamily
set_option maxRecDepth 20000 in
theorem ggX9_block_X9_isFrozen : GoodIn wsX9_block wsX9_isFrozen := goodIn_r _ [13, 14, 37, 38, 39, 40, 41, 42, 43, 44, 45, 46, 47, 48, 49, 50, 51, 52, 53, 54, 55, 56, 57] (by decide +kernel) (by decide +kernel)
set_option maxRecDepth 20000 in
theorem gX9_block_X9_isFrozen : GoodIn wsX9_block (wsV RX9 117 RX9 yX9_isFrozen wsX9_isFrozen) := goodIn_app (goodIn_of _ (by decide +kernel)) ggX9_block_X9_isFrozen
set_option maxRecDepth 20000 in
theorem ggX9_block_X9_alive : GoodIn wsX9_block wsX9_alive := goodIn_r _ [18, 1, 19, 20, 21, 5, 22, 10, 11, 12, 13, 14, 37, 38, 39, 40, 41, 42, 43, 44, 45, 46, 47, 48, 49, 50, 51, 52, 53, 54, 55, 56, 57] (by decide +kernel) (by decide +kernel)
set_option maxRecDepth 20000 in
theorem gX9_block_X9_alive : GoodIn wsX9_block (wsV RX9 140 RX9 yX9_alive wsX9_alive) := goodIn_app (goodIn_of _ (by decide +kernel)) ggX9_block_X9_alive
set_option maxRecDepth 20000 in
theorem ggX9_block_X9_has : GoodIn wsX9_block wsX9_has := goodIn_r _ [25] (by decide +kernel) (by decide +kernel)
set_option maxRecDepth 20000 in
theorem gX9_block_X9_has : GoodIn wsX9_block (va_wsS RX9 123 yX9_has wsX9_has) := goodIn_app (goodIn_of _ (by decide +kernel)) ggX9_block_X9_has
set_option maxRecDepth 20000 in
theorem ggX9_block_X9_warmBy : GoodIn wsX9_block wsX9_warmBy := goodIn_r _ [29, 1, 23, 24, 5, 25, 37, 38, 39, 40, 41, 42, 43, 44, 45, 46, 47, 48, 49, 50, 51, 52, 53, 54, 55, 56, 57] (by decide +kernel) (by decide +kernel)
set_option maxRecDepth 20000 in
theorem gX9_block_X9_warmBy : GoodIn wsX9_block (wsV RX9 163 RX9 yX9_warmBy wsX9_warmBy) := goodIn_app (goodIn_of _ (by decide +kernel)) ggX9_block_X9_warmBy
set_option maxRecDepth 20000 in
theorem ggX9_block_X9_coldNow : GoodIn wsX9_block wsX9_coldNow := goodIn_r _ [33, 1, 14, 37, 38, 39, 40, 41, 42, 43, 44, 45, 46, 47, 48, 49, 50, 51, 52, 53, 54, 55, 56, 57] (by decide +kernel) (by decide +kernel)
set_option maxRecDepth 20000 in
theorem gX9_block_X9_coldNow : GoodIn wsX9_block (wsV RX9 157 RX9 yX9_coldNow wsX9_coldNow) := goodIn_app (goodIn_of _ (by decide +kernel)) ggX9_block_X9_coldNow
set_option maxRecDepth 20000 in
theorem ggX9_block_X9_ones : GoodIn wsX9_block wsX9_ones := goodIn_r _ [36] (by decide +kernel) (by decide +kernel)
set_option maxRecDepth 20000 in
theorem gX9_block_X9_ones : GoodIn wsX9_block (va_wsS RX9 175 yX9_ones wsX9_ones) := goodIn_app (goodIn_of _ (by decide +kernel)) ggX9_block_X9_ones
theorem dX9_block_0 : decode cX9_block 0 = .ok (.aload_n 0, 1) := by decide +kernel
theorem dX9_block_1 : decode cX9_block 1 = .ok (.iload_n 1, 1) := by decide +kernel
theorem dX9_block_2 : decode cX9_block 2 = .ok (.invokevirtual 149, 3) := by decide +kernel
theorem dX9_block_5 : decode cX9_block 5 = .ok (.ifCond .ne 6, 3) := by decide +kernel
theorem dX9_block_8 : decode cX9_block 8 = .ok (.bipush (-2), 2) := by decide +kernel
theorem dX9_block_10 : decode cX9_block 10 = .ok (.ireturn, 1) := by decide +kernel
theorem dX9_block_11 : decode cX9_block 11 = .ok (.aload_n 0, 1) := by decide +kernel
theorem dX9_block_12 : decode cX9_block 12 = .ok (.iload_n 1, 1) := by decide +kernel
theorem dX9_block_13 : decode cX9_block 13 = .ok (.invokevirtual 117, 3) := by decide +kernel
theorem dX9_block_16 : decode cX9_block 16 = .ok (.ifCond .eq 6, 3) := by decide +kernel
theorem dX9_block_19 : decode cX9_block 19 = .ok (.bipush (-4), 2) := by decide +kernel
theorem dX9_block_21 : decode cX9_block 21 = .ok (.ireturn, 1) := by decide +kernel
theorem dX9_block_22 : decode cX9_block 22 = .ok (.aload_n 0, 1) := by decide +kernel
theorem dX9_block_23 : decode cX9_block 23 = .ok (.invokevirtual 140, 3) := by decide +kernel
theorem dX9_block_26 : decode cX9_block 26 = .ok (.istore_n 2, 1) := by decide +kernel
theorem dX9_block_27 : decode cX9_block 27 = .ok (.iconst (-1), 1) := by decide +kernel
theorem dX9_block_28 : decode cX9_block 28 = .ok (.istore_n 3, 1) := by decide +kernel
theorem dX9_block_29 : decode cX9_block 29 = .ok (.iconst 0, 1) := by decide +kernel
theorem dX9_block_30 : decode cX9_block 30 = .ok (.istore 4, 2) := by decide +kernel
theorem dX9_block_32 : decode cX9_block 32 = .ok (.iload 4, 2) := by decide +kernel
theorem dX9_block_34 : decode cX9_block 34 = .ok (.iconst 1, 1) := by decide +kernel
theorem dX9_block_35 : decode cX9_block 35 = .ok (.aload_n 0, 1) := by decide +kernel
theorem dX9_block_36 : decode cX9_block 36 = .ok (.getfield 7, 3) := by decide +kernel
theorem dX9_block_39 : decode cX9_block 39 = .ok (.iconst 0, 1) := by decide +kernel
theorem dX9_block_40 : decode cX9_block 40 = .ok (.iaload, 1) := by decide +kernel
theorem dX9_block_41 : decode cX9_block 41 = .ok (.ishl, 1) := by decide +kernel
theorem dX9_block_42 : decode cX9_block 42 = .ok (.if_icmp .ge 79, 3) := by decide +kernel
theorem dX9_block_45 : decode cX9_block 45 = .ok (.iload 4, 2) := by decide +kernel
theorem dX9_block_47 : decode cX9_block 47 = .ok (.iload_n 2, 1) := by decide +kernel
theorem dX9_block_48 : decode cX9_block 48 = .ok (.iconst (-1), 1) := by decide +kernel
theorem dX9_block_49 : decode cX9_block 49 = .ok (.ixor, 1) := by decide +kernel
theorem dX9_block_50 : decode cX9_block 50 = .ok (.iand, 1) := by decide +kernel
theorem dX9_block_51 : decode cX9_block 51 = .ok (.ifCond .ne 33, 3) := by decide +kernel
theorem dX9_block_54 : decode cX9_block 54 = .ok (.iload 4, 2) := by decide +kernel
theorem dX9_block_56 : decode cX9_block 56 = .ok (.iload_n 1, 1) := by decide +kernel
theorem dX9_block_57 : decode cX9_block 57 = .ok (.invokestatic 123, 3) := by decide +kernel
theorem dX9_block_60 : decode cX9_block 60 = .ok (.ifCond .ne 24, 3) := by decide +kernel
theorem dX9_block_63 : decode cX9_block 63 = .ok (.aload_n 0, 1) := by decide +kernel
theorem dX9_block_64 : decode cX9_block 64 = .ok (.iload_n 2, 1) := by decide +kernel
theorem dX9_block_65 : decode cX9_block 65 = .ok (.iload 4, 2) := by decide +kernel
theorem dX9_block_67 : decode cX9_block 67 = .ok (.iconst (-1), 1) := by decide +kernel
theorem dX9_block_68 : decode cX9_block 68 = .ok (.ixor, 1) := by decide +kernel
theorem dX9_block_69 : decode cX9_block 69 = .ok (.iand, 1) := by decide +kernel
theorem dX9_block_70 : decode cX9_block 70 = .ok (.invokevirtual 163, 3) := by decide +kernel
theorem dX9_block_73 : decode cX9_block 73 = .ok (.aload_n 0, 1) := by decide +kernel
theorem dX9_block_74 : decode cX9_block 74 = .ok (.invokevirtual 157, 3) := by decide +kernel
theorem dX9_block_77 : decode cX9_block 77 = .ok (.if_icmp .ge 7, 3) := by decide +kernel
theorem dX9_block_80 : decode cX9_block 80 = .ok (.iconst 1, 1) := by decide +kernel
theorem dX9_block_81 : decode cX9_block 81 = .ok (.goto 4, 3) := by decide +kernel
theorem dX9_block_84 : decode cX9_block 84 = .ok (.iconst 0, 1) := by decide +kernel
theorem dX9_block_85 : decode cX9_block 85 = .ok (.istore 5, 2) := by decide +kernel
theorem dX9_block_87 : decode cX9_block 87 = .ok (.iload 5, 2) := by decide +kernel
theorem dX9_block_89 : decode cX9_block 89 = .ok (.ifCond .eq 24, 3) := by decide +kernel
theorem dX9_block_92 : decode cX9_block 92 = .ok (.iload_n 3, 1) := by decide +kernel
theorem dX9_block_93 : decode cX9_block 93 = .ok (.ifCond .lt 15, 3) := by decide +kernel
theorem dX9_block_96 : decode cX9_block 96 = .ok (.iload 4, 2) := by decide +kernel
theorem dX9_block_98 : decode cX9_block 98 = .ok (.invokestatic 175, 3) := by decide +kernel
theorem dX9_block_101 : decode cX9_block 101 = .ok (.iload_n 3, 1) := by decide +kernel
theorem dX9_block_102 : decode cX9_block 102 = .ok (.invokestatic 175, 3) := by decide +kernel
theorem dX9_block_105 : decode cX9_block 105 = .ok (.if_icmp .ge 8, 3) := by decide +kernel
theorem dX9_block_108 : decode cX9_block 108 = .ok (.iload 4, 2) := by decide +kernel
theorem dX9_block_110 : decode cX9_block 110 = .ok (.goto 4, 3) := by decide +kernel
theorem dX9_block_113 : decode cX9_block 113 = .ok (.iload_n 3, 1) := by decide +kernel
theorem dX9_block_114 : decode cX9_block 114 = .ok (.istore_n 3, 1) := by decide +kernel
theorem dX9_block_115 : decode cX9_block 115 = .ok (.iinc 4 1, 3) := by decide +kernel
theorem dX9_block_118 : decode cX9_block 118 = .ok (.goto (-86), 3) := by decide +kernel
theorem dX9_block_121 : decode cX9_block 121 = .ok (.iload_n 3, 1) := by decide +kernel
theorem dX9_block_122 : decode cX9_block 122 = .ok (.ireturn, 1) := by decide +kernel
set_option maxRecDepth 20000 in
theorem ggX9_wrong_X9_isFamily : GoodIn wsX9_wrong wsX9_isFamily := goodIn_r _ [6, 1, 7, 8, 5, 9, 38, 39, 40, 41, 42, 43, 44, 45, 46, 47, 48, 49, 50, 51, 52, 53, 54, 55, 56, 57, 58] (by decide +kernel) (by decide +kernel)
set_option maxRecDepth 20000 in
theorem gX9_wrong_X9_isFamily : GoodIn wsX9_wrong (wsV RX9 149 RX9 yX9_isFamily wsX9_isFamily) := goodIn_app (goodIn_of _ (by decide +kernel)) ggX9_wrong_X9_isFamily
set_option maxRecDepth 20000 in
theorem ggX9_wrong_X9_isFrozen : GoodIn wsX9_wrong wsX9_isFrozen := goodIn_r _ [13, 14, 38, 39, 40, 41, 42, 43, 44, 45, 46, 47, 48, 49, 50, 51, 52, 53, 54, 55, 56, 57, 58] (by decide +kernel) (by decide +kernel)
set_option maxRecDepth 20000 in
theorem gX9_wrong_X9_isFrozen : GoodIn wsX9_wrong (wsV RX9 117 RX9 yX9_isFrozen wsX9_isFrozen) := goodIn_app (goodIn_of _ (by decide +kernel)) ggX9_wrong_X9_isFrozen
set_option maxRecDepth 20000 in
theorem ggX9_wrong_X9_doneUp : GoodIn wsX9_wrong wsX9_doneUp := goodIn_r _ [18, 19, 20, 21, 5, 22, 1, 14, 23, 24, 25, 26, 27, 28, 29, 30, 31, 32, 33, 10, 11, 12, 13, 38, 39, 40, 41, 42, 43, 44, 45, 46, 47, 48, 49, 50, 51, 52, 53, 54, 55, 56, 57, 58] (by decide +kernel) (by decide +kernel)
set_option maxRecDepth 20000 in
theorem gX9_wrong_X9_doneUp : GoodIn wsX9_wrong (wsV RX9 143 RX9 yX9_doneUp wsX9_doneUp) := goodIn_app (goodIn_of _ (by decide +kernel)) ggX9_wrong_X9_doneUp
set_option maxRecDepth 20000 in
theorem ggX9_wrong_X9_warmBy : GoodIn wsX9_wrong wsX9_warmBy := goodIn_r _ [37, 1, 23, 24, 5, 25, 38, 39, 40, 41, 42, 43, 44, 45, 46, 47, 48, 49, 50, 51, 52, 53, 54, 55, 56, 57, 58] (by decide +kernel) (by decide +kernel)
set_option maxRecDepth 20000 in
theorem gX9_wrong_X9_warmBy : GoodIn wsX9_wrong (wsV RX9 163 RX9 yX9_warmBy wsX9_warmBy) := goodIn_app (goodIn_of _ (by decide +kernel)) ggX9_wrong_X9_warmBy
theorem dX9_wrong_0 : decode cX9_wrong 0 = .ok (.aload_n 0, 1) := by decide +kernel
theorem dX9_wrong_1 : decode cX9_wrong 1 = .ok (.iload_n 1, 1) := by decide +kernel
theorem dX9_wrong_2 : decode cX9_wrong 2 = .ok (.invokevirtual 149, 3) := by decide +kernel
theorem dX9_wrong_5 : decode cX9_wrong 5 = .ok (.ifCond .ne 6, 3) := by decide +kernel
theorem dX9_wrong_8 : decode cX9_wrong 8 = .ok (.bipush (-2), 2) := by decide +kernel
theorem dX9_wrong_10 : decode cX9_wrong 10 = .ok (.ireturn, 1) := by decide +kernel
theorem dX9_wrong_11 : decode cX9_wrong 11 = .ok (.aload_n 0, 1) := by decide +kernel
theorem dX9_wrong_12 : decode cX9_wrong 12 = .ok (.iload_n 1, 1) := by decide +kernel
theorem dX9_wrong_13 : decode cX9_wrong 13 = .ok (.invokevirtual 117, 3) := by decide +kernel
theorem dX9_wrong_16 : decode cX9_wrong 16 = .ok (.ifCond .eq 6, 3) := by decide +kernel
theorem dX9_wrong_19 : decode cX9_wrong 19 = .ok (.bipush (-4), 2) := by decide +kernel
theorem dX9_wrong_21 : decode cX9_wrong 21 = .ok (.ireturn, 1) := by decide +kernel
theorem dX9_wrong_22 : decode cX9_wrong 22 = .ok (.aload_n 0, 1) := by decide +kernel
theorem dX9_wrong_23 : decode cX9_wrong 23 = .ok (.aload_n 0, 1) := by decide +kernel
theorem dX9_wrong_24 : decode cX9_wrong 24 = .ok (.iload_n 1, 1) := by decide +kernel
theorem dX9_wrong_25 : decode cX9_wrong 25 = .ok (.invokevirtual 143, 3) := by decide +kernel
theorem dX9_wrong_28 : decode cX9_wrong 28 = .ok (.iconst 1, 1) := by decide +kernel
theorem dX9_wrong_29 : decode cX9_wrong 29 = .ok (.ishl, 1) := by decide +kernel
theorem dX9_wrong_30 : decode cX9_wrong 30 = .ok (.iconst 1, 1) := by decide +kernel
theorem dX9_wrong_31 : decode cX9_wrong 31 = .ok (.aload_n 0, 1) := by decide +kernel
theorem dX9_wrong_32 : decode cX9_wrong 32 = .ok (.getfield 7, 3) := by decide +kernel
theorem dX9_wrong_35 : decode cX9_wrong 35 = .ok (.iconst 0, 1) := by decide +kernel
theorem dX9_wrong_36 : decode cX9_wrong 36 = .ok (.iaload, 1) := by decide +kernel
theorem dX9_wrong_37 : decode cX9_wrong 37 = .ok (.ishl, 1) := by decide +kernel
theorem dX9_wrong_38 : decode cX9_wrong 38 = .ok (.iconst 1, 1) := by decide +kernel
theorem dX9_wrong_39 : decode cX9_wrong 39 = .ok (.isub, 1) := by decide +kernel
theorem dX9_wrong_40 : decode cX9_wrong 40 = .ok (.iand, 1) := by decide +kernel
theorem dX9_wrong_41 : decode cX9_wrong 41 = .ok (.invokevirtual 163, 3) := by decide +kernel
theorem dX9_wrong_44 : decode cX9_wrong 44 = .ok (.ireturn, 1) := by decide +kernel
theorem dX9_healthOfAll_0 : decode cX9_healthOfAll 0 = .ok (.iconst 0, 1) := by decide +kernel
theorem dX9_healthOfAll_1 : decode cX9_healthOfAll 1 = .ok (.istore_n 1, 1) := by decide +kernel
theorem dX9_healthOfAll_2 : decode cX9_healthOfAll 2 = .ok (.iconst 0, 1) := by decide +kernel
theorem dX9_healthOfAll_3 : decode cX9_healthOfAll 3 = .ok (.istore_n 2, 1) := by decide +kernel
theorem dX9_healthOfAll_4 : decode cX9_healthOfAll 4 = .ok (.iload_n 2, 1) := by decide +kernel
theorem dX9_healthOfAll_5 : decode cX9_healthOfAll 5 = .ok (.aload_n 0, 1) := by decide +kernel
theorem dX9_healthOfAll_6 : decode cX9_healthOfAll 6 = .ok (.getfield 7, 3) := by decide +kernel
theorem dX9_healthOfAll_9 : decode cX9_healthOfAll 9 = .ok (.iconst 0, 1) := by decide +kernel
theorem dX9_healthOfAll_10 : decode cX9_healthOfAll 10 = .ok (.iaload, 1) := by decide +kernel
theorem dX9_healthOfAll_11 : decode cX9_healthOfAll 11 = .ok (.if_icmp .ge 18, 3) := by decide +kernel
theorem dX9_healthOfAll_14 : decode cX9_healthOfAll 14 = .ok (.iload_n 1, 1) := by decide +kernel
theorem dX9_healthOfAll_15 : decode cX9_healthOfAll 15 = .ok (.aload_n 0, 1) := by decide +kernel
theorem dX9_healthOfAll_16 : decode cX9_healthOfAll 16 = .ok (.getfield 13, 3) := by decide +kernel
theorem dX9_healthOfAll_19 : decode cX9_healthOfAll 19 = .ok (.iload_n 2, 1) := by decide +kernel
theorem dX9_healthOfAll_20 : decode cX9_healthOfAll 20 = .ok (.iaload, 1) := by decide +kernel
theorem dX9_healthOfAll_21 : decode cX9_healthOfAll 21 = .ok (.iadd, 1) := by decide +kernel
theorem dX9_healthOfAll_22 : decode cX9_healthOfAll 22 = .ok (.istore_n 1, 1) := by decide +kernel
theorem dX9_healthOfAll_23 : decode cX9_healthOfAll 23 = .ok (.iinc 2 1, 3) := by decide +kernel
theorem dX9_healthOfAll_26 : decode cX9_healthOfAll 26 = .ok (.goto (-22), 3) := by decide +kernel
theorem dX9_healthOfAll_29 : decode cX9_healthOfAll 29 = .ok (.iload_n 1, 1) := by decide +kernel
theorem dX9_healthOfAll_30 : decode cX9_healthOfAll 30 = .ok (.ireturn, 1) := by decide +kernel
set_option maxRecDepth 20000 in
theorem ggX9_turns_X9_in : GoodIn wsX9_turns wsX9_in := goodIn_r _ [9] (by decide +kernel) (by decide +kernel)
set_option maxRecDepth 20000 in
theorem gX9_turns_X9_in : GoodIn wsX9_turns (va_wsS RX9 38 yX9_in wsX9_in) := goodIn_app (goodIn_of _ (by decide +kernel)) ggX9_turns_X9_in
set_option maxRecDepth 20000 in
theorem ggX9_turns_X9_oneDay : GoodIn wsX9_turns wsX9_oneDay := goodIn_r _ [13, 5, 4, 14, 15, 16, 8, 17, 18, 19, 20, 21, 22, 23, 24, 25, 26, 27, 28, 29, 30, 31, 32, 33, 34, 35, 36, 37, 38, 39, 40, 41, 42, 43, 44, 45, 46, 47, 48, 49, 50, 51, 52, 53, 54, 55, 56, 57, 58, 59, 60, 61, 62, 63, 64, 72, 73, 74, 75, 76, 77, 78, 79, 80, 81, 82, 83, 84, 85, 86, 87, 88, 89, 90, 91, 92] (by decide +kernel) (by decide +kernel)
set_option maxRecDepth 20000 in
theorem gX9_turns_X9_oneDay : GoodIn wsX9_turns (wsV RX9 166 RX9 yX9_oneDay wsX9_oneDay) := goodIn_app (goodIn_of _ (by decide +kernel)) ggX9_turns_X9_oneDay
set_option maxRecDepth 20000 in
theorem ggX9_turns_X9_frozen : GoodIn wsX9_turns wsX9_frozen := goodIn_r _ [44, 5, 18, 19, 20, 8, 21, 4, 72, 73, 74, 75, 76, 77, 78, 79, 80, 81, 82, 83, 84, 85, 86, 87, 88, 89, 90, 91, 92] (by decide +kernel) (by decide +kernel)
set_option maxRecDepth 20000 in
theorem gX9_turns_X9_frozen : GoodIn wsX9_turns (wsV RX9 120 RX9 yX9_frozen wsX9_frozen) := goodIn_app (goodIn_of _ (by decide +kernel)) ggX9_turns_X9_frozen
set_option maxRecDepth 20000 in
theorem ggX9_turns_X9_ones : GoodIn wsX9_turns wsX9_ones := goodIn_r _ [67] (by decide +kernel) (by decide +kernel)
set_option maxRecDepth 20000 in
theorem gX9_turns_X9_ones : GoodIn wsX9_turns (va_wsS RX9 175 yX9_ones wsX9_ones) := goodIn_app (goodIn_of _ (by decide +kernel)) ggX9_turns_X9_ones
set_option maxRecDepth 20000 in
theorem ggX9_turns_X9_healthOfAll : GoodIn wsX9_turns wsX9_healthOfAll := goodIn_r _ [71, 5, 4, 72, 73, 74, 75, 76, 77, 78, 79, 80, 81, 82, 83, 84, 85, 86, 87, 88, 89, 90, 91, 92] (by decide +kernel) (by decide +kernel)
set_option maxRecDepth 20000 in
theorem gX9_turns_X9_healthOfAll : GoodIn wsX9_turns (wsV RX9 207 RX9 yX9_healthOfAll wsX9_healthOfAll) := goodIn_app (goodIn_of _ (by decide +kernel)) ggX9_turns_X9_healthOfAll
theorem dX9_turns_0 : decode cX9_turns 0 = .ok (.iload_n 1, 1) := by decide +kernel
theorem dX9_turns_1 : decode cX9_turns 1 = .ok (.i2l, 1) := by decide +kernel
theorem dX9_turns_2 : decode cX9_turns 2 = .ok (.lconst 0, 1) := by decide +kernel
theorem dX9_turns_3 : decode cX9_turns 3 = .ok (.ldc2_w 152, 3) := by decide +kernel
theorem dX9_turns_6 : decode cX9_turns 6 = .ok (.invokestatic 38, 3) := by decide +kernel
theorem dX9_turns_9 : decode cX9_turns 9 = .ok (.ifCond .eq 15, 3) := by decide +kernel
theorem dX9_turns_12 : decode cX9_turns 12 = .ok (.iload_n 2, 1) := by decide +kernel
theorem dX9_turns_13 : decode cX9_turns 13 = .ok (.i2l, 1) := by decide +kernel
theorem dX9_turns_14 : decode cX9_turns 14 = .ok (.lconst 0, 1) := by decide +kernel
theorem dX9_turns_15 : decode cX9_turns 15 = .ok (.ldc2_w 205, 3) := by decide +kernel
theorem dX9_turns_18 : decode cX9_turns 18 = .ok (.invokestatic 38, 3) := by decide +kernel
theorem dX9_turns_21 : decode cX9_turns 21 = .ok (.ifCond .ne 6, 3) := by decide +kernel
theorem dX9_turns_24 : decode cX9_turns 24 = .ok (.bipush (-3), 2) := by decide +kernel
theorem dX9_turns_26 : decode cX9_turns 26 = .ok (.ireturn, 1) := by decide +kernel
theorem dX9_turns_27 : decode cX9_turns 27 = .ok (.iconst 0, 1) := by decide +kernel
theorem dX9_turns_28 : decode cX9_turns 28 = .ok (.istore_n 3, 1) := by decide +kernel
theorem dX9_turns_29 : decode cX9_turns 29 = .ok (.iload_n 3, 1) := by decide +kernel
theorem dX9_turns_30 : decode cX9_turns 30 = .ok (.bipush 15, 2) := by decide +kernel
theorem dX9_turns_32 : decode cX9_turns 32 = .ok (.if_icmp .ge 21, 3) := by decide +kernel
theorem dX9_turns_35 : decode cX9_turns 35 = .ok (.aload_n 0, 1) := by decide +kernel
theorem dX9_turns_36 : decode cX9_turns 36 = .ok (.getfield 32, 3) := by decide +kernel
theorem dX9_turns_39 : decode cX9_turns 39 = .ok (.iload_n 3, 1) := by decide +kernel
theorem dX9_turns_40 : decode cX9_turns 40 = .ok (.aload_n 0, 1) := by decide +kernel
theorem dX9_turns_41 : decode cX9_turns 41 = .ok (.getfield 13, 3) := by decide +kernel
theorem dX9_turns_44 : decode cX9_turns 44 = .ok (.iload_n 3, 1) := by decide +kernel
theorem dX9_turns_45 : decode cX9_turns 45 = .ok (.iaload, 1) := by decide +kernel
theorem dX9_turns_46 : decode cX9_turns 46 = .ok (.iastore, 1) := by decide +kernel
theorem dX9_turns_47 : decode cX9_turns 47 = .ok (.iinc 3 1, 3) := by decide +kernel
theorem dX9_turns_50 : decode cX9_turns 50 = .ok (.goto (-21), 3) := by decide +kernel
theorem dX9_turns_53 : decode cX9_turns 53 = .ok (.iconst 1, 1) := by decide +kernel
theorem dX9_turns_54 : decode cX9_turns 54 = .ok (.istore_n 3, 1) := by decide +kernel
theorem dX9_turns_55 : decode cX9_turns 55 = .ok (.iconst 0, 1) := by decide +kernel
theorem dX9_turns_56 : decode cX9_turns 56 = .ok (.istore 4, 2) := by decide +kernel
theorem dX9_turns_58 : decode cX9_turns 58 = .ok (.iload 4, 2) := by decide +kernel
theorem dX9_turns_60 : decode cX9_turns 60 = .ok (.iload_n 1, 1) := by decide +kernel
theorem dX9_turns_61 : decode cX9_turns 61 = .ok (.if_icmp .ge 20, 3) := by decide +kernel
theorem dX9_turns_64 : decode cX9_turns 64 = .ok (.iload_n 3, 1) := by decide +kernel
theorem dX9_turns_65 : decode cX9_turns 65 = .ok (.aload_n 0, 1) := by decide +kernel
theorem dX9_turns_66 : decode cX9_turns 66 = .ok (.getfield 7, 3) := by decide +kernel
theorem dX9_turns_69 : decode cX9_turns 69 = .ok (.iconst 0, 1) := by decide +kernel
theorem dX9_turns_70 : decode cX9_turns 70 = .ok (.iaload, 1) := by decide +kernel
theorem dX9_turns_71 : decode cX9_turns 71 = .ok (.iconst 1, 1) := by decide +kernel
theorem dX9_turns_72 : decode cX9_turns 72 = .ok (.iadd, 1) := by decide +kernel
theorem dX9_turns_73 : decode cX9_turns 73 = .ok (.imul, 1) := by decide +kernel
theorem dX9_turns_74 : decode cX9_turns 74 = .ok (.istore_n 3, 1) := by decide +kernel
theorem dX9_turns_75 : decode cX9_turns 75 = .ok (.iinc 4 1, 3) := by decide +kernel
theorem dX9_turns_78 : decode cX9_turns 78 = .ok (.goto (-20), 3) := by decide +kernel
theorem dX9_turns_81 : decode cX9_turns 81 = .ok (.bipush 8, 2) := by decide +kernel
theorem dX9_turns_83 : decode cX9_turns 83 = .ok (.istore 4, 2) := by decide +kernel
theorem dX9_turns_85 : decode cX9_turns 85 = .ok (.iconst 0, 1) := by decide +kernel
theorem dX9_turns_86 : decode cX9_turns 86 = .ok (.istore 5, 2) := by decide +kernel
theorem dX9_turns_88 : decode cX9_turns 88 = .ok (.iconst 0, 1) := by decide +kernel
theorem dX9_turns_89 : decode cX9_turns 89 = .ok (.istore 6, 2) := by decide +kernel
theorem dX9_turns_91 : decode cX9_turns 91 = .ok (.iconst 0, 1) := by decide +kernel
theorem dX9_turns_92 : decode cX9_turns 92 = .ok (.istore 7, 2) := by decide +kernel
theorem dX9_turns_94 : decode cX9_turns 94 = .ok (.iload 7, 2) := by decide +kernel
theorem dX9_turns_96 : decode cX9_turns 96 = .ok (.iload_n 3, 1) := by decide +kernel
theorem dX9_turns_97 : decode cX9_turns 97 = .ok (.if_icmp .ge 139, 3) := by decide +kernel
theorem dX9_turns_100 : decode cX9_turns 100 = .ok (.iload_n 3, 1) := by decide +kernel
theorem dX9_turns_101 : decode cX9_turns 101 = .ok (.istore 8, 2) := by decide +kernel
theorem dX9_turns_103 : decode cX9_turns 103 = .ok (.iconst 0, 1) := by decide +kernel
theorem dX9_turns_104 : decode cX9_turns 104 = .ok (.istore 9, 2) := by decide +kernel
theorem dX9_turns_106 : decode cX9_turns 106 = .ok (.iload 9, 2) := by decide +kernel
theorem dX9_turns_108 : decode cX9_turns 108 = .ok (.iload_n 1, 1) := by decide +kernel
theorem dX9_turns_109 : decode cX9_turns 109 = .ok (.if_icmp .ge 43, 3) := by decide +kernel
theorem dX9_turns_112 : decode cX9_turns 112 = .ok (.iload 8, 2) := by decide +kernel
theorem dX9_turns_114 : decode cX9_turns 114 = .ok (.aload_n 0, 1) := by decide +kernel
theorem dX9_turns_115 : decode cX9_turns 115 = .ok (.getfield 7, 3) := by decide +kernel
theorem dX9_turns_118 : decode cX9_turns 118 = .ok (.iconst 0, 1) := by decide +kernel
theorem dX9_turns_119 : decode cX9_turns 119 = .ok (.iaload, 1) := by decide +kernel
theorem dX9_turns_120 : decode cX9_turns 120 = .ok (.iconst 1, 1) := by decide +kernel
theorem dX9_turns_121 : decode cX9_turns 121 = .ok (.iadd, 1) := by decide +kernel
theorem dX9_turns_122 : decode cX9_turns 122 = .ok (.idiv, 1) := by decide +kernel
theorem dX9_turns_123 : decode cX9_turns 123 = .ok (.istore 8, 2) := by decide +kernel
theorem dX9_turns_125 : decode cX9_turns 125 = .ok (.aload_n 0, 1) := by decide +kernel
theorem dX9_turns_126 : decode cX9_turns 126 = .ok (.iload 7, 2) := by decide +kernel
theorem dX9_turns_128 : decode cX9_turns 128 = .ok (.iload 8, 2) := by decide +kernel
theorem dX9_turns_130 : decode cX9_turns 130 = .ok (.idiv, 1) := by decide +kernel
theorem dX9_turns_131 : decode cX9_turns 131 = .ok (.aload_n 0, 1) := by decide +kernel
theorem dX9_turns_132 : decode cX9_turns 132 = .ok (.getfield 7, 3) := by decide +kernel
theorem dX9_turns_135 : decode cX9_turns 135 = .ok (.iconst 0, 1) := by decide +kernel
theorem dX9_turns_136 : decode cX9_turns 136 = .ok (.iaload, 1) := by decide +kernel
theorem dX9_turns_137 : decode cX9_turns 137 = .ok (.iconst 1, 1) := by decide +kernel
theorem dX9_turns_138 : decode cX9_turns 138 = .ok (.iadd, 1) := by decide +kernel
theorem dX9_turns_139 : decode cX9_turns 139 = .ok (.irem, 1) := by decide +kernel
theorem dX9_turns_140 : decode cX9_turns 140 = .ok (.iconst 1, 1) := by decide +kernel
theorem dX9_turns_141 : decode cX9_turns 141 = .ok (.isub, 1) := by decide +kernel
theorem dX9_turns_142 : decode cX9_turns 142 = .ok (.invokevirtual 166, 3) := by decide +kernel
theorem dX9_turns_145 : decode cX9_turns 145 = .ok (.pop, 1) := by decide +kernel
theorem dX9_turns_146 : decode cX9_turns 146 = .ok (.iinc 9 1, 3) := by decide +kernel
theorem dX9_turns_149 : decode cX9_turns 149 = .ok (.goto (-43), 3) := by decide +kernel
theorem dX9_turns_152 : decode cX9_turns 152 = .ok (.aload_n 0, 1) := by decide +kernel
theorem dX9_turns_153 : decode cX9_turns 153 = .ok (.invokevirtual 120, 3) := by decide +kernel
theorem dX9_turns_156 : decode cX9_turns 156 = .ok (.invokestatic 175, 3) := by decide +kernel
theorem dX9_turns_159 : decode cX9_turns 159 = .ok (.istore 9, 2) := by decide +kernel
theorem dX9_turns_161 : decode cX9_turns 161 = .ok (.aload_n 0, 1) := by decide +kernel
theorem dX9_turns_162 : decode cX9_turns 162 = .ok (.invokevirtual 207, 3) := by decide +kernel
theorem dX9_turns_165 : decode cX9_turns 165 = .ok (.istore 10, 2) := by decide +kernel
theorem dX9_turns_167 : decode cX9_turns 167 = .ok (.iload 9, 2) := by decide +kernel
theorem dX9_turns_169 : decode cX9_turns 169 = .ok (.iload 4, 2) := by decide +kernel
theorem dX9_turns_171 : decode cX9_turns 171 = .ok (.if_icmp .lt 17, 3) := by decide +kernel
theorem dX9_turns_174 : decode cX9_turns 174 = .ok (.iload 9, 2) := by decide +kernel
theorem dX9_turns_176 : decode cX9_turns 176 = .ok (.iload 4, 2) := by decide +kernel
theorem dX9_turns_178 : decode cX9_turns 178 = .ok (.if_icmp .ne 22, 3) := by decide +kernel
theorem dX9_turns_181 : decode cX9_turns 181 = .ok (.iload 10, 2) := by decide +kernel
theorem dX9_turns_183 : decode cX9_turns 183 = .ok (.iload 5, 2) := by decide +kernel
theorem dX9_turns_185 : decode cX9_turns 185 = .ok (.if_icmp .le 15, 3) := by decide +kernel
theorem dX9_turns_188 : decode cX9_turns 188 = .ok (.iload 9, 2) := by decide +kernel
theorem dX9_turns_190 : decode cX9_turns 190 = .ok (.istore 4, 2) := by decide +kernel
theorem dX9_turns_192 : decode cX9_turns 192 = .ok (.iload 10, 2) := by decide +kernel
theorem dX9_turns_194 : decode cX9_turns 194 = .ok (.istore 5, 2) := by decide +kernel
theorem dX9_turns_196 : decode cX9_turns 196 = .ok (.iload 7, 2) := by decide +kernel
theorem dX9_turns_198 : decode cX9_turns 198 = .ok (.istore 6, 2) := by decide +kernel
theorem dX9_turns_200 : decode cX9_turns 200 = .ok (.iconst 0, 1) := by decide +kernel
theorem dX9_turns_201 : decode cX9_turns 201 = .ok (.istore 11, 2) := by decide +kernel
theorem dX9_turns_203 : decode cX9_turns 203 = .ok (.iload 11, 2) := by decide +kernel
theorem dX9_turns_205 : decode cX9_turns 205 = .ok (.bipush 15, 2) := by decide +kernel
theorem dX9_turns_207 : decode cX9_turns 207 = .ok (.if_icmp .ge 23, 3) := by decide +kernel
theorem dX9_turns_210 : decode cX9_turns 210 = .ok (.aload_n 0, 1) := by decide +kernel
theorem dX9_turns_211 : decode cX9_turns 211 = .ok (.getfield 13, 3) := by decide +kernel
theorem dX9_turns_214 : decode cX9_turns 214 = .ok (.iload 11, 2) := by decide +kernel
theorem dX9_turns_216 : decode cX9_turns 216 = .ok (.aload_n 0, 1) := by decide +kernel
theorem dX9_turns_217 : decode cX9_turns 217 = .ok (.getfield 32, 3) := by decide +kernel
theorem dX9_turns_220 : decode cX9_turns 220 = .ok (.iload 11, 2) := by decide +kernel
theorem dX9_turns_222 : decode cX9_turns 222 = .ok (.iaload, 1) := by decide +kernel
theorem dX9_turns_223 : decode cX9_turns 223 = .ok (.iastore, 1) := by decide +kernel
theorem dX9_turns_224 : decode cX9_turns 224 = .ok (.iinc 11 1, 3) := by decide +kernel
theorem dX9_turns_227 : decode cX9_turns 227 = .ok (.goto (-24), 3) := by decide +kernel
theorem dX9_turns_230 : decode cX9_turns 230 = .ok (.iinc 7 1, 3) := by decide +kernel
theorem dX9_turns_233 : decode cX9_turns 233 = .ok (.goto (-139), 3) := by decide +kernel
theorem dX9_turns_236 : decode cX9_turns 236 = .ok (.iload_n 2, 1) := by decide +kernel
theorem dX9_turns_237 : decode cX9_turns 237 = .ok (.iconst 2, 1) := by decide +kernel
theorem dX9_turns_238 : decode cX9_turns 238 = .ok (.if_icmp .ge 15, 3) := by decide +kernel
theorem dX9_turns_241 : decode cX9_turns 241 = .ok (.iload_n 2, 1) := by decide +kernel
theorem dX9_turns_242 : decode cX9_turns 242 = .ok (.ifCond .ne 8, 3) := by decide +kernel
theorem dX9_turns_245 : decode cX9_turns 245 = .ok (.iload 4, 2) := by decide +kernel
theorem dX9_turns_247 : decode cX9_turns 247 = .ok (.goto 5, 3) := by decide +kernel
theorem dX9_turns_250 : decode cX9_turns 250 = .ok (.iload 5, 2) := by decide +kernel
theorem dX9_turns_252 : decode cX9_turns 252 = .ok (.ireturn, 1) := by decide +kernel
theorem dX9_turns_253 : decode cX9_turns 253 = .ok (.iload_n 3, 1) := by decide +kernel
theorem dX9_turns_254 : decode cX9_turns 254 = .ok (.istore 7, 2) := by decide +kernel
theorem dX9_turns_256 : decode cX9_turns 256 = .ok (.iconst 0, 1) := by decide +kernel
theorem dX9_turns_257 : decode cX9_turns 257 = .ok (.istore 8, 2) := by decide +kernel
theorem dX9_turns_259 : decode cX9_turns 259 = .ok (.iload 8, 2) := by decide +kernel
theorem dX9_turns_261 : decode cX9_turns 261 = .ok (.iload_n 2, 1) := by decide +kernel
theorem dX9_turns_262 : decode cX9_turns 262 = .ok (.iconst 2, 1) := by decide +kernel
theorem dX9_turns_263 : decode cX9_turns 263 = .ok (.isub, 1) := by decide +kernel
theorem dX9_turns_264 : decode cX9_turns 264 = .ok (.if_icmp .gt 33, 3) := by decide +kernel
theorem dX9_turns_267 : decode cX9_turns 267 = .ok (.iload 8, 2) := by decide +kernel
theorem dX9_turns_269 : decode cX9_turns 269 = .ok (.iload_n 1, 1) := by decide +kernel
theorem dX9_turns_270 : decode cX9_turns 270 = .ok (.if_icmp .ge 17, 3) := by decide +kernel
theorem dX9_turns_273 : decode cX9_turns 273 = .ok (.iload 7, 2) := by decide +kernel
theorem dX9_turns_275 : decode cX9_turns 275 = .ok (.aload_n 0, 1) := by decide +kernel
theorem dX9_turns_276 : decode cX9_turns 276 = .ok (.getfield 7, 3) := by decide +kernel
theorem dX9_turns_279 : decode cX9_turns 279 = .ok (.iconst 0, 1) := by decide +kernel
theorem dX9_turns_280 : decode cX9_turns 280 = .ok (.iaload, 1) := by decide +kernel
theorem dX9_turns_281 : decode cX9_turns 281 = .ok (.iconst 1, 1) := by decide +kernel
theorem dX9_turns_282 : decode cX9_turns 282 = .ok (.iadd, 1) := by decide +kernel
theorem dX9_turns_283 : decode cX9_turns 283 = .ok (.idiv, 1) := by decide +kernel
theorem dX9_turns_284 : decode cX9_turns 284 = .ok (.goto 5, 3) := by decide +kernel
theorem dX9_turns_287 : decode cX9_turns 287 = .ok (.iload 7, 2) := by decide +kernel
theorem dX9_turns_289 : decode cX9_turns 289 = .ok (.istore 7, 2) := by decide +kernel
theorem dX9_turns_291 : decode cX9_turns 291 = .ok (.iinc 8 1, 3) := by decide +kernel
theorem dX9_turns_294 : decode cX9_turns 294 = .ok (.goto (-35), 3) := by decide +kernel
theorem dX9_turns_297 : decode cX9_turns 297 = .ok (.iload_n 2, 1) := by decide +kernel
theorem dX9_turns_298 : decode cX9_turns 298 = .ok (.iconst 2, 1) := by decide +kernel
theorem dX9_turns_299 : decode cX9_turns 299 = .ok (.isub, 1) := by decide +kernel
theorem dX9_turns_300 : decode cX9_turns 300 = .ok (.iload_n 1, 1) := by decide +kernel
theorem dX9_turns_301 : decode cX9_turns 301 = .ok (.if_icmp .ge 22, 3) := by decide +kernel
theorem dX9_turns_304 : decode cX9_turns 304 = .ok (.iload 6, 2) := by decide +kernel
theorem dX9_turns_306 : decode cX9_turns 306 = .ok (.iload 7, 2) := by decide +kernel
theorem dX9_turns_308 : decode cX9_turns 308 = .ok (.idiv, 1) := by decide +kernel
theorem dX9_turns_309 : decode cX9_turns 309 = .ok (.aload_n 0, 1) := by decide +kernel
theorem dX9_turns_310 : decode cX9_turns 310 = .ok (.getfield 7, 3) := by decide +kernel
theorem dX9_turns_313 : decode cX9_turns 313 = .ok (.iconst 0, 1) := by decide +kernel
theorem dX9_turns_314 : decode cX9_turns 314 = .ok (.iaload, 1) := by decide +kernel
theorem dX9_turns_315 : decode cX9_turns 315 = .ok (.iconst 1, 1) := by decide +kernel
theorem dX9_turns_316 : decode cX9_turns 316 = .ok (.iadd, 1) := by decide +kernel
theorem dX9_turns_317 : decode cX9_turns 317 = .ok (.irem, 1) := by decide +kernel
theorem dX9_turns_318 : decode cX9_turns 318 = .ok (.iconst 1, 1) := by decide +kernel
theorem dX9_turns_319 : decode cX9_turns 319 = .ok (.isub, 1) := by decide +kernel
theorem dX9_turns_320 : decode cX9_turns 320 = .ok (.goto 4, 3) := by decide +kernel
theorem dX9_turns_323 : decode cX9_turns 323 = .ok (.iconst (-1), 1) := by decide +kernel
theorem dX9_turns_324 : decode cX9_turns 324 = .ok (.ireturn, 1) := by decide +kernel
set_option maxRecDepth 20000 in
theorem ggX9_seen_X9_areFamilies : GoodIn wsX9_seen wsX9_areFamilies := goodIn_r _ [7, 8, 9, 10, 6, 11, 12, 13, 14, 15, 16, 17, 18, 19, 20, 21, 22, 23, 24, 25, 26, 27, 28, 29, 30, 31, 32] (by decide +kernel) (by decide +kernel)
set_option maxRecDepth 20000 in
theorem gX9_seen_X9_areFamilies : GoodIn wsX9_seen (wsV RX9 169 RX9 yX9_areFamilies wsX9_areFamilies) := goodIn_app (goodIn_of _ (by decide +kernel)) ggX9_seen_X9_areFamilies
set_option maxRecDepth 20000 in
theorem ggX9_seen_X9_in : GoodIn wsX9_seen wsX9_in := goodIn_r _ [11] (by decide +kernel) (by decide +kernel)
set_option maxRecDepth 20000 in
theorem gX9_seen_X9_in : GoodIn wsX9_seen (va_wsS RX9 38 yX9_in wsX9_in) := goodIn_app (goodIn_of _ (by decide +kernel)) ggX9_seen_X9_in
theorem dX9_seen_0 : decode cX9_seen 0 = .ok (.aload_n 0, 1) := by decide +kernel
theorem dX9_seen_1 : decode cX9_seen 1 = .ok (.iload_n 1, 1) := by decide +kernel
theorem dX9_seen_2 : decode cX9_seen 2 = .ok (.invokevirtual 169, 3) := by decide +kernel
theorem dX9_seen_5 : decode cX9_seen 5 = .ok (.ifCond .ne 6, 3) := by decide +kernel
theorem dX9_seen_8 : decode cX9_seen 8 = .ok (.bipush (-2), 2) := by decide +kernel
theorem dX9_seen_10 : decode cX9_seen 10 = .ok (.ireturn, 1) := by decide +kernel
theorem dX9_seen_11 : decode cX9_seen 11 = .ok (.iload_n 2, 1) := by decide +kernel
theorem dX9_seen_12 : decode cX9_seen 12 = .ok (.i2l, 1) := by decide +kernel
theorem dX9_seen_13 : decode cX9_seen 13 = .ok (.lconst 0, 1) := by decide +kernel
theorem dX9_seen_14 : decode cX9_seen 14 = .ok (.lconst 1, 1) := by decide +kernel
theorem dX9_seen_15 : decode cX9_seen 15 = .ok (.invokestatic 38, 3) := by decide +kernel
theorem dX9_seen_18 : decode cX9_seen 18 = .ok (.ifCond .eq 13, 3) := by decide +kernel
theorem dX9_seen_21 : decode cX9_seen 21 = .ok (.iload_n 3, 1) := by decide +kernel
theorem dX9_seen_22 : decode cX9_seen 22 = .ok (.i2l, 1) := by decide +kernel
theorem dX9_seen_23 : decode cX9_seen 23 = .ok (.lconst 0, 1) := by decide +kernel
theorem dX9_seen_24 : decode cX9_seen 24 = .ok (.lconst 1, 1) := by decide +kernel
theorem dX9_seen_25 : decode cX9_seen 25 = .ok (.invokestatic 38, 3) := by decide +kernel
theorem dX9_seen_28 : decode cX9_seen 28 = .ok (.ifCond .ne 6, 3) := by decide +kernel
theorem dX9_seen_31 : decode cX9_seen 31 = .ok (.bipush (-3), 2) := by decide +kernel
theorem dX9_seen_33 : decode cX9_seen 33 = .ok (.ireturn, 1) := by decide +kernel
theorem dX9_seen_34 : decode cX9_seen 34 = .ok (.aload_n 0, 1) := by decide +kernel
theorem dX9_seen_35 : decode cX9_seen 35 = .ok (.getfield 111, 3) := by decide +kernel
theorem dX9_seen_38 : decode cX9_seen 38 = .ok (.bipush 6, 2) := by decide +kernel
theorem dX9_seen_40 : decode cX9_seen 40 = .ok (.if_icmp .ne 6, 3) := by decide +kernel
theorem dX9_seen_43 : decode cX9_seen 43 = .ok (.bipush (-5), 2) := by decide +kernel
theorem dX9_seen_45 : decode cX9_seen 45 = .ok (.ireturn, 1) := by decide +kernel
theorem dX9_seen_46 : decode cX9_seen 46 = .ok (.aload_n 0, 1) := by decide +kernel
theorem dX9_seen_47 : decode cX9_seen 47 = .ok (.getfield 35, 3) := by decide +kernel
theorem dX9_seen_50 : decode cX9_seen 50 = .ok (.iconst 3, 1) := by decide +kernel
theorem dX9_seen_51 : decode cX9_seen 51 = .ok (.aload_n 0, 1) := by decide +kernel
theorem dX9_seen_52 : decode cX9_seen 52 = .ok (.getfield 111, 3) := by decide +kernel
theorem dX9_seen_55 : decode cX9_seen 55 = .ok (.imul, 1) := by decide +kernel
theorem dX9_seen_56 : decode cX9_seen 56 = .ok (.iload_n 1, 1) := by decide +kernel
theorem dX9_seen_57 : decode cX9_seen 57 = .ok (.iastore, 1) := by decide +kernel
theorem dX9_seen_58 : decode cX9_seen 58 = .ok (.aload_n 0, 1) := by decide +kernel
theorem dX9_seen_59 : decode cX9_seen 59 = .ok (.getfield 35, 3) := by decide +kernel
theorem dX9_seen_62 : decode cX9_seen 62 = .ok (.iconst 3, 1) := by decide +kernel
theorem dX9_seen_63 : decode cX9_seen 63 = .ok (.aload_n 0, 1) := by decide +kernel
theorem dX9_seen_64 : decode cX9_seen 64 = .ok (.getfield 111, 3) := by decide +kernel
theorem dX9_seen_67 : decode cX9_seen 67 = .ok (.imul, 1) := by decide +kernel
theorem dX9_seen_68 : decode cX9_seen 68 = .ok (.iconst 1, 1) := by decide +kernel
theorem dX9_seen_69 : decode cX9_seen 69 = .ok (.iadd, 1) := by decide +kernel
theorem dX9_seen_70 : decode cX9_seen 70 = .ok (.iload_n 2, 1) := by decide +kernel
theorem dX9_seen_71 : decode cX9_seen 71 = .ok (.iastore, 1) := by decide +kernel
theorem dX9_seen_72 : decode cX9_seen 72 = .ok (.aload_n 0, 1) := by decide +kernel
theorem dX9_seen_73 : decode cX9_seen 73 = .ok (.getfield 35, 3) := by decide +kernel
theorem dX9_seen_76 : decode cX9_seen 76 = .ok (.iconst 3, 1) := by decide +kernel
theorem dX9_seen_77 : decode cX9_seen 77 = .ok (.aload_n 0, 1) := by decide +kernel
theorem dX9_seen_78 : decode cX9_seen 78 = .ok (.getfield 111, 3) := by decide +kernel
theorem dX9_seen_81 : decode cX9_seen 81 = .ok (.imul, 1) := by decide +kernel
theorem dX9_seen_82 : decode cX9_seen 82 = .ok (.iconst 2, 1) := by decide +kernel
theorem dX9_seen_83 : decode cX9_seen 83 = .ok (.iadd, 1) := by decide +kernel
theorem dX9_seen_84 : decode cX9_seen 84 = .ok (.iload_n 3, 1) := by decide +kernel
theorem dX9_seen_85 : decode cX9_seen 85 = .ok (.iastore, 1) := by decide +kernel
theorem dX9_seen_86 : decode cX9_seen 86 = .ok (.aload_n 0, 1) := by decide +kernel
theorem dX9_seen_87 : decode cX9_seen 87 = .ok (.dup, 1) := by decide +kernel
theorem dX9_seen_88 : decode cX9_seen 88 = .ok (.getfield 111, 3) := by decide +kernel
theorem dX9_seen_91 : decode cX9_seen 91 = .ok (.iconst 1, 1) := by decide +kernel
theorem dX9_seen_92 : decode cX9_seen 92 = .ok (.iadd, 1) := by decide +kernel
theorem dX9_seen_93 : decode cX9_seen 93 = .ok (.putfield 111, 3) := by decide +kernel
theorem dX9_seen_96 : decode cX9_seen 96 = .ok (.aload_n 0, 1) := by decide +kernel
theorem dX9_seen_97 : decode cX9_seen 97 = .ok (.getfield 111, 3) := by decide +kernel
theorem dX9_seen_100 : decode cX9_seen 100 = .ok (.ireturn, 1) := by decide +kernel
theorem dX9_forget_0 : decode cX9_forget 0 = .ok (.aload_n 0, 1) := by decide +kernel
theorem dX9_forget_1 : decode cX9_forget 1 = .ok (.getfield 111, 3) := by decide +kernel
theorem dX9_forget_4 : decode cX9_forget 4 = .ok (.istore_n 1, 1) := by decide +kernel
theorem dX9_forget_5 : decode cX9_forget 5 = .ok (.aload_n 0, 1) := by decide +kernel
theorem dX9_forget_6 : decode cX9_forget 6 = .ok (.iconst 0, 1) := by decide +kernel
theorem dX9_forget_7 : decode cX9_forget 7 = .ok (.putfield 111, 3) := by decide +kernel
theorem dX9_forget_10 : decode cX9_forget 10 = .ok (.iload_n 1, 1) := by decide +kernel
theorem dX9_forget_11 : decode cX9_forget 11 = .ok (.ireturn, 1) := by decide +kernel
set_option maxRecDepth 20000 in
theorem ggX9_quotas_X9_weightsBy : GoodIn wsX9_quotas wsX9_weightsBy := goodIn_r _ [7, 8, 9, 10, 6, 11, 12, 13, 14, 15, 16, 17, 18, 19, 20, 21, 22, 23, 24, 25, 26, 27, 28, 29, 30, 31, 32, 33, 34, 35, 36] (by decide +kernel) (by decide +kernel)
set_option maxRecDepth 20000 in
theorem gX9_quotas_X9_weightsBy : GoodIn wsX9_quotas (wsV RX9 134 RX9 yX9_weightsBy wsX9_weightsBy) := goodIn_app (goodIn_of _ (by decide +kernel)) ggX9_quotas_X9_weightsBy
theorem dX9_quotas_0 : decode cX9_quotas 0 = .ok (.iconst 0, 1) := by decide +kernel
theorem dX9_quotas_1 : decode cX9_quotas 1 = .ok (.istore_n 1, 1) := by decide +kernel
theorem dX9_quotas_2 : decode cX9_quotas 2 = .ok (.iconst 1, 1) := by decide +kernel
theorem dX9_quotas_3 : decode cX9_quotas 3 = .ok (.istore_n 2, 1) := by decide +kernel
theorem dX9_quotas_4 : decode cX9_quotas 4 = .ok (.iload_n 2, 1) := by decide +kernel
theorem dX9_quotas_5 : decode cX9_quotas 5 = .ok (.bipush 20, 2) := by decide +kernel
theorem dX9_quotas_7 : decode cX9_quotas 7 = .ok (.if_icmp .gt 122, 3) := by decide +kernel
theorem dX9_quotas_10 : decode cX9_quotas 10 = .ok (.iconst 1, 1) := by decide +kernel
theorem dX9_quotas_11 : decode cX9_quotas 11 = .ok (.istore_n 3, 1) := by decide +kernel
theorem dX9_quotas_12 : decode cX9_quotas 12 = .ok (.iconst 0, 1) := by decide +kernel
theorem dX9_quotas_13 : decode cX9_quotas 13 = .ok (.istore 4, 2) := by decide +kernel
theorem dX9_quotas_15 : decode cX9_quotas 15 = .ok (.iload 4, 2) := by decide +kernel
theorem dX9_quotas_17 : decode cX9_quotas 17 = .ok (.aload_n 0, 1) := by decide +kernel
theorem dX9_quotas_18 : decode cX9_quotas 18 = .ok (.getfield 111, 3) := by decide +kernel
theorem dX9_quotas_21 : decode cX9_quotas 21 = .ok (.if_icmp .ge 88, 3) := by decide +kernel
theorem dX9_quotas_24 : decode cX9_quotas 24 = .ok (.aload_n 0, 1) := by decide +kernel
theorem dX9_quotas_25 : decode cX9_quotas 25 = .ok (.aload_n 0, 1) := by decide +kernel
theorem dX9_quotas_26 : decode cX9_quotas 26 = .ok (.getfield 35, 3) := by decide +kernel
theorem dX9_quotas_29 : decode cX9_quotas 29 = .ok (.iconst 3, 1) := by decide +kernel
theorem dX9_quotas_30 : decode cX9_quotas 30 = .ok (.iload 4, 2) := by decide +kernel
theorem dX9_quotas_32 : decode cX9_quotas 32 = .ok (.imul, 1) := by decide +kernel
theorem dX9_quotas_33 : decode cX9_quotas 33 = .ok (.iaload, 1) := by decide +kernel
theorem dX9_quotas_34 : decode cX9_quotas 34 = .ok (.aload_n 0, 1) := by decide +kernel
theorem dX9_quotas_35 : decode cX9_quotas 35 = .ok (.getfield 35, 3) := by decide +kernel
theorem dX9_quotas_38 : decode cX9_quotas 38 = .ok (.iconst 3, 1) := by decide +kernel
theorem dX9_quotas_39 : decode cX9_quotas 39 = .ok (.iload 4, 2) := by decide +kernel
theorem dX9_quotas_41 : decode cX9_quotas 41 = .ok (.imul, 1) := by decide +kernel
theorem dX9_quotas_42 : decode cX9_quotas 42 = .ok (.iconst 1, 1) := by decide +kernel
theorem dX9_quotas_43 : decode cX9_quotas 43 = .ok (.iadd, 1) := by decide +kernel
theorem dX9_quotas_44 : decode cX9_quotas 44 = .ok (.iaload, 1) := by decide +kernel
theorem dX9_quotas_45 : decode cX9_quotas 45 = .ok (.iconst 1, 1) := by decide +kernel
theorem dX9_quotas_46 : decode cX9_quotas 46 = .ok (.if_icmp .ne 7, 3) := by decide +kernel
theorem dX9_quotas_49 : decode cX9_quotas 49 = .ok (.iconst 1, 1) := by decide +kernel
theorem dX9_quotas_50 : decode cX9_quotas 50 = .ok (.goto 4, 3) := by decide +kernel
theorem dX9_quotas_53 : decode cX9_quotas 53 = .ok (.iconst 0, 1) := by decide +kernel
theorem dX9_quotas_54 : decode cX9_quotas 54 = .ok (.invokevirtual 134, 3) := by decide +kernel
theorem dX9_quotas_57 : decode cX9_quotas 57 = .ok (.iload_n 2, 1) := by decide +kernel
theorem dX9_quotas_58 : decode cX9_quotas 58 = .ok (.if_icmp .lt 7, 3) := by decide +kernel
theorem dX9_quotas_61 : decode cX9_quotas 61 = .ok (.iconst 1, 1) := by decide +kernel
theorem dX9_quotas_62 : decode cX9_quotas 62 = .ok (.goto 4, 3) := by decide +kernel
theorem dX9_quotas_65 : decode cX9_quotas 65 = .ok (.iconst 0, 1) := by decide +kernel
theorem dX9_quotas_66 : decode cX9_quotas 66 = .ok (.istore 5, 2) := by decide +kernel
theorem dX9_quotas_68 : decode cX9_quotas 68 = .ok (.iload_n 3, 1) := by decide +kernel
theorem dX9_quotas_69 : decode cX9_quotas 69 = .ok (.ifCond .eq 32, 3) := by decide +kernel
theorem dX9_quotas_72 : decode cX9_quotas 72 = .ok (.iload 5, 2) := by decide +kernel
theorem dX9_quotas_74 : decode cX9_quotas 74 = .ok (.aload_n 0, 1) := by decide +kernel
theorem dX9_quotas_75 : decode cX9_quotas 75 = .ok (.getfield 35, 3) := by decide +kernel
theorem dX9_quotas_78 : decode cX9_quotas 78 = .ok (.iconst 3, 1) := by decide +kernel
theorem dX9_quotas_79 : decode cX9_quotas 79 = .ok (.iload 4, 2) := by decide +kernel
theorem dX9_quotas_81 : decode cX9_quotas 81 = .ok (.imul, 1) := by decide +kernel
theorem dX9_quotas_82 : decode cX9_quotas 82 = .ok (.iconst 2, 1) := by decide +kernel
theorem dX9_quotas_83 : decode cX9_quotas 83 = .ok (.iadd, 1) := by decide +kernel
theorem dX9_quotas_84 : decode cX9_quotas 84 = .ok (.iaload, 1) := by decide +kernel
theorem dX9_quotas_85 : decode cX9_quotas 85 = .ok (.iconst 1, 1) := by decide +kernel
theorem dX9_quotas_86 : decode cX9_quotas 86 = .ok (.if_icmp .ne 7, 3) := by decide +kernel
theorem dX9_quotas_89 : decode cX9_quotas 89 = .ok (.iconst 1, 1) := by decide +kernel
theorem dX9_quotas_90 : decode cX9_quotas 90 = .ok (.goto 4, 3) := by decide +kernel
theorem dX9_quotas_93 : decode cX9_quotas 93 = .ok (.iconst 0, 1) := by decide +kernel
theorem dX9_quotas_94 : decode cX9_quotas 94 = .ok (.if_icmp .ne 7, 3) := by decide +kernel
theorem dX9_quotas_97 : decode cX9_quotas 97 = .ok (.iconst 1, 1) := by decide +kernel
theorem dX9_quotas_98 : decode cX9_quotas 98 = .ok (.goto 4, 3) := by decide +kernel
theorem dX9_quotas_101 : decode cX9_quotas 101 = .ok (.iconst 0, 1) := by decide +kernel
theorem dX9_quotas_102 : decode cX9_quotas 102 = .ok (.istore_n 3, 1) := by decide +kernel
theorem dX9_quotas_103 : decode cX9_quotas 103 = .ok (.iinc 4 1, 3) := by decide +kernel
theorem dX9_quotas_106 : decode cX9_quotas 106 = .ok (.goto (-91), 3) := by decide +kernel
theorem dX9_quotas_109 : decode cX9_quotas 109 = .ok (.iload_n 1, 1) := by decide +kernel
theorem dX9_quotas_110 : decode cX9_quotas 110 = .ok (.iload_n 3, 1) := by decide +kernel
theorem dX9_quotas_111 : decode cX9_quotas 111 = .ok (.ifCond .eq 9, 3) := by decide +kernel
theorem dX9_quotas_114 : decode cX9_quotas 114 = .ok (.iconst 1, 1) := by decide +kernel
theorem dX9_quotas_115 : decode cX9_quotas 115 = .ok (.iload_n 2, 1) := by decide +kernel
theorem dX9_quotas_116 : decode cX9_quotas 116 = .ok (.ishl, 1) := by decide +kernel
theorem dX9_quotas_117 : decode cX9_quotas 117 = .ok (.goto 4, 3) := by decide +kernel
theorem dX9_quotas_120 : decode cX9_quotas 120 = .ok (.iconst 0, 1) := by decide +kernel
theorem dX9_quotas_121 : decode cX9_quotas 121 = .ok (.ior, 1) := by decide +kernel
theorem dX9_quotas_122 : decode cX9_quotas 122 = .ok (.istore_n 1, 1) := by decide +kernel
theorem dX9_quotas_123 : decode cX9_quotas 123 = .ok (.iinc 2 1, 3) := by decide +kernel
theorem dX9_quotas_126 : decode cX9_quotas 126 = .ok (.goto (-122), 3) := by decide +kernel
theorem dX9_quotas_129 : decode cX9_quotas 129 = .ok (.iload_n 1, 1) := by decide +kernel
theorem dX9_quotas_130 : decode cX9_quotas 130 = .ok (.ireturn, 1) := by decide +kernel
set_option maxRecDepth 20000 in
theorem ggX9_frosts_X9_in : GoodIn wsX9_frosts wsX9_in := goodIn_r _ [6] (by decide +kernel) (by decide +kernel)
set_option maxRecDepth 20000 in
theorem gX9_frosts_X9_in : GoodIn wsX9_frosts (va_wsS RX9 38 yX9_in wsX9_in) := goodIn_app (goodIn_of _ (by decide +kernel)) ggX9_frosts_X9_in
set_option maxRecDepth 20000 in
theorem ggX9_frosts_X9_has : GoodIn wsX9_frosts wsX9_has := goodIn_r _ [9] (by decide +kernel) (by decide +kernel)
set_option maxRecDepth 20000 in
theorem gX9_frosts_X9_has : GoodIn wsX9_frosts (va_wsS RX9 123 yX9_has wsX9_has) := goodIn_app (goodIn_of _ (by decide +kernel)) ggX9_frosts_X9_has
set_option maxRecDepth 20000 in
theorem ggX9_frosts_X9_ones : GoodIn wsX9_frosts wsX9_ones := goodIn_r _ [12] (by decide +kernel) (by decide +kernel)
set_option maxRecDepth 20000 in
theorem gX9_frosts_X9_ones : GoodIn wsX9_frosts (va_wsS RX9 175 yX9_ones wsX9_ones) := goodIn_app (goodIn_of _ (by decide +kernel)) ggX9_frosts_X9_ones
set_option maxRecDepth 20000 in
theorem ggX9_frosts_X9_common : GoodIn wsX9_frosts wsX9_common := goodIn_r _ [15] (by decide +kernel) (by decide +kernel)
set_option maxRecDepth 20000 in
theorem gX9_frosts_X9_common : GoodIn wsX9_frosts (va_wsS RX9 202 yX9_common wsX9_common) := goodIn_app (goodIn_of _ (by decide +kernel)) ggX9_frosts_X9_common
theorem dX9_frosts_0 : decode cX9_frosts 0 = .ok (.iload_n 1, 1) := by decide +kernel
theorem dX9_frosts_1 : decode cX9_frosts 1 = .ok (.i2l, 1) := by decide +kernel
theorem dX9_frosts_2 : decode cX9_frosts 2 = .ok (.lconst 0, 1) := by decide +kernel
theorem dX9_frosts_3 : decode cX9_frosts 3 = .ok (.ldc2_w 210, 3) := by decide +kernel
theorem dX9_frosts_6 : decode cX9_frosts 6 = .ok (.invokestatic 38, 3) := by decide +kernel
theorem dX9_frosts_9 : decode cX9_frosts 9 = .ok (.ifCond .eq 38, 3) := by decide +kernel
theorem dX9_frosts_12 : decode cX9_frosts 12 = .ok (.iload_n 2, 1) := by decide +kernel
theorem dX9_frosts_13 : decode cX9_frosts 13 = .ok (.i2l, 1) := by decide +kernel
theorem dX9_frosts_14 : decode cX9_frosts 14 = .ok (.lconst 0, 1) := by decide +kernel
theorem dX9_frosts_15 : decode cX9_frosts 15 = .ok (.ldc2_w 210, 3) := by decide +kernel
theorem dX9_frosts_18 : decode cX9_frosts 18 = .ok (.invokestatic 38, 3) := by decide +kernel
theorem dX9_frosts_21 : decode cX9_frosts 21 = .ok (.ifCond .eq 26, 3) := by decide +kernel
theorem dX9_frosts_24 : decode cX9_frosts 24 = .ok (.iload_n 3, 1) := by decide +kernel
theorem dX9_frosts_25 : decode cX9_frosts 25 = .ok (.i2l, 1) := by decide +kernel
theorem dX9_frosts_26 : decode cX9_frosts 26 = .ok (.lconst 0, 1) := by decide +kernel
theorem dX9_frosts_27 : decode cX9_frosts 27 = .ok (.ldc2_w 212, 3) := by decide +kernel
theorem dX9_frosts_30 : decode cX9_frosts 30 = .ok (.invokestatic 38, 3) := by decide +kernel
theorem dX9_frosts_33 : decode cX9_frosts 33 = .ok (.ifCond .eq 14, 3) := by decide +kernel
theorem dX9_frosts_36 : decode cX9_frosts 36 = .ok (.iload 4, 2) := by decide +kernel
theorem dX9_frosts_38 : decode cX9_frosts 38 = .ok (.i2l, 1) := by decide +kernel
theorem dX9_frosts_39 : decode cX9_frosts 39 = .ok (.lconst 0, 1) := by decide +kernel
theorem dX9_frosts_40 : decode cX9_frosts 40 = .ok (.lconst 1, 1) := by decide +kernel
theorem dX9_frosts_41 : decode cX9_frosts 41 = .ok (.invokestatic 38, 3) := by decide +kernel
theorem dX9_frosts_44 : decode cX9_frosts 44 = .ok (.ifCond .ne 6, 3) := by decide +kernel
theorem dX9_frosts_47 : decode cX9_frosts 47 = .ok (.bipush (-3), 2) := by decide +kernel
theorem dX9_frosts_49 : decode cX9_frosts 49 = .ok (.ireturn, 1) := by decide +kernel
theorem dX9_frosts_50 : decode cX9_frosts 50 = .ok (.iconst 0, 1) := by decide +kernel
theorem dX9_frosts_51 : decode cX9_frosts 51 = .ok (.istore 5, 2) := by decide +kernel
theorem dX9_frosts_53 : decode cX9_frosts 53 = .ok (.iconst 1, 1) := by decide +kernel
theorem dX9_frosts_54 : decode cX9_frosts 54 = .ok (.istore 6, 2) := by decide +kernel
theorem dX9_frosts_56 : decode cX9_frosts 56 = .ok (.iconst 0, 1) := by decide +kernel
theorem dX9_frosts_57 : decode cX9_frosts 57 = .ok (.istore 7, 2) := by decide +kernel
theorem dX9_frosts_59 : decode cX9_frosts 59 = .ok (.iload 7, 2) := by decide +kernel
theorem dX9_frosts_61 : decode cX9_frosts 61 = .ok (.iload_n 1, 1) := by decide +kernel
theorem dX9_frosts_62 : decode cX9_frosts 62 = .ok (.if_icmp .ge 16, 3) := by decide +kernel
theorem dX9_frosts_65 : decode cX9_frosts 65 = .ok (.iload 6, 2) := by decide +kernel
theorem dX9_frosts_67 : decode cX9_frosts 67 = .ok (.bipush 10, 2) := by decide +kernel
theorem dX9_frosts_69 : decode cX9_frosts 69 = .ok (.imul, 1) := by decide +kernel
theorem dX9_frosts_70 : decode cX9_frosts 70 = .ok (.istore 6, 2) := by decide +kernel
theorem dX9_frosts_72 : decode cX9_frosts 72 = .ok (.iinc 7 1, 3) := by decide +kernel
theorem dX9_frosts_75 : decode cX9_frosts 75 = .ok (.goto (-16), 3) := by decide +kernel
theorem dX9_frosts_78 : decode cX9_frosts 78 = .ok (.iconst 0, 1) := by decide +kernel
theorem dX9_frosts_79 : decode cX9_frosts 79 = .ok (.istore 7, 2) := by decide +kernel
theorem dX9_frosts_81 : decode cX9_frosts 81 = .ok (.iload 7, 2) := by decide +kernel
theorem dX9_frosts_83 : decode cX9_frosts 83 = .ok (.iconst 1, 1) := by decide +kernel
theorem dX9_frosts_84 : decode cX9_frosts 84 = .ok (.iload_n 1, 1) := by decide +kernel
theorem dX9_frosts_85 : decode cX9_frosts 85 = .ok (.ishl, 1) := by decide +kernel
theorem dX9_frosts_86 : decode cX9_frosts 86 = .ok (.if_icmp .ge 70, 3) := by decide +kernel
theorem dX9_frosts_89 : decode cX9_frosts 89 = .ok (.iconst 1, 1) := by decide +kernel
theorem dX9_frosts_90 : decode cX9_frosts 90 = .ok (.istore 8, 2) := by decide +kernel
theorem dX9_frosts_92 : decode cX9_frosts 92 = .ok (.iconst 0, 1) := by decide +kernel
theorem dX9_frosts_93 : decode cX9_frosts 93 = .ok (.istore 9, 2) := by decide +kernel
theorem dX9_frosts_95 : decode cX9_frosts 95 = .ok (.iload 9, 2) := by decide +kernel
theorem dX9_frosts_97 : decode cX9_frosts 97 = .ok (.iload_n 1, 1) := by decide +kernel
theorem dX9_frosts_98 : decode cX9_frosts 98 = .ok (.if_icmp .ge 32, 3) := by decide +kernel
theorem dX9_frosts_101 : decode cX9_frosts 101 = .ok (.iload 8, 2) := by decide +kernel
theorem dX9_frosts_103 : decode cX9_frosts 103 = .ok (.iload 7, 2) := by decide +kernel
theorem dX9_frosts_105 : decode cX9_frosts 105 = .ok (.iload 9, 2) := by decide +kernel
theorem dX9_frosts_107 : decode cX9_frosts 107 = .ok (.invokestatic 123, 3) := by decide +kernel
theorem dX9_frosts_110 : decode cX9_frosts 110 = .ok (.ifCond .eq 7, 3) := by decide +kernel
theorem dX9_frosts_113 : decode cX9_frosts 113 = .ok (.iload_n 3, 1) := by decide +kernel
theorem dX9_frosts_114 : decode cX9_frosts 114 = .ok (.goto 7, 3) := by decide +kernel
theorem dX9_frosts_117 : decode cX9_frosts 117 = .ok (.bipush 10, 2) := by decide +kernel
theorem dX9_frosts_119 : decode cX9_frosts 119 = .ok (.iload_n 3, 1) := by decide +kernel
theorem dX9_frosts_120 : decode cX9_frosts 120 = .ok (.isub, 1) := by decide +kernel
theorem dX9_frosts_121 : decode cX9_frosts 121 = .ok (.imul, 1) := by decide +kernel
theorem dX9_frosts_122 : decode cX9_frosts 122 = .ok (.istore 8, 2) := by decide +kernel
theorem dX9_frosts_124 : decode cX9_frosts 124 = .ok (.iinc 9 1, 3) := by decide +kernel
theorem dX9_frosts_127 : decode cX9_frosts 127 = .ok (.goto (-32), 3) := by decide +kernel
theorem dX9_frosts_130 : decode cX9_frosts 130 = .ok (.iload 5, 2) := by decide +kernel
theorem dX9_frosts_132 : decode cX9_frosts 132 = .ok (.iload 7, 2) := by decide +kernel
theorem dX9_frosts_134 : decode cX9_frosts 134 = .ok (.invokestatic 175, 3) := by decide +kernel
theorem dX9_frosts_137 : decode cX9_frosts 137 = .ok (.iload_n 2, 1) := by decide +kernel
theorem dX9_frosts_138 : decode cX9_frosts 138 = .ok (.if_icmp .lt 8, 3) := by decide +kernel
theorem dX9_frosts_141 : decode cX9_frosts 141 = .ok (.iload 8, 2) := by decide +kernel
theorem dX9_frosts_143 : decode cX9_frosts 143 = .ok (.goto 4, 3) := by decide +kernel
theorem dX9_frosts_146 : decode cX9_frosts 146 = .ok (.iconst 0, 1) := by decide +kernel
theorem dX9_frosts_147 : decode cX9_frosts 147 = .ok (.iadd, 1) := by decide +kernel
theorem dX9_frosts_148 : decode cX9_frosts 148 = .ok (.istore 5, 2) := by decide +kernel
theorem dX9_frosts_150 : decode cX9_frosts 150 = .ok (.iinc 7 1, 3) := by decide +kernel
theorem dX9_frosts_153 : decode cX9_frosts 153 = .ok (.goto (-72), 3) := by decide +kernel
theorem dX9_frosts_156 : decode cX9_frosts 156 = .ok (.iload 5, 2) := by decide +kernel
theorem dX9_frosts_158 : decode cX9_frosts 158 = .ok (.iload 6, 2) := by decide +kernel
theorem dX9_frosts_160 : decode cX9_frosts 160 = .ok (.invokestatic 202, 3) := by decide +kernel
theorem dX9_frosts_163 : decode cX9_frosts 163 = .ok (.istore 7, 2) := by decide +kernel
theorem dX9_frosts_165 : decode cX9_frosts 165 = .ok (.iload 4, 2) := by decide +kernel
theorem dX9_frosts_167 : decode cX9_frosts 167 = .ok (.ifCond .ne 11, 3) := by decide +kernel
theorem dX9_frosts_170 : decode cX9_frosts 170 = .ok (.iload 5, 2) := by decide +kernel
theorem dX9_frosts_172 : decode cX9_frosts 172 = .ok (.iload 7, 2) := by decide +kernel
theorem dX9_frosts_174 : decode cX9_frosts 174 = .ok (.idiv, 1) := by decide +kernel
theorem dX9_frosts_175 : decode cX9_frosts 175 = .ok (.goto 8, 3) := by decide +kernel
theorem dX9_frosts_178 : decode cX9_frosts 178 = .ok (.iload 6, 2) := by decide +kernel
theorem dX9_frosts_180 : decode cX9_frosts 180 = .ok (.iload 7, 2) := by decide +kernel
theorem dX9_frosts_182 : decode cX9_frosts 182 = .ok (.idiv, 1) := by decide +kernel
theorem dX9_frosts_183 : decode cX9_frosts 183 = .ok (.ireturn, 1) := by decide +kernel
set_option maxRecDepth 20000 in
theorem ggX9_count_X9_coldNow : GoodIn wsX9_count wsX9_coldNow := goodIn_r _ [10, 1, 2, 23, 24, 25, 26, 27, 28, 29, 30, 31, 32, 33, 34, 35, 36, 37, 38, 39, 40, 41, 42, 43] (by decide +kernel) (by decide +kernel)
set_option maxRecDepth 20000 in
theorem gX9_count_X9_coldNow : GoodIn wsX9_count (wsV RX9 157 RX9 yX9_coldNow wsX9_coldNow) := goodIn_app (goodIn_of _ (by decide +kernel)) ggX9_count_X9_coldNow
set_option maxRecDepth 20000 in
theorem ggX9_count_X9_frozen : GoodIn wsX9_count wsX9_frozen := goodIn_r _ [14, 1, 15, 16, 17, 9, 18, 2, 23, 24, 25, 26, 27, 28, 29, 30, 31, 32, 33, 34, 35, 36, 37, 38, 39, 40, 41, 42, 43] (by decide +kernel) (by decide +kernel)
set_option maxRecDepth 20000 in
theorem gX9_count_X9_frozen : GoodIn wsX9_count (wsV RX9 120 RX9 yX9_frozen wsX9_frozen) := goodIn_app (goodIn_of _ (by decide +kernel)) ggX9_count_X9_frozen
set_option maxRecDepth 20000 in
theorem ggX9_count_X9_healthOfAll : GoodIn wsX9_count wsX9_healthOfAll := goodIn_r _ [22, 1, 2, 23, 24, 25, 26, 27, 28, 29, 30, 31, 32, 33, 34, 35, 36, 37, 38, 39, 40, 41, 42, 43] (by decide +kernel) (by decide +kernel)
set_option maxRecDepth 20000 in
theorem gX9_count_X9_healthOfAll : GoodIn wsX9_count (wsV RX9 207 RX9 yX9_healthOfAll wsX9_healthOfAll) := goodIn_app (goodIn_of _ (by decide +kernel)) ggX9_count_X9_healthOfAll
theorem dX9_count_0 : decode cX9_count 0 = .ok (.iload_n 1, 1) := by decide +kernel
theorem dX9_count_1 : decode cX9_count 1 = .ok (.tableswitch 114 0 9 #[55, 62, 70, 77, 82, 89, 94, 99, 104, 109], 55) := by decide +kernel
theorem dX9_count_56 : decode cX9_count 56 = .ok (.aload_n 0, 1) := by decide +kernel
theorem dX9_count_57 : decode cX9_count 57 = .ok (.getfield 7, 3) := by decide +kernel
theorem dX9_count_60 : decode cX9_count 60 = .ok (.iconst 0, 1) := by decide +kernel
theorem dX9_count_61 : decode cX9_count 61 = .ok (.iaload, 1) := by decide +kernel
theorem dX9_count_62 : decode cX9_count 62 = .ok (.ireturn, 1) := by decide +kernel
theorem dX9_count_63 : decode cX9_count 63 = .ok (.aload_n 0, 1) := by decide +kernel
theorem dX9_count_64 : decode cX9_count 64 = .ok (.getfield 13, 3) := by decide +kernel
theorem dX9_count_67 : decode cX9_count 67 = .ok (.bipush 14, 2) := by decide +kernel
theorem dX9_count_69 : decode cX9_count 69 = .ok (.iaload, 1) := by decide +kernel
theorem dX9_count_70 : decode cX9_count 70 = .ok (.ireturn, 1) := by decide +kernel
theorem dX9_count_71 : decode cX9_count 71 = .ok (.aload_n 0, 1) := by decide +kernel
theorem dX9_count_72 : decode cX9_count 72 = .ok (.getfield 7, 3) := by decide +kernel
theorem dX9_count_75 : decode cX9_count 75 = .ok (.iconst 1, 1) := by decide +kernel
theorem dX9_count_76 : decode cX9_count 76 = .ok (.iaload, 1) := by decide +kernel
theorem dX9_count_77 : decode cX9_count 77 = .ok (.ireturn, 1) := by decide +kernel
theorem dX9_count_78 : decode cX9_count 78 = .ok (.aload_n 0, 1) := by decide +kernel
theorem dX9_count_79 : decode cX9_count 79 = .ok (.invokevirtual 157, 3) := by decide +kernel
theorem dX9_count_82 : decode cX9_count 82 = .ok (.ireturn, 1) := by decide +kernel
theorem dX9_count_83 : decode cX9_count 83 = .ok (.aload_n 0, 1) := by decide +kernel
theorem dX9_count_84 : decode cX9_count 84 = .ok (.getfield 7, 3) := by decide +kernel
theorem dX9_count_87 : decode cX9_count 87 = .ok (.iconst 2, 1) := by decide +kernel
theorem dX9_count_88 : decode cX9_count 88 = .ok (.iaload, 1) := by decide +kernel
theorem dX9_count_89 : decode cX9_count 89 = .ok (.ireturn, 1) := by decide +kernel
theorem dX9_count_90 : decode cX9_count 90 = .ok (.aload_n 0, 1) := by decide +kernel
theorem dX9_count_91 : decode cX9_count 91 = .ok (.invokevirtual 120, 3) := by decide +kernel
theorem dX9_count_94 : decode cX9_count 94 = .ok (.ireturn, 1) := by decide +kernel
theorem dX9_count_95 : decode cX9_count 95 = .ok (.aload_n 0, 1) := by decide +kernel
theorem dX9_count_96 : decode cX9_count 96 = .ok (.invokevirtual 207, 3) := by decide +kernel
theorem dX9_count_99 : decode cX9_count 99 = .ok (.ireturn, 1) := by decide +kernel
theorem dX9_count_100 : decode cX9_count 100 = .ok (.aload_n 0, 1) := by decide +kernel
theorem dX9_count_101 : decode cX9_count 101 = .ok (.getfield 111, 3) := by decide +kernel
theorem dX9_count_104 : decode cX9_count 104 = .ok (.ireturn, 1) := by decide +kernel
theorem dX9_count_105 : decode cX9_count 105 = .ok (.aload_n 0, 1) := by decide +kernel
theorem dX9_count_106 : decode cX9_count 106 = .ok (.getfield 114, 3) := by decide +kernel
theorem dX9_count_109 : decode cX9_count 109 = .ok (.ireturn, 1) := by decide +kernel
theorem dX9_count_110 : decode cX9_count 110 = .ok (.aload_n 0, 1) := by decide +kernel
theorem dX9_count_111 : decode cX9_count 111 = .ok (.getfield 44, 3) := by decide +kernel
theorem dX9_count_114 : decode cX9_count 114 = .ok (.ireturn, 1) := by decide +kernel
theorem dX9_count_115 : decode cX9_count 115 = .ok (.bipush (-3), 2) := by decide +kernel
theorem dX9_count_117 : decode cX9_count 117 = .ok (.ireturn, 1) := by decide +kernel
