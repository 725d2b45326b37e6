theorem dX8_init_0 : decode cX8_init 0 = .ok (.aload_n 0, 1) := by decide +kernel
theorem dX8_init_1 : decode cX8_init 1 = .ok (.invokespecial 1, 3) := by decide +kernel
theorem dX8_init_4 : decode cX8_init 4 = .ok (.aload_n 0, 1) := by decide +kernel
theorem dX8_init_5 : decode cX8_init 5 = .ok (.new 7, 3) := by decide +kernel
theorem dX8_init_8 : decode cX8_init 8 = .ok (.dup, 1) := by decide +kernel
theorem dX8_init_9 : decode cX8_init 9 = .ok (.invokespecial 9, 3) := by decide +kernel
theorem dX8_init_12 : decode cX8_init 12 = .ok (.putfield 10, 3) := by decide +kernel
theorem dX8_init_15 : decode cX8_init 15 = .ok (.aload_n 0, 1) := by decide +kernel
theorem dX8_init_16 : decode cX8_init 16 = .ok (.aload_n 0, 1) := by decide +kernel
theorem dX8_init_17 : decode cX8_init 17 = .ok (.getfield 10, 3) := by decide +kernel
theorem dX8_init_20 : decode cX8_init 20 = .ok (.getfield 16, 3) := by decide +kernel
theorem dX8_init_23 : decode cX8_init 23 = .ok (.putfield 20, 3) := by decide +kernel
theorem dX8_init_26 : decode cX8_init 26 = .ok (.aload_n 0, 1) := by decide +kernel
theorem dX8_init_27 : decode cX8_init 27 = .ok (.new 21, 3) := by decide +kernel
theorem dX8_init_30 : decode cX8_init 30 = .ok (.dup, 1) := by decide +kernel
theorem dX8_init_31 : decode cX8_init 31 = .ok (.invokespecial 23, 3) := by decide +kernel
theorem dX8_init_34 : decode cX8_init 34 = .ok (.putfield 24, 3) := by decide +kernel
theorem dX8_init_37 : decode cX8_init 37 = .ok (.aload_n 0, 1) := by decide +kernel
theorem dX8_init_38 : decode cX8_init 38 = .ok (.new 28, 3) := by decide +kernel
theorem dX8_init_41 : decode cX8_init 41 = .ok (.dup, 1) := by decide +kernel
theorem dX8_init_42 : decode cX8_init 42 = .ok (.invokespecial 30, 3) := by decide +kernel
theorem dX8_init_45 : decode cX8_init 45 = .ok (.putfield 31, 3) := by decide +kernel
theorem dX8_init_48 : decode cX8_init 48 = .ok (.aload_n 0, 1) := by decide +kernel
theorem dX8_init_49 : decode cX8_init 49 = .ok (.new 35, 3) := by decide +kernel
theorem dX8_init_52 : decode cX8_init 52 = .ok (.dup, 1) := by decide +kernel
theorem dX8_init_53 : decode cX8_init 53 = .ok (.invokespecial 37, 3) := by decide +kernel
theorem dX8_init_56 : decode cX8_init 56 = .ok (.putfield 38, 3) := by decide +kernel
theorem dX8_init_59 : decode cX8_init 59 = .ok (.aload_n 0, 1) := by decide +kernel
theorem dX8_init_60 : decode cX8_init 60 = .ok (.new 42, 3) := by decide +kernel
theorem dX8_init_63 : decode cX8_init 63 = .ok (.dup, 1) := by decide +kernel
theorem dX8_init_64 : decode cX8_init 64 = .ok (.invokespecial 44, 3) := by decide +kernel
theorem dX8_init_67 : decode cX8_init 67 = .ok (.putfield 45, 3) := by decide +kernel
theorem dX8_init_70 : decode cX8_init 70 = .ok (.aload_n 0, 1) := by decide +kernel
theorem dX8_init_71 : decode cX8_init 71 = .ok (.new 49, 3) := by decide +kernel
theorem dX8_init_74 : decode cX8_init 74 = .ok (.dup, 1) := by decide +kernel
theorem dX8_init_75 : decode cX8_init 75 = .ok (.invokespecial 51, 3) := by decide +kernel
theorem dX8_init_78 : decode cX8_init 78 = .ok (.putfield 52, 3) := by decide +kernel
theorem dX8_init_81 : decode cX8_init 81 = .ok (.aload_n 0, 1) := by decide +kernel
theorem dX8_init_82 : decode cX8_init 82 = .ok (.new 56, 3) := by decide +kernel
theorem dX8_init_85 : decode cX8_init 85 = .ok (.dup, 1) := by decide +kernel
theorem dX8_init_86 : decode cX8_init 86 = .ok (.invokespecial 58, 3) := by decide +kernel
theorem dX8_init_89 : decode cX8_init 89 = .ok (.putfield 59, 3) := by decide +kernel
theorem dX8_init_92 : decode cX8_init 92 = .ok (.return_, 1) := by decide +kernel
set_option maxRecDepth 20000 in
theorem ggX8_write_X0_add : GoodIn wsX8_write wsX0_add := goodIn_r _ [7, 8, 9, 18, 19] (by decide +kernel) (by decide +kernel)
set_option maxRecDepth 20000 in
theorem gX8_write_X0_add : GoodIn wsX8_write (wsV RX8 69 RX0 yX0_add wsX0_add) := goodIn_app (goodIn_of _ (by decide +kernel)) ggX8_write_X0_add
theorem dX8_write_0 : decode cX8_write 0 = .ok (.iload_n 1, 1) := by decide +kernel
theorem dX8_write_1 : decode cX8_write 1 = .ok (.ifCond .lt 10, 3) := by decide +kernel
theorem dX8_write_4 : decode cX8_write 4 = .ok (.iload_n 1, 1) := by decide +kernel
theorem dX8_write_5 : decode cX8_write 5 = .ok (.sipush 255, 3) := by decide +kernel
theorem dX8_write_8 : decode cX8_write 8 = .ok (.if_icmp .le 6, 3) := by decide +kernel
theorem dX8_write_11 : decode cX8_write 11 = .ok (.bipush (-3), 2) := by decide +kernel
theorem dX8_write_13 : decode cX8_write 13 = .ok (.ireturn, 1) := by decide +kernel
theorem dX8_write_14 : decode cX8_write 14 = .ok (.aload_n 0, 1) := by decide +kernel
theorem dX8_write_15 : decode cX8_write 15 = .ok (.getfield 20, 3) := by decide +kernel
theorem dX8_write_18 : decode cX8_write 18 = .ok (.getfield 63, 3) := by decide +kernel
theorem dX8_write_21 : decode cX8_write 21 = .ok (.sipush 160, 3) := by decide +kernel
theorem dX8_write_24 : decode cX8_write 24 = .ok (.if_icmp .lt 6, 3) := by decide +kernel
theorem dX8_write_27 : decode cX8_write 27 = .ok (.bipush (-5), 2) := by decide +kernel
theorem dX8_write_29 : decode cX8_write 29 = .ok (.ireturn, 1) := by decide +kernel
theorem dX8_write_30 : decode cX8_write 30 = .ok (.aload_n 0, 1) := by decide +kernel
theorem dX8_write_31 : decode cX8_write 31 = .ok (.getfield 20, 3) := by decide +kernel
theorem dX8_write_34 : decode cX8_write 34 = .ok (.iload_n 1, 1) := by decide +kernel
theorem dX8_write_35 : decode cX8_write 35 = .ok (.invokevirtual 69, 3) := by decide +kernel
theorem dX8_write_38 : decode cX8_write 38 = .ok (.aload_n 0, 1) := by decide +kernel
theorem dX8_write_39 : decode cX8_write 39 = .ok (.getfield 20, 3) := by decide +kernel
theorem dX8_write_42 : decode cX8_write 42 = .ok (.getfield 63, 3) := by decide +kernel
theorem dX8_write_45 : decode cX8_write 45 = .ok (.ireturn, 1) := by decide +kernel
theorem dX8_erase_0 : decode cX8_erase 0 = .ok (.aload_n 0, 1) := by decide +kernel
theorem dX8_erase_1 : decode cX8_erase 1 = .ok (.getfield 20, 3) := by decide +kernel
theorem dX8_erase_4 : decode cX8_erase 4 = .ok (.getfield 63, 3) := by decide +kernel
theorem dX8_erase_7 : decode cX8_erase 7 = .ok (.istore_n 1, 1) := by decide +kernel
theorem dX8_erase_8 : decode cX8_erase 8 = .ok (.aload_n 0, 1) := by decide +kernel
theorem dX8_erase_9 : decode cX8_erase 9 = .ok (.getfield 20, 3) := by decide +kernel
theorem dX8_erase_12 : decode cX8_erase 12 = .ok (.iconst 0, 1) := by decide +kernel
theorem dX8_erase_13 : decode cX8_erase 13 = .ok (.putfield 63, 3) := by decide +kernel
theorem dX8_erase_16 : decode cX8_erase 16 = .ok (.iload_n 1, 1) := by decide +kernel
theorem dX8_erase_17 : decode cX8_erase 17 = .ok (.ireturn, 1) := by decide +kernel
set_option maxRecDepth 20000 in
theorem ggX8_fault_X2_read : GoodIn wsX8_fault wsX2_read := goodIn_r _ [7, 8, 9, 10, 11, 12, 13, 14, 15, 16, 17, 18, 19, 20, 21, 22, 23, 24, 25, 26, 27, 28, 29, 30, 31, 32, 33, 6, 34, 35, 36, 37, 38, 39, 40, 41, 42, 43, 44, 45, 46, 47, 48, 49, 50, 51, 52, 53, 54, 55, 56, 57, 58, 59, 60, 61, 62, 63, 64, 65, 66, 67, 68, 69, 70, 71, 72, 73, 74, 75, 76, 77, 78, 79, 80, 81, 82, 83, 84, 85, 86, 87, 88, 89, 90, 91, 92, 93, 94, 95, 96, 97, 98, 99, 100, 101, 102, 103, 104, 105, 106, 107, 108, 109, 110, 111, 112, 113, 114, 115, 116, 117, 118, 119, 120, 121, 122, 123, 124, 125, 126, 127, 128, 129, 130, 131, 132, 133, 134, 135, 136, 137, 138, 139, 140, 141, 142, 143, 144, 145, 146, 147, 148, 149, 150, 151, 152, 153, 154, 155, 156, 165, 166, 167, 168, 169, 170, 171, 172, 173, 174, 175, 176, 177, 178, 179] (by decide +kernel) (by decide +kernel)
set_option maxRecDepth 20000 in
theorem gX8_fault_X2_read : GoodIn wsX8_fault (wsV RX8 73 RX2 yX2_read wsX2_read) := goodIn_app (goodIn_of _ (by decide +kernel)) ggX8_fault_X2_read
theorem dX8_fault_0 : decode cX8_fault 0 = .ok (.aload_n 0, 1) := by decide +kernel
theorem dX8_fault_1 : decode cX8_fault 1 = .ok (.getfield 10, 3) := by decide +kernel
theorem dX8_fault_4 : decode cX8_fault 4 = .ok (.aload_n 0, 1) := by decide +kernel
theorem dX8_fault_5 : decode cX8_fault 5 = .ok (.getfield 24, 3) := by decide +kernel
theorem dX8_fault_8 : decode cX8_fault 8 = .ok (.invokevirtual 73, 3) := by decide +kernel
theorem dX8_fault_11 : decode cX8_fault 11 = .ok (.ireturn, 1) := by decide +kernel
set_option maxRecDepth 20000 in
theorem ggX8_coat_X2_read : GoodIn wsX8_coat wsX2_read := goodIn_r _ [15, 16, 17, 18, 19, 20, 21, 22, 23, 24, 25, 26, 27, 28, 29, 30, 31, 32, 33, 34, 35, 36, 37, 38, 39, 40, 41, 14, 42, 43, 44, 45, 46, 47, 48, 49, 50, 51, 52, 53, 54, 55, 56, 57, 58, 59, 60, 61, 62, 63, 64, 65, 66, 67, 68, 69, 70, 71, 72, 73, 74, 75, 76, 77, 78, 79, 80, 81, 82, 83, 84, 85, 86, 87, 88, 89, 90, 91, 92, 93, 94, 95, 96, 97, 98, 99, 100, 101, 102, 103, 104, 105, 106, 107, 108, 109, 110, 111, 112, 113, 114, 115, 116, 117, 118, 119, 120, 121, 122, 123, 124, 125, 126, 127, 128, 129, 130, 131, 132, 133, 134, 135, 136, 137, 138, 139, 140, 141, 142, 143, 144, 145, 146, 147, 148, 149, 150, 151, 152, 153, 154, 155, 156, 157, 158, 159, 160, 161, 162, 163, 164, 192, 193, 194, 195, 196, 201, 202, 203, 204, 205, 206, 207, 208, 209, 210] (by decide +kernel) (by decide +kernel)
set_option maxRecDepth 20000 in
theorem gX8_coat_X2_read : GoodIn wsX8_coat (wsV RX8 73 RX2 yX2_read wsX2_read) := goodIn_app (goodIn_of _ (by decide +kernel)) ggX8_coat_X2_read
set_option maxRecDepth 20000 in
theorem ggX8_coat_X5_copyFrom : GoodIn wsX8_coat wsX5_copyFrom := goodIn_r _ [26, 27, 28, 29, 30, 31, 32, 33, 34, 35, 36, 37, 38, 203, 204, 205, 206, 207, 208, 209, 210] (by decide +kernel) (by decide +kernel)
set_option maxRecDepth 20000 in
theorem gX8_coat_X5_copyFrom : GoodIn wsX8_coat (wsV RX8 80 RX5 yX5_copyFrom wsX5_copyFrom) := goodIn_app (goodIn_of _ (by decide +kernel)) ggX8_coat_X5_copyFrom
set_option maxRecDepth 20000 in
theorem ggX8_coat_X7_begin : GoodIn wsX8_coat wsX7_begin := goodIn_r _ [170, 171, 172, 173, 174, 175, 176, 211, 212, 213, 214, 203, 204, 205, 206, 207, 208, 209, 210] (by decide +kernel) (by decide +kernel)
set_option maxRecDepth 20000 in
theorem gX8_coat_X7_begin : GoodIn wsX8_coat (wsV RX8 84 RX7 yX7_begin wsX7_begin) := goodIn_app (goodIn_of _ (by decide +kernel)) ggX8_coat_X7_begin
set_option maxRecDepth 20000 in
theorem ggX8_coat_X1_forgetAll : GoodIn wsX8_coat wsX1_forgetAll := goodIn_r _ [181, 182, 183, 215, 216, 217, 218, 219] (by decide +kernel) (by decide +kernel)
set_option maxRecDepth 20000 in
theorem gX8_coat_X1_forgetAll : GoodIn wsX8_coat (wsV RX8 87 RX1 yX1_forgetAll wsX1_forgetAll) := goodIn_app (goodIn_of _ (by decide +kernel)) ggX8_coat_X1_forgetAll
theorem dX8_coat_0 : decode cX8_coat 0 = .ok (.aload_n 0, 1) := by decide +kernel
theorem dX8_coat_1 : decode cX8_coat 1 = .ok (.getfield 10, 3) := by decide +kernel
theorem dX8_coat_4 : decode cX8_coat 4 = .ok (.aload_n 0, 1) := by decide +kernel
theorem dX8_coat_5 : decode cX8_coat 5 = .ok (.getfield 24, 3) := by decide +kernel
theorem dX8_coat_8 : decode cX8_coat 8 = .ok (.invokevirtual 73, 3) := by decide +kernel
theorem dX8_coat_11 : decode cX8_coat 11 = .ok (.iconst (-1), 1) := by decide +kernel
theorem dX8_coat_12 : decode cX8_coat 12 = .ok (.if_icmp .eq 6, 3) := by decide +kernel
theorem dX8_coat_15 : decode cX8_coat 15 = .ok (.bipush (-4), 2) := by decide +kernel
theorem dX8_coat_17 : decode cX8_coat 17 = .ok (.ireturn, 1) := by decide +kernel
theorem dX8_coat_18 : decode cX8_coat 18 = .ok (.aload_n 0, 1) := by decide +kernel
theorem dX8_coat_19 : decode cX8_coat 19 = .ok (.getfield 24, 3) := by decide +kernel
theorem dX8_coat_22 : decode cX8_coat 22 = .ok (.aload_n 0, 1) := by decide +kernel
theorem dX8_coat_23 : decode cX8_coat 23 = .ok (.getfield 10, 3) := by decide +kernel
theorem dX8_coat_26 : decode cX8_coat 26 = .ok (.getfield 77, 3) := by decide +kernel
theorem dX8_coat_29 : decode cX8_coat 29 = .ok (.invokevirtual 80, 3) := by decide +kernel
theorem dX8_coat_32 : decode cX8_coat 32 = .ok (.aload_n 0, 1) := by decide +kernel
theorem dX8_coat_33 : decode cX8_coat 33 = .ok (.getfield 31, 3) := by decide +kernel
theorem dX8_coat_36 : decode cX8_coat 36 = .ok (.aload_n 0, 1) := by decide +kernel
theorem dX8_coat_37 : decode cX8_coat 37 = .ok (.getfield 24, 3) := by decide +kernel
theorem dX8_coat_40 : decode cX8_coat 40 = .ok (.invokevirtual 84, 3) := by decide +kernel
theorem dX8_coat_43 : decode cX8_coat 43 = .ok (.aload_n 0, 1) := by decide +kernel
theorem dX8_coat_44 : decode cX8_coat 44 = .ok (.getfield 38, 3) := by decide +kernel
theorem dX8_coat_47 : decode cX8_coat 47 = .ok (.invokevirtual 87, 3) := by decide +kernel
theorem dX8_coat_50 : decode cX8_coat 50 = .ok (.aload_n 0, 1) := by decide +kernel
theorem dX8_coat_51 : decode cX8_coat 51 = .ok (.getfield 45, 3) := by decide +kernel
theorem dX8_coat_54 : decode cX8_coat 54 = .ok (.iconst 0, 1) := by decide +kernel
theorem dX8_coat_55 : decode cX8_coat 55 = .ok (.putfield 90, 3) := by decide +kernel
theorem dX8_coat_58 : decode cX8_coat 58 = .ok (.aload_n 0, 1) := by decide +kernel
theorem dX8_coat_59 : decode cX8_coat 59 = .ok (.getfield 20, 3) := by decide +kernel
theorem dX8_coat_62 : decode cX8_coat 62 = .ok (.iconst 0, 1) := by decide +kernel
theorem dX8_coat_63 : decode cX8_coat 63 = .ok (.putfield 63, 3) := by decide +kernel
theorem dX8_coat_66 : decode cX8_coat 66 = .ok (.aload_n 0, 1) := by decide +kernel
theorem dX8_coat_67 : decode cX8_coat 67 = .ok (.getfield 10, 3) := by decide +kernel
theorem dX8_coat_70 : decode cX8_coat 70 = .ok (.getfield 93, 3) := by decide +kernel
theorem dX8_coat_73 : decode cX8_coat 73 = .ok (.ireturn, 1) := by decide +kernel
set_option maxRecDepth 20000 in
theorem ggX8_family_X8_isFamily : GoodIn wsX8_family wsX8_isFamily := goodIn_r _ [11, 1, 12, 46, 47, 48, 49, 50, 51, 52, 53, 54, 55, 56, 57, 58, 59, 60, 61] (by decide +kernel) (by decide +kernel)
set_option maxRecDepth 20000 in
theorem gX8_family_X8_isFamily : GoodIn wsX8_family (wsV RX8 96 RX8 yX8_isFamily wsX8_isFamily) := goodIn_app (goodIn_of _ (by decide +kernel)) ggX8_family_X8_isFamily
set_option maxRecDepth 20000 in
theorem ggX8_family_X7_favouredOf : GoodIn wsX8_family wsX7_favouredOf := goodIn_r _ [17, 18, 19, 10, 20, 21, 22, 23, 24, 25, 62, 63, 64, 65] (by decide +kernel) (by decide +kernel)
set_option maxRecDepth 20000 in
theorem gX8_family_X7_favouredOf : GoodIn wsX8_family (wsV RX8 113 RX7 yX7_favouredOf wsX7_favouredOf) := goodIn_app (goodIn_of _ (by decide +kernel)) ggX8_family_X7_favouredOf
set_option maxRecDepth 20000 in
theorem ggX8_family_X7_doneUpFor : GoodIn wsX8_family wsX7_doneUpFor := goodIn_r _ [29, 18, 30, 31, 32, 33, 16, 34, 19, 10, 20, 24, 25, 62, 63, 64, 65] (by decide +kernel) (by decide +kernel)
set_option maxRecDepth 20000 in
theorem gX8_family_X7_doneUpFor : GoodIn wsX8_family (wsV RX8 117 RX7 yX7_doneUpFor wsX7_doneUpFor) := goodIn_app (goodIn_of _ (by decide +kernel)) ggX8_family_X7_doneUpFor
set_option maxRecDepth 20000 in
theorem ggX8_family_X7_isNight : GoodIn wsX8_family wsX7_isNight := goodIn_r _ [38, 39, 62, 63, 64, 65] (by decide +kernel) (by decide +kernel)
set_option maxRecDepth 20000 in
theorem gX8_family_X7_isNight : GoodIn wsX8_family (wsV RX8 120 RX7 yX7_isNight wsX7_isNight) := goodIn_app (goodIn_of _ (by decide +kernel)) ggX8_family_X7_isNight
set_option maxRecDepth 20000 in
theorem ggX8_family_X5_weightOf : GoodIn wsX8_family wsX5_weightOf := goodIn_r _ [44, 45, 54, 55, 56, 57, 58, 59, 60, 61] (by decide +kernel) (by decide +kernel)
set_option maxRecDepth 20000 in
theorem gX8_family_X5_weightOf : GoodIn wsX8_family (wsV RX8 124 RX5 yX5_weightOf wsX5_weightOf) := goodIn_app (goodIn_of _ (by decide +kernel)) ggX8_family_X5_weightOf
theorem dX8_family_0 : decode cX8_family 0 = .ok (.aload_n 0, 1) := by decide +kernel
theorem dX8_family_1 : decode cX8_family 1 = .ok (.iload_n 1, 1) := by decide +kernel
theorem dX8_family_2 : decode cX8_family 2 = .ok (.invokevirtual 96, 3) := by decide +kernel
theorem dX8_family_5 : decode cX8_family 5 = .ok (.ifCond .ne 6, 3) := by decide +kernel
theorem dX8_family_8 : decode cX8_family 8 = .ok (.bipush (-2), 2) := by decide +kernel
theorem dX8_family_10 : decode cX8_family 10 = .ok (.ireturn, 1) := by decide +kernel
theorem dX8_family_11 : decode cX8_family 11 = .ok (.iload_n 2, 1) := by decide +kernel
theorem dX8_family_12 : decode cX8_family 12 = .ok (.tableswitch 118 0 6 #[44, 54, 64, 74, 84, 93, 102], 44) := by decide +kernel
theorem dX8_family_56 : decode cX8_family 56 = .ok (.aload_n 0, 1) := by decide +kernel
theorem dX8_family_57 : decode cX8_family 57 = .ok (.getfield 24, 3) := by decide +kernel
theorem dX8_family_60 : decode cX8_family 60 = .ok (.getfield 100, 3) := by decide +kernel
theorem dX8_family_63 : decode cX8_family 63 = .ok (.iload_n 1, 1) := by decide +kernel
theorem dX8_family_64 : decode cX8_family 64 = .ok (.iaload, 1) := by decide +kernel
theorem dX8_family_65 : decode cX8_family 65 = .ok (.ireturn, 1) := by decide +kernel
theorem dX8_family_66 : decode cX8_family 66 = .ok (.aload_n 0, 1) := by decide +kernel
theorem dX8_family_67 : decode cX8_family 67 = .ok (.getfield 24, 3) := by decide +kernel
theorem dX8_family_70 : decode cX8_family 70 = .ok (.getfield 104, 3) := by decide +kernel
theorem dX8_family_73 : decode cX8_family 73 = .ok (.iload_n 1, 1) := by decide +kernel
theorem dX8_family_74 : decode cX8_family 74 = .ok (.iaload, 1) := by decide +kernel
theorem dX8_family_75 : decode cX8_family 75 = .ok (.ireturn, 1) := by decide +kernel
theorem dX8_family_76 : decode cX8_family 76 = .ok (.aload_n 0, 1) := by decide +kernel
theorem dX8_family_77 : decode cX8_family 77 = .ok (.getfield 24, 3) := by decide +kernel
theorem dX8_family_80 : decode cX8_family 80 = .ok (.getfield 107, 3) := by decide +kernel
theorem dX8_family_83 : decode cX8_family 83 = .ok (.iload_n 1, 1) := by decide +kernel
theorem dX8_family_84 : decode cX8_family 84 = .ok (.iaload, 1) := by decide +kernel
theorem dX8_family_85 : decode cX8_family 85 = .ok (.ireturn, 1) := by decide +kernel
theorem dX8_family_86 : decode cX8_family 86 = .ok (.aload_n 0, 1) := by decide +kernel
theorem dX8_family_87 : decode cX8_family 87 = .ok (.getfield 31, 3) := by decide +kernel
theorem dX8_family_90 : decode cX8_family 90 = .ok (.getfield 110, 3) := by decide +kernel
theorem dX8_family_93 : decode cX8_family 93 = .ok (.iload_n 1, 1) := by decide +kernel
theorem dX8_family_94 : decode cX8_family 94 = .ok (.iaload, 1) := by decide +kernel
theorem dX8_family_95 : decode cX8_family 95 = .ok (.ireturn, 1) := by decide +kernel
theorem dX8_family_96 : decode cX8_family 96 = .ok (.aload_n 0, 1) := by decide +kernel
theorem dX8_family_97 : decode cX8_family 97 = .ok (.getfield 31, 3) := by decide +kernel
theorem dX8_family_100 : decode cX8_family 100 = .ok (.iload_n 1, 1) := by decide +kernel
theorem dX8_family_101 : decode cX8_family 101 = .ok (.invokevirtual 113, 3) := by decide +kernel
theorem dX8_family_104 : decode cX8_family 104 = .ok (.ireturn, 1) := by decide +kernel
theorem dX8_family_105 : decode cX8_family 105 = .ok (.aload_n 0, 1) := by decide +kernel
theorem dX8_family_106 : decode cX8_family 106 = .ok (.getfield 31, 3) := by decide +kernel
theorem dX8_family_109 : decode cX8_family 109 = .ok (.iload_n 1, 1) := by decide +kernel
theorem dX8_family_110 : decode cX8_family 110 = .ok (.invokevirtual 117, 3) := by decide +kernel
theorem dX8_family_113 : decode cX8_family 113 = .ok (.ireturn, 1) := by decide +kernel
theorem dX8_family_114 : decode cX8_family 114 = .ok (.aload_n 0, 1) := by decide +kernel
theorem dX8_family_115 : decode cX8_family 115 = .ok (.getfield 24, 3) := by decide +kernel
theorem dX8_family_118 : decode cX8_family 118 = .ok (.iload_n 1, 1) := by decide +kernel
theorem dX8_family_119 : decode cX8_family 119 = .ok (.aload_n 0, 1) := by decide +kernel
theorem dX8_family_120 : decode cX8_family 120 = .ok (.getfield 31, 3) := by decide +kernel
theorem dX8_family_123 : decode cX8_family 123 = .ok (.invokevirtual 120, 3) := by decide +kernel
theorem dX8_family_126 : decode cX8_family 126 = .ok (.invokevirtual 124, 3) := by decide +kernel
theorem dX8_family_129 : decode cX8_family 129 = .ok (.ireturn, 1) := by decide +kernel
theorem dX8_family_130 : decode cX8_family 130 = .ok (.bipush (-3), 2) := by decide +kernel
theorem dX8_family_132 : decode cX8_family 132 = .ok (.ireturn, 1) := by decide +kernel
set_option maxRecDepth 20000 in
theorem ggX8_as_X8_isFamily : GoodIn wsX8_as wsX8_isFamily := goodIn_r _ [7, 1, 8, 18, 19, 20, 21, 22, 23, 24, 25, 26, 27, 28, 29, 30, 31, 32, 33] (by decide +kernel) (by decide +kernel)
set_option maxRecDepth 20000 in
theorem gX8_as_X8_isFamily : GoodIn wsX8_as (wsV RX8 96 RX8 yX8_isFamily wsX8_isFamily) := goodIn_app (goodIn_of _ (by decide +kernel)) ggX8_as_X8_isFamily
set_option maxRecDepth 20000 in
theorem ggX8_as_X8_isUnder : GoodIn wsX8_as wsX8_isUnder := goodIn_r _ [11] (by decide +kernel) (by decide +kernel)
set_option maxRecDepth 20000 in
theorem gX8_as_X8_isUnder : GoodIn wsX8_as (va_wsS RX8 128 yX8_isUnder wsX8_isUnder) := goodIn_app (goodIn_of _ (by decide +kernel)) ggX8_as_X8_isUnder
set_option maxRecDepth 20000 in
theorem ggX8_as_X5_weightOf : GoodIn wsX8_as wsX5_weightOf := goodIn_r _ [16, 17, 26, 27, 28, 29, 30, 31, 32, 33] (by decide +kernel) (by decide +kernel)
set_option maxRecDepth 20000 in
theorem gX8_as_X5_weightOf : GoodIn wsX8_as (wsV RX8 124 RX5 yX5_weightOf wsX5_weightOf) := goodIn_app (goodIn_of _ (by decide +kernel)) ggX8_as_X5_weightOf
theorem dX8_as_0 : decode cX8_as 0 = .ok (.aload_n 0, 1) := by decide +kernel
theorem dX8_as_1 : decode cX8_as 1 = .ok (.iload_n 1, 1) := by decide +kernel
theorem dX8_as_2 : decode cX8_as 2 = .ok (.invokevirtual 96, 3) := by decide +kernel
theorem dX8_as_5 : decode cX8_as 5 = .ok (.ifCond .ne 6, 3) := by decide +kernel
theorem dX8_as_8 : decode cX8_as 8 = .ok (.bipush (-2), 2) := by decide +kernel
theorem dX8_as_10 : decode cX8_as 10 = .ok (.ireturn, 1) := by decide +kernel
theorem dX8_as_11 : decode cX8_as 11 = .ok (.iload_n 2, 1) := by decide +kernel
theorem dX8_as_12 : decode cX8_as 12 = .ok (.ifCond .lt 8, 3) := by decide +kernel
theorem dX8_as_15 : decode cX8_as 15 = .ok (.iload_n 2, 1) := by decide +kernel
theorem dX8_as_16 : decode cX8_as 16 = .ok (.iconst 4, 1) := by decide +kernel
theorem dX8_as_17 : decode cX8_as 17 = .ok (.if_icmp .le 6, 3) := by decide +kernel
theorem dX8_as_20 : decode cX8_as 20 = .ok (.bipush (-3), 2) := by decide +kernel
theorem dX8_as_22 : decode cX8_as 22 = .ok (.ireturn, 1) := by decide +kernel
theorem dX8_as_23 : decode cX8_as 23 = .ok (.aload_n 0, 1) := by decide +kernel
theorem dX8_as_24 : decode cX8_as 24 = .ok (.getfield 24, 3) := by decide +kernel
theorem dX8_as_27 : decode cX8_as 27 = .ok (.getfield 100, 3) := by decide +kernel
theorem dX8_as_30 : decode cX8_as 30 = .ok (.iload_n 1, 1) := by decide +kernel
theorem dX8_as_31 : decode cX8_as 31 = .ok (.iaload, 1) := by decide +kernel
theorem dX8_as_32 : decode cX8_as 32 = .ok (.iload_n 2, 1) := by decide +kernel
theorem dX8_as_33 : decode cX8_as 33 = .ok (.invokestatic 128, 3) := by decide +kernel
theorem dX8_as_36 : decode cX8_as 36 = .ok (.ifCond .ne 6, 3) := by decide +kernel
theorem dX8_as_39 : decode cX8_as 39 = .ok (.bipush (-4), 2) := by decide +kernel
theorem dX8_as_41 : decode cX8_as 41 = .ok (.ireturn, 1) := by decide +kernel
theorem dX8_as_42 : decode cX8_as 42 = .ok (.bipush 10, 2) := by decide +kernel
theorem dX8_as_44 : decode cX8_as 44 = .ok (.aload_n 0, 1) := by decide +kernel
theorem dX8_as_45 : decode cX8_as 45 = .ok (.getfield 24, 3) := by decide +kernel
theorem dX8_as_48 : decode cX8_as 48 = .ok (.iload_n 1, 1) := by decide +kernel
theorem dX8_as_49 : decode cX8_as 49 = .ok (.iconst 0, 1) := by decide +kernel
theorem dX8_as_50 : decode cX8_as 50 = .ok (.invokevirtual 124, 3) := by decide +kernel
theorem dX8_as_53 : decode cX8_as 53 = .ok (.imul, 1) := by decide +kernel
theorem dX8_as_54 : decode cX8_as 54 = .ok (.aload_n 0, 1) := by decide +kernel
theorem dX8_as_55 : decode cX8_as 55 = .ok (.getfield 24, 3) := by decide +kernel
theorem dX8_as_58 : decode cX8_as 58 = .ok (.iload_n 1, 1) := by decide +kernel
theorem dX8_as_59 : decode cX8_as 59 = .ok (.iconst 1, 1) := by decide +kernel
theorem dX8_as_60 : decode cX8_as 60 = .ok (.invokevirtual 124, 3) := by decide +kernel
theorem dX8_as_63 : decode cX8_as 63 = .ok (.iadd, 1) := by decide +kernel
theorem dX8_as_64 : decode cX8_as 64 = .ok (.ireturn, 1) := by decide +kernel
set_option maxRecDepth 20000 in
theorem ggX8_favour_X8_isFamily : GoodIn wsX8_favour wsX8_isFamily := goodIn_r _ [8, 9, 10, 52, 53, 54, 55, 56, 57, 58, 59, 64, 65, 66, 67, 68, 69, 70, 71] (by decide +kernel) (by decide +kernel)
set_option maxRecDepth 20000 in
theorem gX8_favour_X8_isFamily : GoodIn wsX8_favour (wsV RX8 96 RX8 yX8_isFamily wsX8_isFamily) := goodIn_app (goodIn_of _ (by decide +kernel)) ggX8_favour_X8_isFamily
set_option maxRecDepth 20000 in
theorem ggX8_favour_X8_isYesOrNo : GoodIn wsX8_favour wsX8_isYesOrNo := goodIn_r _ [13] (by decide +kernel) (by decide +kernel)
set_option maxRecDepth 20000 in
theorem gX8_favour_X8_isYesOrNo : GoodIn wsX8_favour (va_wsS RX8 132 yX8_isYesOrNo wsX8_isYesOrNo) := goodIn_app (goodIn_of _ (by decide +kernel)) ggX8_favour_X8_isYesOrNo
set_option maxRecDepth 20000 in
theorem ggX8_favour_X7_isFrozen : GoodIn wsX8_favour wsX7_isFrozen := goodIn_r _ [18, 19, 20, 7, 21, 60, 61, 62, 63] (by decide +kernel) (by decide +kernel)
set_option maxRecDepth 20000 in
theorem gX8_favour_X7_isFrozen : GoodIn wsX8_favour (wsV RX8 135 RX7 yX7_isFrozen wsX7_isFrozen) := goodIn_app (goodIn_of _ (by decide +kernel)) ggX8_favour_X7_isFrozen
set_option maxRecDepth 20000 in
theorem ggX8_favour_X1_remember : GoodIn wsX8_favour wsX1_remember := goodIn_r _ [26, 27, 28, 29, 30, 31, 32, 33, 34, 35, 36, 17, 37, 38, 19, 39, 40, 41, 42, 43, 44, 72, 73, 74, 75, 76, 60, 61, 62, 63] (by decide +kernel) (by decide +kernel)
set_option maxRecDepth 20000 in
theorem gX8_favour_X1_remember : GoodIn wsX8_favour (wsV RX8 138 RX1 yX1_remember wsX1_remember) := goodIn_app (goodIn_of _ (by decide +kernel)) ggX8_favour_X1_remember
set_option maxRecDepth 20000 in
theorem ggX8_favour_X8_holds : GoodIn wsX8_favour wsX8_holds := goodIn_r _ [21] (by decide +kernel) (by decide +kernel)
set_option maxRecDepth 20000 in
theorem gX8_favour_X8_holds : GoodIn wsX8_favour (va_wsS RX8 145 yX8_holds wsX8_holds) := goodIn_app (goodIn_of _ (by decide +kernel)) ggX8_favour_X8_holds
set_option maxRecDepth 20000 in
theorem ggX8_favour_X8_with : GoodIn wsX8_favour wsX8_with := goodIn_r _ [48, 49, 50, 7, 51] (by decide +kernel) (by decide +kernel)
set_option maxRecDepth 20000 in
theorem gX8_favour_X8_with : GoodIn wsX8_favour (va_wsS RX8 148 yX8_with wsX8_with) := goodIn_app (goodIn_of _ (by decide +kernel)) ggX8_favour_X8_with
theorem dX8_favour_0 : decode cX8_favour 0 = .ok (.aload_n 0, 1) := by decide +kernel
theorem dX8_favour_1 : decode cX8_favour 1 = .ok (.iload_n 1, 1) := by decide +kernel
theorem dX8_favour_2 : decode cX8_favour 2 = .ok (.invokevirtual 96, 3) := by decide +kernel
theorem dX8_favour_5 : decode cX8_favour 5 = .ok (.ifCond .eq 16, 3) := by decide +kernel
theorem dX8_favour_8 : decode cX8_favour 8 = .ok (.aload_n 0, 1) := by decide +kernel
theorem dX8_favour_9 : decode cX8_favour 9 = .ok (.iload_n 2, 1) := by decide +kernel
theorem dX8_favour_10 : decode cX8_favour 10 = .ok (.invokevirtual 96, 3) := by decide +kernel
theorem dX8_favour_13 : decode cX8_favour 13 = .ok (.ifCond .eq 8, 3) := by decide +kernel
theorem dX8_favour_16 : decode cX8_favour 16 = .ok (.iload_n 1, 1) := by decide +kernel
theorem dX8_favour_17 : decode cX8_favour 17 = .ok (.iload_n 2, 1) := by decide +kernel
theorem dX8_favour_18 : decode cX8_favour 18 = .ok (.if_icmp .ne 6, 3) := by decide +kernel
theorem dX8_favour_21 : decode cX8_favour 21 = .ok (.bipush (-2), 2) := by decide +kernel
theorem dX8_favour_23 : decode cX8_favour 23 = .ok (.ireturn, 1) := by decide +kernel
theorem dX8_favour_24 : decode cX8_favour 24 = .ok (.iload_n 3, 1) := by decide +kernel
theorem dX8_favour_25 : decode cX8_favour 25 = .ok (.invokestatic 132, 3) := by decide +kernel
theorem dX8_favour_28 : decode cX8_favour 28 = .ok (.ifCond .ne 6, 3) := by decide +kernel
theorem dX8_favour_31 : decode cX8_favour 31 = .ok (.bipush (-3), 2) := by decide +kernel
theorem dX8_favour_33 : decode cX8_favour 33 = .ok (.ireturn, 1) := by decide +kernel
theorem dX8_favour_34 : decode cX8_favour 34 = .ok (.aload_n 0, 1) := by decide +kernel
theorem dX8_favour_35 : decode cX8_favour 35 = .ok (.getfield 31, 3) := by decide +kernel
theorem dX8_favour_38 : decode cX8_favour 38 = .ok (.iload_n 1, 1) := by decide +kernel
theorem dX8_favour_39 : decode cX8_favour 39 = .ok (.invokevirtual 135, 3) := by decide +kernel
theorem dX8_favour_42 : decode cX8_favour 42 = .ok (.ifCond .ne 14, 3) := by decide +kernel
theorem dX8_favour_45 : decode cX8_favour 45 = .ok (.aload_n 0, 1) := by decide +kernel
theorem dX8_favour_46 : decode cX8_favour 46 = .ok (.getfield 31, 3) := by decide +kernel
theorem dX8_favour_49 : decode cX8_favour 49 = .ok (.iload_n 2, 1) := by decide +kernel
theorem dX8_favour_50 : decode cX8_favour 50 = .ok (.invokevirtual 135, 3) := by decide +kernel
theorem dX8_favour_53 : decode cX8_favour 53 = .ok (.ifCond .eq 6, 3) := by decide +kernel
theorem dX8_favour_56 : decode cX8_favour 56 = .ok (.bipush (-4), 2) := by decide +kernel
theorem dX8_favour_58 : decode cX8_favour 58 = .ok (.ireturn, 1) := by decide +kernel
theorem dX8_favour_59 : decode cX8_favour 59 = .ok (.aload_n 0, 1) := by decide +kernel
theorem dX8_favour_60 : decode cX8_favour 60 = .ok (.getfield 38, 3) := by decide +kernel
theorem dX8_favour_63 : decode cX8_favour 63 = .ok (.aload_n 0, 1) := by decide +kernel
theorem dX8_favour_64 : decode cX8_favour 64 = .ok (.getfield 31, 3) := by decide +kernel
theorem dX8_favour_67 : decode cX8_favour 67 = .ok (.invokevirtual 138, 3) := by decide +kernel
theorem dX8_favour_70 : decode cX8_favour 70 = .ok (.aload_n 0, 1) := by decide +kernel
theorem dX8_favour_71 : decode cX8_favour 71 = .ok (.getfield 31, 3) := by decide +kernel
theorem dX8_favour_74 : decode cX8_favour 74 = .ok (.getfield 142, 3) := by decide +kernel
theorem dX8_favour_77 : decode cX8_favour 77 = .ok (.iload_n 2, 1) := by decide +kernel
theorem dX8_favour_78 : decode cX8_favour 78 = .ok (.iaload, 1) := by decide +kernel
theorem dX8_favour_79 : decode cX8_favour 79 = .ok (.iload_n 1, 1) := by decide +kernel
theorem dX8_favour_80 : decode cX8_favour 80 = .ok (.invokestatic 145, 3) := by decide +kernel
theorem dX8_favour_83 : decode cX8_favour 83 = .ok (.ifCond .eq 7, 3) := by decide +kernel
theorem dX8_favour_86 : decode cX8_favour 86 = .ok (.iconst 1, 1) := by decide +kernel
theorem dX8_favour_87 : decode cX8_favour 87 = .ok (.goto 4, 3) := by decide +kernel
theorem dX8_favour_90 : decode cX8_favour 90 = .ok (.iconst 0, 1) := by decide +kernel
theorem dX8_favour_91 : decode cX8_favour 91 = .ok (.istore 4, 2) := by decide +kernel
theorem dX8_favour_93 : decode cX8_favour 93 = .ok (.aload_n 0, 1) := by decide +kernel
theorem dX8_favour_94 : decode cX8_favour 94 = .ok (.getfield 31, 3) := by decide +kernel
theorem dX8_favour_97 : decode cX8_favour 97 = .ok (.getfield 142, 3) := by decide +kernel
theorem dX8_favour_100 : decode cX8_favour 100 = .ok (.iload_n 2, 1) := by decide +kernel
theorem dX8_favour_101 : decode cX8_favour 101 = .ok (.aload_n 0, 1) := by decide +kernel
theorem dX8_favour_102 : decode cX8_favour 102 = .ok (.getfield 31, 3) := by decide +kernel
theorem dX8_favour_105 : decode cX8_favour 105 = .ok (.getfield 142, 3) := by decide +kernel
theorem dX8_favour_108 : decode cX8_favour 108 = .ok (.iload_n 2, 1) := by decide +kernel
theorem dX8_favour_109 : decode cX8_favour 109 = .ok (.iaload, 1) := by decide +kernel
theorem dX8_favour_110 : decode cX8_favour 110 = .ok (.iload_n 1, 1) := by decide +kernel
theorem dX8_favour_111 : decode cX8_favour 111 = .ok (.iload_n 3, 1) := by decide +kernel
theorem dX8_favour_112 : decode cX8_favour 112 = .ok (.iconst 1, 1) := by decide +kernel
theorem dX8_favour_113 : decode cX8_favour 113 = .ok (.if_icmp .ne 7, 3) := by decide +kernel
theorem dX8_favour_116 : decode cX8_favour 116 = .ok (.iconst 1, 1) := by decide +kernel
theorem dX8_favour_117 : decode cX8_favour 117 = .ok (.goto 4, 3) := by decide +kernel
theorem dX8_favour_120 : decode cX8_favour 120 = .ok (.iconst 0, 1) := by decide +kernel
theorem dX8_favour_121 : decode cX8_favour 121 = .ok (.invokestatic 148, 3) := by decide +kernel
theorem dX8_favour_124 : decode cX8_favour 124 = .ok (.iastore, 1) := by decide +kernel
theorem dX8_favour_125 : decode cX8_favour 125 = .ok (.iload 4, 2) := by decide +kernel
theorem dX8_favour_127 : decode cX8_favour 127 = .ok (.ireturn, 1) := by decide +kernel
set_option maxRecDepth 20000 in
theorem ggX8_day_X8_isFamily : GoodIn wsX8_day wsX8_isFamily := goodIn_r _ [9, 4, 10, 96, 97, 98, 99, 100, 101, 102, 103, 108, 109, 110, 111, 112, 113, 114, 115] (by decide +kernel) (by decide +kernel)
set_option maxRecDepth 20000 in
theorem gX8_day_X8_isFamily : GoodIn wsX8_day (wsV RX8 96 RX8 yX8_isFamily wsX8_isFamily) := goodIn_app (goodIn_of _ (by decide +kernel)) ggX8_day_X8_isFamily
set_option maxRecDepth 20000 in
theorem ggX8_day_X7_isFrozen : GoodIn wsX8_day wsX7_isFrozen := goodIn_r _ [15, 16, 17, 8, 18, 104, 105, 106, 107] (by decide +kernel) (by decide +kernel)
set_option maxRecDepth 20000 in
theorem gX8_day_X7_isFrozen : GoodIn wsX8_day (wsV RX8 135 RX7 yX7_isFrozen wsX7_isFrozen) := goodIn_app (goodIn_of _ (by decide +kernel)) ggX8_day_X7_isFrozen
set_option maxRecDepth 20000 in
theorem ggX8_day_X1_remember : GoodIn wsX8_day wsX1_remember := goodIn_r _ [23, 24, 25, 26, 27, 28, 29, 30, 31, 32, 33, 14, 34, 35, 16, 36, 37, 38, 39, 40, 41, 116, 117, 118, 119, 120, 104, 105, 106, 107] (by decide +kernel) (by decide +kernel)
set_option maxRecDepth 20000 in
theorem gX8_day_X1_remember : GoodIn wsX8_day (wsV RX8 138 RX1 yX1_remember wsX1_remember) := goodIn_app (goodIn_of _ (by decide +kernel)) ggX8_day_X1_remember
set_option maxRecDepth 20000 in
theorem ggX8_day_X7_passDay : GoodIn wsX8_day wsX7_passDay := goodIn_r _ [45, 16, 35, 46, 47, 48, 49, 50, 51, 52, 53, 54, 55, 56, 14, 57, 41, 58, 12, 13, 15, 17, 8, 18, 59, 60, 61, 62, 63, 64, 65, 66, 67, 68, 69, 70, 71, 72, 73, 74, 75, 76, 77, 78, 79, 80, 81, 82, 83, 84, 85, 86, 87, 88, 36, 89, 28, 29, 30, 90, 91, 92, 93, 94, 95, 104, 105, 106, 107, 108, 109, 110, 111, 112, 113, 114, 115] (by decide +kernel) (by decide +kernel)
set_option maxRecDepth 20000 in
theorem gX8_day_X7_passDay : GoodIn wsX8_day (wsV RX8 155 RX7 yX7_passDay wsX7_passDay) := goodIn_app (goodIn_of _ (by decide +kernel)) ggX8_day_X7_passDay
theorem dX8_day_0 : decode cX8_day 0 = .ok (.iload_n 1, 1) := by decide +kernel
theorem dX8_day_1 : decode cX8_day 1 = .ok (.iconst (-1), 1) := by decide +kernel
theorem dX8_day_2 : decode cX8_day 2 = .ok (.if_icmp .eq 14, 3) := by decide +kernel
theorem dX8_day_5 : decode cX8_day 5 = .ok (.aload_n 0, 1) := by decide +kernel
theorem dX8_day_6 : decode cX8_day 6 = .ok (.iload_n 1, 1) := by decide +kernel
theorem dX8_day_7 : decode cX8_day 7 = .ok (.invokevirtual 96, 3) := by decide +kernel
theorem dX8_day_10 : decode cX8_day 10 = .ok (.ifCond .ne 6, 3) := by decide +kernel
theorem dX8_day_13 : decode cX8_day 13 = .ok (.bipush (-2), 2) := by decide +kernel
theorem dX8_day_15 : decode cX8_day 15 = .ok (.ireturn, 1) := by decide +kernel
theorem dX8_day_16 : decode cX8_day 16 = .ok (.iload_n 1, 1) := by decide +kernel
theorem dX8_day_17 : decode cX8_day 17 = .ok (.iconst (-1), 1) := by decide +kernel
theorem dX8_day_18 : decode cX8_day 18 = .ok (.if_icmp .eq 17, 3) := by decide +kernel
theorem dX8_day_21 : decode cX8_day 21 = .ok (.aload_n 0, 1) := by decide +kernel
theorem dX8_day_22 : decode cX8_day 22 = .ok (.getfield 31, 3) := by decide +kernel
theorem dX8_day_25 : decode cX8_day 25 = .ok (.iload_n 1, 1) := by decide +kernel
theorem dX8_day_26 : decode cX8_day 26 = .ok (.invokevirtual 135, 3) := by decide +kernel
theorem dX8_day_29 : decode cX8_day 29 = .ok (.ifCond .eq 6, 3) := by decide +kernel
theorem dX8_day_32 : decode cX8_day 32 = .ok (.bipush (-4), 2) := by decide +kernel
theorem dX8_day_34 : decode cX8_day 34 = .ok (.ireturn, 1) := by decide +kernel
theorem dX8_day_35 : decode cX8_day 35 = .ok (.aload_n 0, 1) := by decide +kernel
theorem dX8_day_36 : decode cX8_day 36 = .ok (.getfield 31, 3) := by decide +kernel
theorem dX8_day_39 : decode cX8_day 39 = .ok (.getfield 152, 3) := by decide +kernel
theorem dX8_day_42 : decode cX8_day 42 = .ok (.sipush 999, 3) := by decide +kernel
theorem dX8_day_45 : decode cX8_day 45 = .ok (.if_icmp .lt 6, 3) := by decide +kernel
theorem dX8_day_48 : decode cX8_day 48 = .ok (.bipush (-5), 2) := by decide +kernel
theorem dX8_day_50 : decode cX8_day 50 = .ok (.ireturn, 1) := by decide +kernel
theorem dX8_day_51 : decode cX8_day 51 = .ok (.aload_n 0, 1) := by decide +kernel
theorem dX8_day_52 : decode cX8_day 52 = .ok (.getfield 38, 3) := by decide +kernel
theorem dX8_day_55 : decode cX8_day 55 = .ok (.aload_n 0, 1) := by decide +kernel
theorem dX8_day_56 : decode cX8_day 56 = .ok (.getfield 31, 3) := by decide +kernel
theorem dX8_day_59 : decode cX8_day 59 = .ok (.invokevirtual 138, 3) := by decide +kernel
theorem dX8_day_62 : decode cX8_day 62 = .ok (.aload_n 0, 1) := by decide +kernel
theorem dX8_day_63 : decode cX8_day 63 = .ok (.getfield 31, 3) := by decide +kernel
theorem dX8_day_66 : decode cX8_day 66 = .ok (.aload_n 0, 1) := by decide +kernel
theorem dX8_day_67 : decode cX8_day 67 = .ok (.getfield 24, 3) := by decide +kernel
theorem dX8_day_70 : decode cX8_day 70 = .ok (.iload_n 1, 1) := by decide +kernel
theorem dX8_day_71 : decode cX8_day 71 = .ok (.invokevirtual 155, 3) := by decide +kernel
theorem dX8_day_74 : decode cX8_day 74 = .ok (.ireturn, 1) := by decide +kernel
set_option maxRecDepth 20000 in
theorem ggX8_undo_X1_recall : GoodIn wsX8_undo wsX1_recall := goodIn_r _ [8, 9, 10, 11, 12, 13, 14, 15, 16, 17, 18, 19, 20, 21, 22, 23, 24, 33, 34, 35, 36, 37, 38, 39, 40, 41] (by decide +kernel) (by decide +kernel)
set_option maxRecDepth 20000 in
theorem gX8_undo_X1_recall : GoodIn wsX8_undo (wsV RX8 160 RX1 yX1_recall wsX1_recall) := goodIn_app (goodIn_of _ (by decide +kernel)) ggX8_undo_X1_recall
theorem dX8_undo_0 : decode cX8_undo 0 = .ok (.aload_n 0, 1) := by decide +kernel
theorem dX8_undo_1 : decode cX8_undo 1 = .ok (.getfield 38, 3) := by decide +kernel
theorem dX8_undo_4 : decode cX8_undo 4 = .ok (.getfield 159, 3) := by decide +kernel
theorem dX8_undo_7 : decode cX8_undo 7 = .ok (.ifCond .ne 6, 3) := by decide +kernel
theorem dX8_undo_10 : decode cX8_undo 10 = .ok (.bipush (-4), 2) := by decide +kernel
theorem dX8_undo_12 : decode cX8_undo 12 = .ok (.ireturn, 1) := by decide +kernel
theorem dX8_undo_13 : decode cX8_undo 13 = .ok (.aload_n 0, 1) := by decide +kernel
theorem dX8_undo_14 : decode cX8_undo 14 = .ok (.getfield 38, 3) := by decide +kernel
theorem dX8_undo_17 : decode cX8_undo 17 = .ok (.aload_n 0, 1) := by decide +kernel
theorem dX8_undo_18 : decode cX8_undo 18 = .ok (.getfield 31, 3) := by decide +kernel
theorem dX8_undo_21 : decode cX8_undo 21 = .ok (.invokevirtual 160, 3) := by decide +kernel
theorem dX8_undo_24 : decode cX8_undo 24 = .ok (.aload_n 0, 1) := by decide +kernel
theorem dX8_undo_25 : decode cX8_undo 25 = .ok (.getfield 38, 3) := by decide +kernel
theorem dX8_undo_28 : decode cX8_undo 28 = .ok (.getfield 159, 3) := by decide +kernel
theorem dX8_undo_31 : decode cX8_undo 31 = .ok (.ireturn, 1) := by decide +kernel
set_option maxRecDepth 20000 in
theorem ggX8_keep_X7_copyFrom : GoodIn wsX8_keep wsX7_copyFrom := goodIn_r _ [10, 11, 12, 13, 14, 15, 16, 17, 18, 32, 33, 34, 35] (by decide +kernel) (by decide +kernel)
set_option maxRecDepth 20000 in
theorem gX8_keep_X7_copyFrom : GoodIn wsX8_keep (wsV RX8 167 RX7 yX7_copyFrom wsX7_copyFrom) := goodIn_app (goodIn_of _ (by decide +kernel)) ggX8_keep_X7_copyFrom
theorem dX8_keep_0 : decode cX8_keep 0 = .ok (.iload_n 1, 1) := by decide +kernel
theorem dX8_keep_1 : decode cX8_keep 1 = .ok (.ifCond .lt 8, 3) := by decide +kernel
theorem dX8_keep_4 : decode cX8_keep 4 = .ok (.iload_n 1, 1) := by decide +kernel
theorem dX8_keep_5 : decode cX8_keep 5 = .ok (.iconst 2, 1) := by decide +kernel
theorem dX8_keep_6 : decode cX8_keep 6 = .ok (.if_icmp .lt 6, 3) := by decide +kernel
theorem dX8_keep_9 : decode cX8_keep 9 = .ok (.bipush (-2), 2) := by decide +kernel
theorem dX8_keep_11 : decode cX8_keep 11 = .ok (.ireturn, 1) := by decide +kernel
theorem dX8_keep_12 : decode cX8_keep 12 = .ok (.aload_n 0, 1) := by decide +kernel
theorem dX8_keep_13 : decode cX8_keep 13 = .ok (.getfield 38, 3) := by decide +kernel
theorem dX8_keep_16 : decode cX8_keep 16 = .ok (.getfield 163, 3) := by decide +kernel
theorem dX8_keep_19 : decode cX8_keep 19 = .ok (.iload_n 1, 1) := by decide +kernel
theorem dX8_keep_20 : decode cX8_keep 20 = .ok (.aaload, 1) := by decide +kernel
theorem dX8_keep_21 : decode cX8_keep 21 = .ok (.aload_n 0, 1) := by decide +kernel
theorem dX8_keep_22 : decode cX8_keep 22 = .ok (.getfield 31, 3) := by decide +kernel
theorem dX8_keep_25 : decode cX8_keep 25 = .ok (.invokevirtual 167, 3) := by decide +kernel
theorem dX8_keep_28 : decode cX8_keep 28 = .ok (.aload_n 0, 1) := by decide +kernel
theorem dX8_keep_29 : decode cX8_keep 29 = .ok (.getfield 38, 3) := by decide +kernel
theorem dX8_keep_32 : decode cX8_keep 32 = .ok (.getfield 169, 3) := by decide +kernel
theorem dX8_keep_35 : decode cX8_keep 35 = .ok (.iload_n 1, 1) := by decide +kernel
theorem dX8_keep_36 : decode cX8_keep 36 = .ok (.iconst 1, 1) := by decide +kernel
theorem dX8_keep_37 : decode cX8_keep 37 = .ok (.bastore, 1) := by decide +kernel
theorem dX8_keep_38 : decode cX8_keep 38 = .ok (.aload_n 0, 1) := by decide +kernel
theorem dX8_keep_39 : decode cX8_keep 39 = .ok (.getfield 31, 3) := by decide +kernel
theorem dX8_keep_42 : decode cX8_keep 42 = .ok (.getfield 152, 3) := by decide +kernel
theorem dX8_keep_45 : decode cX8_keep 45 = .ok (.ireturn, 1) := by decide +kernel
set_option maxRecDepth 20000 in
theorem ggX8_back_X7_copyFrom : GoodIn wsX8_back wsX7_copyFrom := goodIn_r _ [11, 12, 13, 14, 15, 16, 17, 18, 19, 33, 34, 35, 36] (by decide +kernel) (by decide +kernel)
set_option maxRecDepth 20000 in
theorem gX8_back_X7_copyFrom : GoodIn wsX8_back (wsV RX8 167 RX7 yX7_copyFrom wsX7_copyFrom) := goodIn_app (goodIn_of _ (by decide +kernel)) ggX8_back_X7_copyFrom
theorem dX8_back_0 : decode cX8_back 0 = .ok (.iload_n 1, 1) := by decide +kernel
theorem dX8_back_1 : decode cX8_back 1 = .ok (.ifCond .lt 8, 3) := by decide +kernel
theorem dX8_back_4 : decode cX8_back 4 = .ok (.iload_n 1, 1) := by decide +kernel
theorem dX8_back_5 : decode cX8_back 5 = .ok (.iconst 2, 1) := by decide +kernel
theorem dX8_back_6 : decode cX8_back 6 = .ok (.if_icmp .lt 6, 3) := by decide +kernel
theorem dX8_back_9 : decode cX8_back 9 = .ok (.bipush (-2), 2) := by decide +kernel
theorem dX8_back_11 : decode cX8_back 11 = .ok (.ireturn, 1) := by decide +kernel
theorem dX8_back_12 : decode cX8_back 12 = .ok (.aload_n 0, 1) := by decide +kernel
theorem dX8_back_13 : decode cX8_back 13 = .ok (.getfield 38, 3) := by decide +kernel
theorem dX8_back_16 : decode cX8_back 16 = .ok (.getfield 169, 3) := by decide +kernel
theorem dX8_back_19 : decode cX8_back 19 = .ok (.iload_n 1, 1) := by decide +kernel
theorem dX8_back_20 : decode cX8_back 20 = .ok (.baload, 1) := by decide +kernel
theorem dX8_back_21 : decode cX8_back 21 = .ok (.ifCond .ne 6, 3) := by decide +kernel
theorem dX8_back_24 : decode cX8_back 24 = .ok (.bipush (-4), 2) := by decide +kernel
theorem dX8_back_26 : decode cX8_back 26 = .ok (.ireturn, 1) := by decide +kernel
theorem dX8_back_27 : decode cX8_back 27 = .ok (.aload_n 0, 1) := by decide +kernel
theorem dX8_back_28 : decode cX8_back 28 = .ok (.getfield 31, 3) := by decide +kernel
theorem dX8_back_31 : decode cX8_back 31 = .ok (.aload_n 0, 1) := by decide +kernel
theorem dX8_back_32 : decode cX8_back 32 = .ok (.getfield 38, 3) := by decide +kernel
theorem dX8_back_35 : decode cX8_back 35 = .ok (.getfield 163, 3) := by decide +kernel
theorem dX8_back_38 : decode cX8_back 38 = .ok (.iload_n 1, 1) := by decide +kernel
theorem dX8_back_39 : decode cX8_back 39 = .ok (.aaload, 1) := by decide +kernel
theorem dX8_back_40 : decode cX8_back 40 = .ok (.invokevirtual 167, 3) := by decide +kernel
theorem dX8_back_43 : decode cX8_back 43 = .ok (.aload_n 0, 1) := by decide +kernel
theorem dX8_back_44 : decode cX8_back 44 = .ok (.getfield 38, 3) := by decide +kernel
theorem dX8_back_47 : decode cX8_back 47 = .ok (.iconst 0, 1) := by decide +kernel
theorem dX8_back_48 : decode cX8_back 48 = .ok (.putfield 159, 3) := by decide +kernel
theorem dX8_back_51 : decode cX8_back 51 = .ok (.aload_n 0, 1) := by decide +kernel
theorem dX8_back_52 : decode cX8_back 52 = .ok (.getfield 31, 3) := by decide +kernel
theorem dX8_back_55 : decode cX8_back 55 = .ok (.getfield 152, 3) := by decide +kernel
theorem dX8_back_58 : decode cX8_back 58 = .ok (.ireturn, 1) := by decide +kernel
set_option maxRecDepth 20000 in
theorem ggX8_warm_X8_isSet : GoodIn wsX8_warm wsX8_isSet := goodIn_r _ [6, 1, 7, 8, 9, 10, 11, 12, 13, 5, 14, 15, 16, 17, 25, 26, 27, 28, 29, 30, 31, 32, 33, 34, 35, 36, 37, 38, 39, 40] (by decide +kernel) (by decide +kernel)
set_option maxRecDepth 20000 in
theorem gX8_warm_X8_isSet : GoodIn wsX8_warm (wsV RX8 173 RX8 yX8_isSet wsX8_isSet) := goodIn_app (goodIn_of _ (by decide +kernel)) ggX8_warm_X8_isSet
set_option maxRecDepth 20000 in
theorem ggX8_warm_X5_warmthOfSet : GoodIn wsX8_warm wsX5_warmthOfSet := goodIn_r _ [21, 12, 22, 23, 5, 24, 33, 34, 35, 36, 37, 38, 39, 40] (by decide +kernel) (by decide +kernel)
set_option maxRecDepth 20000 in
theorem gX8_warm_X5_warmthOfSet : GoodIn wsX8_warm (wsV RX8 176 RX5 yX5_warmthOfSet wsX5_warmthOfSet) := goodIn_app (goodIn_of _ (by decide +kernel)) ggX8_warm_X5_warmthOfSet
theorem dX8_warm_0 : decode cX8_warm 0 = .ok (.aload_n 0, 1) := by decide +kernel
theorem dX8_warm_1 : decode cX8_warm 1 = .ok (.iload_n 1, 1) := by decide +kernel
theorem dX8_warm_2 : decode cX8_warm 2 = .ok (.invokevirtual 173, 3) := by decide +kernel
theorem dX8_warm_5 : decode cX8_warm 5 = .ok (.ifCond .eq 14, 3) := by decide +kernel
theorem dX8_warm_8 : decode cX8_warm 8 = .ok (.aload_n 0, 1) := by decide +kernel
theorem dX8_warm_9 : decode cX8_warm 9 = .ok (.getfield 24, 3) := by decide +kernel
theorem dX8_warm_12 : decode cX8_warm 12 = .ok (.iload_n 1, 1) := by decide +kernel
theorem dX8_warm_13 : decode cX8_warm 13 = .ok (.invokevirtual 176, 3) := by decide +kernel
theorem dX8_warm_16 : decode cX8_warm 16 = .ok (.goto 5, 3) := by decide +kernel
theorem dX8_warm_19 : decode cX8_warm 19 = .ok (.bipush (-2), 2) := by decide +kernel
theorem dX8_warm_21 : decode cX8_warm 21 = .ok (.ireturn, 1) := by decide +kernel
set_option maxRecDepth 20000 in
theorem ggX8_carried_X8_refusalFor : GoodIn wsX8_carried wsX8_refusalFor := goodIn_r _ [7, 1, 8, 9, 10, 6, 11, 2, 12, 13, 14, 15, 16, 17, 18, 19, 20, 54, 55, 56, 57, 58, 59, 60, 61, 62, 63, 64, 65, 66, 67, 68, 69, 70, 71, 72, 73] (by decide +kernel) (by decide +kernel)
set_option maxRecDepth 20000 in
theorem gX8_carried_X8_refusalFor : GoodIn wsX8_carried (wsV RX8 179 RX8 yX8_refusalFor wsX8_refusalFor) := goodIn_app (goodIn_of _ (by decide +kernel)) ggX8_carried_X8_refusalFor
set_option maxRecDepth 20000 in
theorem ggX8_carried_X7_isCarriedFor : GoodIn wsX8_carried wsX7_isCarriedFor := goodIn_r _ [24, 25, 26, 27, 16, 28, 29, 18, 30, 14, 15, 17, 19, 6, 20, 31, 32, 33, 34, 35, 36, 37, 38, 39, 40, 41, 42, 43, 44, 45, 46, 47, 48, 49, 50, 51, 52, 53, 70, 71, 72, 73, 62, 63, 64, 65, 66, 67, 68, 69] (by decide +kernel) (by decide +kernel)
set_option maxRecDepth 20000 in
theorem gX8_carried_X7_isCarriedFor : GoodIn wsX8_carried (wsV RX8 183 RX7 yX7_isCarriedFor wsX7_isCarriedFor) := goodIn_app (goodIn_of _ (by decide +kernel)) ggX8_carried_X7_isCarriedFor
theorem dX8_carried_0 : decode cX8_carried 0 = .ok (.aload_n 0, 1) := by decide +kernel
theorem dX8_carried_1 : decode cX8_carried 1 = .ok (.iload_n 1, 1) := by decide +kernel
theorem dX8_carried_2 : decode cX8_carried 2 = .ok (.iconst 0, 1) := by decide +kernel
theorem dX8_carried_3 : decode cX8_carried 3 = .ok (.iconst 0, 1) := by decide +kernel
theorem dX8_carried_4 : decode cX8_carried 4 = .ok (.invokevirtual 179, 3) := by decide +kernel
theorem dX8_carried_7 : decode cX8_carried 7 = .ok (.istore_n 2, 1) := by decide +kernel
theorem dX8_carried_8 : decode cX8_carried 8 = .ok (.iload_n 2, 1) := by decide +kernel
theorem dX8_carried_9 : decode cX8_carried 9 = .ok (.ifCond .eq 5, 3) := by decide +kernel
theorem dX8_carried_12 : decode cX8_carried 12 = .ok (.iload_n 2, 1) := by decide +kernel
theorem dX8_carried_13 : decode cX8_carried 13 = .ok (.ireturn, 1) := by decide +kernel
theorem dX8_carried_14 : decode cX8_carried 14 = .ok (.aload_n 0, 1) := by decide +kernel
theorem dX8_carried_15 : decode cX8_carried 15 = .ok (.getfield 31, 3) := by decide +kernel
theorem dX8_carried_18 : decode cX8_carried 18 = .ok (.aload_n 0, 1) := by decide +kernel
theorem dX8_carried_19 : decode cX8_carried 19 = .ok (.getfield 24, 3) := by decide +kernel
theorem dX8_carried_22 : decode cX8_carried 22 = .ok (.iload_n 1, 1) := by decide +kernel
theorem dX8_carried_23 : decode cX8_carried 23 = .ok (.invokevirtual 183, 3) := by decide +kernel
theorem dX8_carried_26 : decode cX8_carried 26 = .ok (.ifCond .eq 7, 3) := by decide +kernel
theorem dX8_carried_29 : decode cX8_carried 29 = .ok (.iconst 1, 1) := by decide +kernel
theorem dX8_carried_30 : decode cX8_carried 30 = .ok (.goto 4, 3) := by decide +kernel
theorem dX8_carried_33 : decode cX8_carried 33 = .ok (.iconst 0, 1) := by decide +kernel
theorem dX8_carried_34 : decode cX8_carried 34 = .ok (.ireturn, 1) := by decide +kernel
set_option maxRecDepth 20000 in
theorem ggX8_fewest_X8_refusalFor : GoodIn wsX8_fewest wsX8_refusalFor := goodIn_r _ [11, 3, 12, 13, 14, 10, 15, 2, 16, 17, 18, 19, 20, 21, 22, 23, 24, 79, 80, 81, 82, 83, 84, 85, 86, 91, 92, 93, 94, 95, 96, 97, 98, 99, 100, 101, 102] (by decide +kernel) (by decide +kernel)
set_option maxRecDepth 20000 in
theorem gX8_fewest_X8_refusalFor : GoodIn wsX8_fewest (wsV RX8 179 RX8 yX8_refusalFor wsX8_refusalFor) := goodIn_app (goodIn_of _ (by decide +kernel)) ggX8_fewest_X8_refusalFor
set_option maxRecDepth 20000 in
theorem ggX8_fewest_X4_search : GoodIn wsX8_fewest wsX4_search := goodIn_r _ [29, 30, 31, 32, 33, 34, 35, 36, 37, 38, 39, 40, 41, 42, 43, 44, 45, 46, 10, 47, 48, 49, 23, 24, 50, 51, 52, 53, 54, 55, 56, 57, 58, 59, 60, 61, 62, 63, 64, 28, 65, 66, 67, 68, 69, 70, 71, 99, 100, 101, 102, 87, 88, 89, 90, 91, 92, 93, 94, 95, 96, 97, 98] (by decide +kernel) (by decide +kernel)
set_option maxRecDepth 20000 in
theorem gX8_fewest_X4_search : GoodIn wsX8_fewest (wsV RX8 187 RX4 yX4_search wsX4_search) := goodIn_app (goodIn_of _ (by decide +kernel)) ggX8_fewest_X4_search
set_option maxRecDepth 20000 in
theorem ggX8_fewest_X4_inMost : GoodIn wsX8_fewest wsX4_inMost := goodIn_r _ [75, 67, 76, 10, 77, 78, 46, 47, 87, 88, 89, 90] (by decide +kernel) (by decide +kernel)
set_option maxRecDepth 20000 in
theorem gX8_fewest_X4_inMost : GoodIn wsX8_fewest (wsV RX8 200 RX4 yX4_inMost wsX4_inMost) := goodIn_app (goodIn_of _ (by decide +kernel)) ggX8_fewest_X4_inMost
theorem dX8_fewest_0 : decode cX8_fewest 0 = .ok (.aload_n 0, 1) := by decide +kernel
theorem dX8_fewest_1 : decode cX8_fewest 1 = .ok (.iload_n 1, 1) := by decide +kernel
theorem dX8_fewest_2 : decode cX8_fewest 2 = .ok (.iload_n 2, 1) := by decide +kernel
theorem dX8_fewest_3 : decode cX8_fewest 3 = .ok (.iconst 3, 1) := by decide +kernel
theorem dX8_fewest_4 : decode cX8_fewest 4 = .ok (.invokevirtual 179, 3) := by decide +kernel
theorem dX8_fewest_7 : decode cX8_fewest 7 = .ok (.istore_n 3, 1) := by decide +kernel
theorem dX8_fewest_8 : decode cX8_fewest 8 = .ok (.iload_n 3, 1) := by decide +kernel
theorem dX8_fewest_9 : decode cX8_fewest 9 = .ok (.ifCond .eq 5, 3) := by decide +kernel
theorem dX8_fewest_12 : decode cX8_fewest 12 = .ok (.iload_n 3, 1) := by decide +kernel
theorem dX8_fewest_13 : decode cX8_fewest 13 = .ok (.ireturn, 1) := by decide +kernel
theorem dX8_fewest_14 : decode cX8_fewest 14 = .ok (.aload_n 0, 1) := by decide +kernel
theorem dX8_fewest_15 : decode cX8_fewest 15 = .ok (.getfield 52, 3) := by decide +kernel
theorem dX8_fewest_18 : decode cX8_fewest 18 = .ok (.aload_n 0, 1) := by decide +kernel
theorem dX8_fewest_19 : decode cX8_fewest 19 = .ok (.getfield 24, 3) := by decide +kernel
theorem dX8_fewest_22 : decode cX8_fewest 22 = .ok (.aload_n 0, 1) := by decide +kernel
theorem dX8_fewest_23 : decode cX8_fewest 23 = .ok (.getfield 31, 3) := by decide +kernel
theorem dX8_fewest_26 : decode cX8_fewest 26 = .ok (.iload_n 1, 1) := by decide +kernel
theorem dX8_fewest_27 : decode cX8_fewest 27 = .ok (.invokevirtual 187, 3) := by decide +kernel
theorem dX8_fewest_30 : decode cX8_fewest 30 = .ok (.aload_n 0, 1) := by decide +kernel
theorem dX8_fewest_31 : decode cX8_fewest 31 = .ok (.getfield 52, 3) := by decide +kernel
theorem dX8_fewest_34 : decode cX8_fewest 34 = .ok (.getfield 191, 3) := by decide +kernel
theorem dX8_fewest_37 : decode cX8_fewest 37 = .ok (.ifCond .ne 5, 3) := by decide +kernel
theorem dX8_fewest_40 : decode cX8_fewest 40 = .ok (.iconst (-1), 1) := by decide +kernel
theorem dX8_fewest_41 : decode cX8_fewest 41 = .ok (.ireturn, 1) := by decide +kernel
theorem dX8_fewest_42 : decode cX8_fewest 42 = .ok (.iload_n 2, 1) := by decide +kernel
theorem dX8_fewest_43 : decode cX8_fewest 43 = .ok (.tableswitch 49 0 2 #[25, 33, 41], 25) := by decide +kernel
theorem dX8_fewest_68 : decode cX8_fewest 68 = .ok (.aload_n 0, 1) := by decide +kernel
theorem dX8_fewest_69 : decode cX8_fewest 69 = .ok (.getfield 52, 3) := by decide +kernel
theorem dX8_fewest_72 : decode cX8_fewest 72 = .ok (.getfield 194, 3) := by decide +kernel
theorem dX8_fewest_75 : decode cX8_fewest 75 = .ok (.ireturn, 1) := by decide +kernel
theorem dX8_fewest_76 : decode cX8_fewest 76 = .ok (.aload_n 0, 1) := by decide +kernel
theorem dX8_fewest_77 : decode cX8_fewest 77 = .ok (.getfield 52, 3) := by decide +kernel
theorem dX8_fewest_80 : decode cX8_fewest 80 = .ok (.getfield 191, 3) := by decide +kernel
theorem dX8_fewest_83 : decode cX8_fewest 83 = .ok (.ireturn, 1) := by decide +kernel
theorem dX8_fewest_84 : decode cX8_fewest 84 = .ok (.aload_n 0, 1) := by decide +kernel
theorem dX8_fewest_85 : decode cX8_fewest 85 = .ok (.getfield 52, 3) := by decide +kernel
theorem dX8_fewest_88 : decode cX8_fewest 88 = .ok (.getfield 197, 3) := by decide +kernel
theorem dX8_fewest_91 : decode cX8_fewest 91 = .ok (.ireturn, 1) := by decide +kernel
theorem dX8_fewest_92 : decode cX8_fewest 92 = .ok (.aload_n 0, 1) := by decide +kernel
theorem dX8_fewest_93 : decode cX8_fewest 93 = .ok (.getfield 52, 3) := by decide +kernel
theorem dX8_fewest_96 : decode cX8_fewest 96 = .ok (.invokevirtual 200, 3) := by decide +kernel
theorem dX8_fewest_99 : decode cX8_fewest 99 = .ok (.ireturn, 1) := by decide +kernel
set_option maxRecDepth 20000 in
theorem ggX8_swings_X8_refusalFor : GoodIn wsX8_swings wsX8_refusalFor := goodIn_r _ [6, 7, 8, 9, 10, 5, 11, 1, 12, 13, 14, 15, 16, 17, 18, 19, 20, 58, 59, 60, 61, 62, 63, 64, 65, 66, 67, 68, 69, 70, 71, 72, 73, 74, 75, 76, 77] (by decide +kernel) (by decide +kernel)
set_option maxRecDepth 20000 in
theorem gX8_swings_X8_refusalFor : GoodIn wsX8_swings (wsV RX8 179 RX8 yX8_refusalFor wsX8_refusalFor) := goodIn_app (goodIn_of _ (by decide +kernel)) ggX8_swings_X8_refusalFor
set_option maxRecDepth 20000 in
theorem ggX8_swings_X8_othersThan : GoodIn wsX8_swings wsX8_othersThan := goodIn_r _ [24, 1, 7, 25, 26, 27, 28, 29, 30, 31, 32, 5, 33, 34, 58, 59, 60, 61, 62, 63, 64, 65, 74, 75, 76, 77, 66, 67, 68, 69, 70, 71, 72, 73] (by decide +kernel) (by decide +kernel)
set_option maxRecDepth 20000 in
theorem gX8_swings_X8_othersThan : GoodIn wsX8_swings (wsV RX8 204 RX8 yX8_othersThan wsX8_othersThan) := goodIn_app (goodIn_of _ (by decide +kernel)) ggX8_swings_X8_othersThan
set_option maxRecDepth 20000 in
theorem ggX8_swings_X5_all : GoodIn wsX8_swings wsX5_all := goodIn_r _ [30, 31, 32, 5, 33, 66, 67, 68, 69, 70, 71, 72, 73] (by decide +kernel) (by decide +kernel)
set_option maxRecDepth 20000 in
theorem gX8_swings_X5_all : GoodIn wsX8_swings (wsV RX8 207 RX5 yX5_all wsX5_all) := goodIn_app (goodIn_of _ (by decide +kernel)) ggX8_swings_X5_all
set_option maxRecDepth 20000 in
theorem ggX8_swings_X8_isWithin : GoodIn wsX8_swings wsX8_isWithin := goodIn_r _ [37] (by decide +kernel) (by decide +kernel)
set_option maxRecDepth 20000 in
theorem gX8_swings_X8_isWithin : GoodIn wsX8_swings (va_wsS RX8 210 yX8_isWithin wsX8_isWithin) := goodIn_app (goodIn_of _ (by decide +kernel)) ggX8_swings_X8_isWithin
set_option maxRecDepth 20000 in
theorem ggX8_swings_X8_isSwing : GoodIn wsX8_swings wsX8_isSwing := goodIn_r _ [41, 7, 1, 42, 43, 44, 45, 16, 46, 47, 48, 49, 50, 29, 51, 31, 19, 5, 20, 52, 53, 54, 55, 56, 57, 58, 59, 60, 61, 62, 63, 64, 65, 66, 67, 68, 69, 70, 71, 72, 73, 74, 75, 76, 77] (by decide +kernel) (by decide +kernel)
set_option maxRecDepth 20000 in
theorem gX8_swings_X8_isSwing : GoodIn wsX8_swings (wsV RX8 213 RX8 yX8_isSwing wsX8_isSwing) := goodIn_app (goodIn_of _ (by decide +kernel)) ggX8_swings_X8_isSwing
theorem dX8_swings_0 : decode cX8_swings 0 = .ok (.aload_n 0, 1) := by decide +kernel
theorem dX8_swings_1 : decode cX8_swings 1 = .ok (.iload_n 1, 1) := by decide +kernel
theorem dX8_swings_2 : decode cX8_swings 2 = .ok (.iconst 0, 1) := by decide +kernel
theorem dX8_swings_3 : decode cX8_swings 3 = .ok (.iconst 0, 1) := by decide +kernel
theorem dX8_swings_4 : decode cX8_swings 4 = .ok (.invokevirtual 179, 3) := by decide +kernel
theorem dX8_swings_7 : decode cX8_swings 7 = .ok (.istore_n 2, 1) := by decide +kernel
theorem dX8_swings_8 : decode cX8_swings 8 = .ok (.iload_n 2, 1) := by decide +kernel
theorem dX8_swings_9 : decode cX8_swings 9 = .ok (.ifCond .eq 5, 3) := by decide +kernel
theorem dX8_swings_12 : decode cX8_swings 12 = .ok (.iload_n 2, 1) := by decide +kernel
theorem dX8_swings_13 : decode cX8_swings 13 = .ok (.ireturn, 1) := by decide +kernel
theorem dX8_swings_14 : decode cX8_swings 14 = .ok (.aload_n 0, 1) := by decide +kernel
theorem dX8_swings_15 : decode cX8_swings 15 = .ok (.iload_n 1, 1) := by decide +kernel
theorem dX8_swings_16 : decode cX8_swings 16 = .ok (.invokevirtual 204, 3) := by decide +kernel
theorem dX8_swings_19 : decode cX8_swings 19 = .ok (.istore_n 3, 1) := by decide +kernel
theorem dX8_swings_20 : decode cX8_swings 20 = .ok (.iconst 0, 1) := by decide +kernel
theorem dX8_swings_21 : decode cX8_swings 21 = .ok (.istore 4, 2) := by decide +kernel
theorem dX8_swings_23 : decode cX8_swings 23 = .ok (.iconst 0, 1) := by decide +kernel
theorem dX8_swings_24 : decode cX8_swings 24 = .ok (.istore 5, 2) := by decide +kernel
theorem dX8_swings_26 : decode cX8_swings 26 = .ok (.iload 5, 2) := by decide +kernel
theorem dX8_swings_28 : decode cX8_swings 28 = .ok (.aload_n 0, 1) := by decide +kernel
theorem dX8_swings_29 : decode cX8_swings 29 = .ok (.getfield 24, 3) := by decide +kernel
theorem dX8_swings_32 : decode cX8_swings 32 = .ok (.invokevirtual 207, 3) := by decide +kernel
theorem dX8_swings_35 : decode cX8_swings 35 = .ok (.if_icmp .gt 31, 3) := by decide +kernel
theorem dX8_swings_38 : decode cX8_swings 38 = .ok (.iload 5, 2) := by decide +kernel
theorem dX8_swings_40 : decode cX8_swings 40 = .ok (.iload_n 3, 1) := by decide +kernel
theorem dX8_swings_41 : decode cX8_swings 41 = .ok (.invokestatic 210, 3) := by decide +kernel
theorem dX8_swings_44 : decode cX8_swings 44 = .ok (.ifCond .eq 16, 3) := by decide +kernel
theorem dX8_swings_47 : decode cX8_swings 47 = .ok (.aload_n 0, 1) := by decide +kernel
theorem dX8_swings_48 : decode cX8_swings 48 = .ok (.iload 5, 2) := by decide +kernel
theorem dX8_swings_50 : decode cX8_swings 50 = .ok (.iload_n 1, 1) := by decide +kernel
theorem dX8_swings_51 : decode cX8_swings 51 = .ok (.invokevirtual 213, 3) := by decide +kernel
theorem dX8_swings_54 : decode cX8_swings 54 = .ok (.ifCond .eq 6, 3) := by decide +kernel
theorem dX8_swings_57 : decode cX8_swings 57 = .ok (.iinc 4 1, 3) := by decide +kernel
theorem dX8_swings_60 : decode cX8_swings 60 = .ok (.iinc 5 1, 3) := by decide +kernel
theorem dX8_swings_63 : decode cX8_swings 63 = .ok (.goto (-37), 3) := by decide +kernel
theorem dX8_swings_66 : decode cX8_swings 66 = .ok (.iload 4, 2) := by decide +kernel
theorem dX8_swings_68 : decode cX8_swings 68 = .ok (.ireturn, 1) := by decide +kernel
set_option maxRecDepth 20000 in
theorem ggX8_lot_X8_refusalFor : GoodIn wsX8_lot wsX8_refusalFor := goodIn_r _ [6, 7, 8, 9, 10, 5, 11, 1, 12, 13, 14, 15, 16, 17, 18, 19, 20, 75, 76, 77, 78, 79, 80, 81, 82, 83, 84, 85, 86, 87, 88, 89, 90, 91, 92, 93, 94] (by decide +kernel) (by decide +kernel)
set_option maxRecDepth 20000 in
theorem gX8_lot_X8_refusalFor : GoodIn wsX8_lot (wsV RX8 179 RX8 yX8_refusalFor wsX8_refusalFor) := goodIn_app (goodIn_of _ (by decide +kernel)) ggX8_lot_X8_refusalFor
set_option maxRecDepth 20000 in
theorem ggX8_lot_X8_othersThan : GoodIn wsX8_lot wsX8_othersThan := goodIn_r _ [24, 1, 7, 25, 26, 27, 28, 29, 30, 31, 32, 5, 33, 34, 75, 76, 77, 78, 79, 80, 81, 82, 91, 92, 93, 94, 83, 84, 85, 86, 87, 88, 89, 90] (by decide +kernel) (by decide +kernel)
set_option maxRecDepth 20000 in
theorem gX8_lot_X8_othersThan : GoodIn wsX8_lot (wsV RX8 204 RX8 yX8_othersThan wsX8_othersThan) := goodIn_app (goodIn_of _ (by decide +kernel)) ggX8_lot_X8_othersThan
set_option maxRecDepth 20000 in
theorem ggX8_lot_J6_bitCount_0f7a4 : GoodIn wsX8_lot wsJ6_bitCount_0f7a4 := goodIn_r _ [38, 39, 40, 41] (by decide +kernel) (by decide +kernel)
set_option maxRecDepth 20000 in
theorem gX8_lot_J6_bitCount_0f7a4 : GoodIn wsX8_lot (va_wsS RX8 216 yJ6_bitCount_0f7a4 wsJ6_bitCount_0f7a4) := goodIn_app (goodIn_of _ (by decide +kernel)) ggX8_lot_J6_bitCount_0f7a4
set_option maxRecDepth 20000 in
theorem ggX8_lot_X5_all : GoodIn wsX8_lot wsX5_all := goodIn_r _ [30, 31, 32, 5, 33, 83, 84, 85, 86, 87, 88, 89, 90] (by decide +kernel) (by decide +kernel)
set_option maxRecDepth 20000 in
theorem gX8_lot_X5_all : GoodIn wsX8_lot (wsV RX8 207 RX5 yX5_all wsX5_all) := goodIn_app (goodIn_of _ (by decide +kernel)) ggX8_lot_X5_all
set_option maxRecDepth 20000 in
theorem ggX8_lot_X8_isWithin : GoodIn wsX8_lot wsX8_isWithin := goodIn_r _ [44] (by decide +kernel) (by decide +kernel)
set_option maxRecDepth 20000 in
theorem gX8_lot_X8_isWithin : GoodIn wsX8_lot (va_wsS RX8 210 yX8_isWithin wsX8_isWithin) := goodIn_app (goodIn_of _ (by decide +kernel)) ggX8_lot_X8_isWithin
set_option maxRecDepth 20000 in
theorem ggX8_lot_X8_isSwing : GoodIn wsX8_lot wsX8_isSwing := goodIn_r _ [48, 7, 1, 49, 50, 51, 52, 16, 53, 54, 55, 56, 57, 29, 58, 31, 19, 5, 20, 59, 60, 61, 62, 63, 64, 75, 76, 77, 78, 79, 80, 81, 82, 83, 84, 85, 86, 87, 88, 89, 90, 91, 92, 93, 94] (by decide +kernel) (by decide +kernel)
set_option maxRecDepth 20000 in
theorem gX8_lot_X8_isSwing : GoodIn wsX8_lot (wsV RX8 213 RX8 yX8_isSwing wsX8_isSwing) := goodIn_app (goodIn_of _ (by decide +kernel)) ggX8_lot_X8_isSwing
set_option maxRecDepth 20000 in
theorem ggX8_lot_X8_factorial : GoodIn wsX8_lot wsX8_factorial := goodIn_r _ [67, 68] (by decide +kernel) (by decide +kernel)
set_option maxRecDepth 20000 in
theorem gX8_lot_X8_factorial : GoodIn wsX8_lot (va_wsS RX8 221 yX8_factorial wsX8_factorial) := goodIn_app (goodIn_of _ (by decide +kernel)) ggX8_lot_X8_factorial
set_option maxRecDepth 20000 in
theorem ggX8_lot_X8_partOf : GoodIn wsX8_lot wsX8_partOf := goodIn_r _ [71, 72, 73, 5, 74] (by decide +kernel) (by decide +kernel)
set_option maxRecDepth 20000 in
theorem gX8_lot_X8_partOf : GoodIn wsX8_lot (va_wsS RX8 224 yX8_partOf wsX8_partOf) := goodIn_app (goodIn_of _ (by decide +kernel)) ggX8_lot_X8_partOf
theorem dX8_lot_0 : decode cX8_lot 0 = .ok (.aload_n 0, 1) := by decide +kernel
theorem dX8_lot_1 : decode cX8_lot 1 = .ok (.iload_n 1, 1) := by decide +kernel
theorem dX8_lot_2 : decode cX8_lot 2 = .ok (.iload_n 2, 1) := by decide +kernel
theorem dX8_lot_3 : decode cX8_lot 3 = .ok (.iconst 1, 1) := by decide +kernel
theorem dX8_lot_4 : decode cX8_lot 4 = .ok (.invokevirtual 179, 3) := by decide +kernel
theorem dX8_lot_7 : decode cX8_lot 7 = .ok (.istore_n 3, 1) := by decide +kernel
theorem dX8_lot_8 : decode cX8_lot 8 = .ok (.iload_n 3, 1) := by decide +kernel
theorem dX8_lot_9 : decode cX8_lot 9 = .ok (.ifCond .eq 5, 3) := by decide +kernel
theorem dX8_lot_12 : decode cX8_lot 12 = .ok (.iload_n 3, 1) := by decide +kernel
theorem dX8_lot_13 : decode cX8_lot 13 = .ok (.ireturn, 1) := by decide +kernel
theorem dX8_lot_14 : decode cX8_lot 14 = .ok (.aload_n 0, 1) := by decide +kernel
theorem dX8_lot_15 : decode cX8_lot 15 = .ok (.iload_n 1, 1) := by decide +kernel
theorem dX8_lot_16 : decode cX8_lot 16 = .ok (.invokevirtual 204, 3) := by decide +kernel
theorem dX8_lot_19 : decode cX8_lot 19 = .ok (.istore 4, 2) := by decide +kernel
theorem dX8_lot_21 : decode cX8_lot 21 = .ok (.iload 4, 2) := by decide +kernel
theorem dX8_lot_23 : decode cX8_lot 23 = .ok (.invokestatic 216, 3) := by decide +kernel
theorem dX8_lot_26 : decode cX8_lot 26 = .ok (.istore 5, 2) := by decide +kernel
theorem dX8_lot_28 : decode cX8_lot 28 = .ok (.iconst 0, 1) := by decide +kernel
theorem dX8_lot_29 : decode cX8_lot 29 = .ok (.istore 6, 2) := by decide +kernel
theorem dX8_lot_31 : decode cX8_lot 31 = .ok (.iconst 0, 1) := by decide +kernel
theorem dX8_lot_32 : decode cX8_lot 32 = .ok (.istore 7, 2) := by decide +kernel
theorem dX8_lot_34 : decode cX8_lot 34 = .ok (.iload 7, 2) := by decide +kernel
theorem dX8_lot_36 : decode cX8_lot 36 = .ok (.aload_n 0, 1) := by decide +kernel
theorem dX8_lot_37 : decode cX8_lot 37 = .ok (.getfield 24, 3) := by decide +kernel
theorem dX8_lot_40 : decode cX8_lot 40 = .ok (.invokevirtual 207, 3) := by decide +kernel
theorem dX8_lot_43 : decode cX8_lot 43 = .ok (.if_icmp .gt 55, 3) := by decide +kernel
theorem dX8_lot_46 : decode cX8_lot 46 = .ok (.iload 7, 2) := by decide +kernel
theorem dX8_lot_48 : decode cX8_lot 48 = .ok (.iload 4, 2) := by decide +kernel
theorem dX8_lot_50 : decode cX8_lot 50 = .ok (.invokestatic 210, 3) := by decide +kernel
theorem dX8_lot_53 : decode cX8_lot 53 = .ok (.ifCond .eq 39, 3) := by decide +kernel
theorem dX8_lot_56 : decode cX8_lot 56 = .ok (.aload_n 0, 1) := by decide +kernel
theorem dX8_lot_57 : decode cX8_lot 57 = .ok (.iload 7, 2) := by decide +kernel
theorem dX8_lot_59 : decode cX8_lot 59 = .ok (.iload_n 1, 1) := by decide +kernel
theorem dX8_lot_60 : decode cX8_lot 60 = .ok (.invokevirtual 213, 3) := by decide +kernel
theorem dX8_lot_63 : decode cX8_lot 63 = .ok (.ifCond .eq 29, 3) := by decide +kernel
theorem dX8_lot_66 : decode cX8_lot 66 = .ok (.iload 7, 2) := by decide +kernel
theorem dX8_lot_68 : decode cX8_lot 68 = .ok (.invokestatic 216, 3) := by decide +kernel
theorem dX8_lot_71 : decode cX8_lot 71 = .ok (.istore 8, 2) := by decide +kernel
theorem dX8_lot_73 : decode cX8_lot 73 = .ok (.iload 6, 2) := by decide +kernel
theorem dX8_lot_75 : decode cX8_lot 75 = .ok (.iload 8, 2) := by decide +kernel
theorem dX8_lot_77 : decode cX8_lot 77 = .ok (.invokestatic 221, 3) := by decide +kernel
theorem dX8_lot_80 : decode cX8_lot 80 = .ok (.iload 5, 2) := by decide +kernel
theorem dX8_lot_82 : decode cX8_lot 82 = .ok (.iload 8, 2) := by decide +kernel
theorem dX8_lot_84 : decode cX8_lot 84 = .ok (.isub, 1) := by decide +kernel
theorem dX8_lot_85 : decode cX8_lot 85 = .ok (.invokestatic 221, 3) := by decide +kernel
theorem dX8_lot_88 : decode cX8_lot 88 = .ok (.imul, 1) := by decide +kernel
theorem dX8_lot_89 : decode cX8_lot 89 = .ok (.iadd, 1) := by decide +kernel
theorem dX8_lot_90 : decode cX8_lot 90 = .ok (.istore 6, 2) := by decide +kernel
theorem dX8_lot_92 : decode cX8_lot 92 = .ok (.iinc 7 1, 3) := by decide +kernel
theorem dX8_lot_95 : decode cX8_lot 95 = .ok (.goto (-61), 3) := by decide +kernel
theorem dX8_lot_98 : decode cX8_lot 98 = .ok (.iload 6, 2) := by decide +kernel
theorem dX8_lot_100 : decode cX8_lot 100 = .ok (.iload 5, 2) := by decide +kernel
theorem dX8_lot_102 : decode cX8_lot 102 = .ok (.iconst 1, 1) := by decide +kernel
theorem dX8_lot_103 : decode cX8_lot 103 = .ok (.iadd, 1) := by decide +kernel
theorem dX8_lot_104 : decode cX8_lot 104 = .ok (.invokestatic 221, 3) := by decide +kernel
theorem dX8_lot_107 : decode cX8_lot 107 = .ok (.iload_n 2, 1) := by decide +kernel
theorem dX8_lot_108 : decode cX8_lot 108 = .ok (.invokestatic 224, 3) := by decide +kernel
theorem dX8_lot_111 : decode cX8_lot 111 = .ok (.ireturn, 1) := by decide +kernel
set_option maxRecDepth 20000 in
theorem ggX8_win_X8_refusalFor : GoodIn wsX8_win wsX8_refusalFor := goodIn_r _ [7, 1, 8, 9, 10, 6, 11, 2, 12, 13, 14, 15, 16, 17, 18, 19, 20, 84, 85, 86, 87, 88, 89, 90, 91, 92, 93, 94, 95, 96, 97, 98, 99, 100, 101, 102, 103] (by decide +kernel) (by decide +kernel)
set_option maxRecDepth 20000 in
theorem gX8_win_X8_refusalFor : GoodIn wsX8_win (wsV RX8 179 RX8 yX8_refusalFor wsX8_refusalFor) := goodIn_app (goodIn_of _ (by decide +kernel)) ggX8_win_X8_refusalFor
set_option maxRecDepth 20000 in
theorem ggX8_win_X7_doneUpFor : GoodIn wsX8_win wsX7_doneUpFor := goodIn_r _ [24, 25, 18, 26, 14, 15, 16, 17, 19, 6, 20, 27, 28, 100, 101, 102, 103] (by decide +kernel) (by decide +kernel)
set_option maxRecDepth 20000 in
theorem gX8_win_X7_doneUpFor : GoodIn wsX8_win (wsV RX8 117 RX7 yX7_doneUpFor wsX7_doneUpFor) := goodIn_app (goodIn_of _ (by decide +kernel)) ggX8_win_X7_doneUpFor
set_option maxRecDepth 20000 in
theorem ggX8_win_X8_othersThan : GoodIn wsX8_win wsX8_othersThan := goodIn_r _ [32, 2, 1, 33, 34, 35, 36, 37, 38, 39, 27, 6, 28, 40, 84, 85, 86, 87, 88, 89, 90, 91, 100, 101, 102, 103, 92, 93, 94, 95, 96, 97, 98, 99] (by decide +kernel) (by decide +kernel)
set_option maxRecDepth 20000 in
theorem gX8_win_X8_othersThan : GoodIn wsX8_win (wsV RX8 204 RX8 yX8_othersThan wsX8_othersThan) := goodIn_app (goodIn_of _ (by decide +kernel)) ggX8_win_X8_othersThan
set_option maxRecDepth 20000 in
theorem ggX8_win_X5_all : GoodIn wsX8_win wsX5_all := goodIn_r _ [38, 39, 27, 6, 28, 92, 93, 94, 95, 96, 97, 98, 99] (by decide +kernel) (by decide +kernel)
set_option maxRecDepth 20000 in
theorem gX8_win_X5_all : GoodIn wsX8_win (wsV RX8 207 RX5 yX5_all wsX5_all) := goodIn_app (goodIn_of _ (by decide +kernel)) ggX8_win_X5_all
set_option maxRecDepth 20000 in
theorem ggX8_win_X8_isWithin : GoodIn wsX8_win wsX8_isWithin := goodIn_r _ [43] (by decide +kernel) (by decide +kernel)
set_option maxRecDepth 20000 in
theorem gX8_win_X8_isWithin : GoodIn wsX8_win (va_wsS RX8 210 yX8_isWithin wsX8_isWithin) := goodIn_app (goodIn_of _ (by decide +kernel)) ggX8_win_X8_isWithin
set_option maxRecDepth 20000 in
theorem ggX8_win_X8_isWonBy : GoodIn wsX8_win wsX8_isWonBy := goodIn_r _ [47, 2, 1, 48, 49, 50, 51, 16, 52, 53, 54, 55, 56, 37, 57, 58, 59, 60, 61, 62, 39, 19, 6, 20, 63, 64, 65, 66, 67, 68, 69, 70, 71, 72, 73, 74, 75, 76, 77, 78, 84, 85, 86, 87, 88, 89, 90, 91, 100, 101, 102, 103, 92, 93, 94, 95, 96, 97, 98, 99] (by decide +kernel) (by decide +kernel)
set_option maxRecDepth 20000 in
theorem gX8_win_X8_isWonBy : GoodIn wsX8_win (wsV RX8 227 RX8 yX8_isWonBy wsX8_isWonBy) := goodIn_app (goodIn_of _ (by decide +kernel)) ggX8_win_X8_isWonBy
set_option maxRecDepth 20000 in
theorem ggX8_win_X5_priceOfSet : GoodIn wsX8_win wsX5_priceOfSet := goodIn_r _ [82, 39, 83, 19, 6, 20, 92, 93, 94, 95, 96, 97, 98, 99] (by decide +kernel) (by decide +kernel)
set_option maxRecDepth 20000 in
theorem gX8_win_X5_priceOfSet : GoodIn wsX8_win (wsV RX8 230 RX5 yX5_priceOfSet wsX5_priceOfSet) := goodIn_app (goodIn_of _ (by decide +kernel)) ggX8_win_X5_priceOfSet
theorem dX8_win_0 : decode cX8_win 0 = .ok (.aload_n 0, 1) := by decide +kernel
theorem dX8_win_1 : decode cX8_win 1 = .ok (.iload_n 1, 1) := by decide +kernel
theorem dX8_win_2 : decode cX8_win 2 = .ok (.iload_n 2, 1) := by decide +kernel
theorem dX8_win_3 : decode cX8_win 3 = .ok (.iconst 1, 1) := by decide +kernel
theorem dX8_win_4 : decode cX8_win 4 = .ok (.invokevirtual 179, 3) := by decide +kernel
theorem dX8_win_7 : decode cX8_win 7 = .ok (.istore_n 3, 1) := by decide +kernel
theorem dX8_win_8 : decode cX8_win 8 = .ok (.iload_n 3, 1) := by decide +kernel
theorem dX8_win_9 : decode cX8_win 9 = .ok (.ifCond .eq 5, 3) := by decide +kernel
theorem dX8_win_12 : decode cX8_win 12 = .ok (.iload_n 3, 1) := by decide +kernel
theorem dX8_win_13 : decode cX8_win 13 = .ok (.ireturn, 1) := by decide +kernel
theorem dX8_win_14 : decode cX8_win 14 = .ok (.aload_n 0, 1) := by decide +kernel
theorem dX8_win_15 : decode cX8_win 15 = .ok (.getfield 31, 3) := by decide +kernel
theorem dX8_win_18 : decode cX8_win 18 = .ok (.iload_n 1, 1) := by decide +kernel
theorem dX8_win_19 : decode cX8_win 19 = .ok (.invokevirtual 117, 3) := by decide +kernel
theorem dX8_win_22 : decode cX8_win 22 = .ok (.istore 4, 2) := by decide +kernel
theorem dX8_win_24 : decode cX8_win 24 = .ok (.aload_n 0, 1) := by decide +kernel
theorem dX8_win_25 : decode cX8_win 25 = .ok (.iload_n 1, 1) := by decide +kernel
theorem dX8_win_26 : decode cX8_win 26 = .ok (.invokevirtual 204, 3) := by decide +kernel
theorem dX8_win_29 : decode cX8_win 29 = .ok (.iload 4, 2) := by decide +kernel
theorem dX8_win_31 : decode cX8_win 31 = .ok (.iconst (-1), 1) := by decide +kernel
theorem dX8_win_32 : decode cX8_win 32 = .ok (.ixor, 1) := by decide +kernel
theorem dX8_win_33 : decode cX8_win 33 = .ok (.iand, 1) := by decide +kernel
theorem dX8_win_34 : decode cX8_win 34 = .ok (.istore 5, 2) := by decide +kernel
theorem dX8_win_36 : decode cX8_win 36 = .ok (.iconst (-1), 1) := by decide +kernel
theorem dX8_win_37 : decode cX8_win 37 = .ok (.istore 6, 2) := by decide +kernel
theorem dX8_win_39 : decode cX8_win 39 = .ok (.iconst 0, 1) := by decide +kernel
theorem dX8_win_40 : decode cX8_win 40 = .ok (.istore 7, 2) := by decide +kernel
theorem dX8_win_42 : decode cX8_win 42 = .ok (.iconst 0, 1) := by decide +kernel
theorem dX8_win_43 : decode cX8_win 43 = .ok (.istore 8, 2) := by decide +kernel
theorem dX8_win_45 : decode cX8_win 45 = .ok (.iload 8, 2) := by decide +kernel
theorem dX8_win_47 : decode cX8_win 47 = .ok (.aload_n 0, 1) := by decide +kernel
theorem dX8_win_48 : decode cX8_win 48 = .ok (.getfield 24, 3) := by decide +kernel
theorem dX8_win_51 : decode cX8_win 51 = .ok (.invokevirtual 207, 3) := by decide +kernel
theorem dX8_win_54 : decode cX8_win 54 = .ok (.if_icmp .gt 66, 3) := by decide +kernel
theorem dX8_win_57 : decode cX8_win 57 = .ok (.iload 8, 2) := by decide +kernel
theorem dX8_win_59 : decode cX8_win 59 = .ok (.iload 5, 2) := by decide +kernel
theorem dX8_win_61 : decode cX8_win 61 = .ok (.invokestatic 210, 3) := by decide +kernel
theorem dX8_win_64 : decode cX8_win 64 = .ok (.ifCond .eq 50, 3) := by decide +kernel
theorem dX8_win_67 : decode cX8_win 67 = .ok (.aload_n 0, 1) := by decide +kernel
theorem dX8_win_68 : decode cX8_win 68 = .ok (.iload 4, 2) := by decide +kernel
theorem dX8_win_70 : decode cX8_win 70 = .ok (.iload 8, 2) := by decide +kernel
theorem dX8_win_72 : decode cX8_win 72 = .ok (.ior, 1) := by decide +kernel
theorem dX8_win_73 : decode cX8_win 73 = .ok (.invokevirtual 227, 3) := by decide +kernel
theorem dX8_win_76 : decode cX8_win 76 = .ok (.ifCond .ne 6, 3) := by decide +kernel
theorem dX8_win_79 : decode cX8_win 79 = .ok (.goto 35, 3) := by decide +kernel
theorem dX8_win_82 : decode cX8_win 82 = .ok (.aload_n 0, 1) := by decide +kernel
theorem dX8_win_83 : decode cX8_win 83 = .ok (.getfield 24, 3) := by decide +kernel
theorem dX8_win_86 : decode cX8_win 86 = .ok (.iload 8, 2) := by decide +kernel
theorem dX8_win_88 : decode cX8_win 88 = .ok (.invokevirtual 230, 3) := by decide +kernel
theorem dX8_win_91 : decode cX8_win 91 = .ok (.istore 9, 2) := by decide +kernel
theorem dX8_win_93 : decode cX8_win 93 = .ok (.iload 6, 2) := by decide +kernel
theorem dX8_win_95 : decode cX8_win 95 = .ok (.iconst (-1), 1) := by decide +kernel
theorem dX8_win_96 : decode cX8_win 96 = .ok (.if_icmp .eq 10, 3) := by decide +kernel
theorem dX8_win_99 : decode cX8_win 99 = .ok (.iload 9, 2) := by decide +kernel
theorem dX8_win_101 : decode cX8_win 101 = .ok (.iload 7, 2) := by decide +kernel
theorem dX8_win_103 : decode cX8_win 103 = .ok (.if_icmp .ge 11, 3) := by decide +kernel
theorem dX8_win_106 : decode cX8_win 106 = .ok (.iload 8, 2) := by decide +kernel
theorem dX8_win_108 : decode cX8_win 108 = .ok (.istore 6, 2) := by decide +kernel
theorem dX8_win_110 : decode cX8_win 110 = .ok (.iload 9, 2) := by decide +kernel
theorem dX8_win_112 : decode cX8_win 112 = .ok (.istore 7, 2) := by decide +kernel
theorem dX8_win_114 : decode cX8_win 114 = .ok (.iinc 8 1, 3) := by decide +kernel
theorem dX8_win_117 : decode cX8_win 117 = .ok (.goto (-72), 3) := by decide +kernel
theorem dX8_win_120 : decode cX8_win 120 = .ok (.iload 6, 2) := by decide +kernel
theorem dX8_win_122 : decode cX8_win 122 = .ok (.iconst (-1), 1) := by decide +kernel
theorem dX8_win_123 : decode cX8_win 123 = .ok (.if_icmp .eq 8, 3) := by decide +kernel
theorem dX8_win_126 : decode cX8_win 126 = .ok (.iload_n 2, 1) := by decide +kernel
theorem dX8_win_127 : decode cX8_win 127 = .ok (.iconst 1, 1) := by decide +kernel
theorem dX8_win_128 : decode cX8_win 128 = .ok (.if_icmp .ne 8, 3) := by decide +kernel
theorem dX8_win_131 : decode cX8_win 131 = .ok (.iload 6, 2) := by decide +kernel
theorem dX8_win_133 : decode cX8_win 133 = .ok (.goto 5, 3) := by decide +kernel
theorem dX8_win_136 : decode cX8_win 136 = .ok (.iload 7, 2) := by decide +kernel
theorem dX8_win_138 : decode cX8_win 138 = .ok (.ireturn, 1) := by decide +kernel
set_option maxRecDepth 20000 in
theorem ggX8_block_X8_refusalFor : GoodIn wsX8_block wsX8_refusalFor := goodIn_r _ [8, 2, 9, 10, 11, 7, 12, 1, 13, 14, 15, 16, 17, 18, 19, 20, 21, 57, 58, 59, 60, 61, 62, 63, 64, 69, 70, 71, 72, 73, 74, 75, 76, 65, 66, 67, 68] (by decide +kernel) (by decide +kernel)
set_option maxRecDepth 20000 in
theorem gX8_block_X8_refusalFor : GoodIn wsX8_block (wsV RX8 179 RX8 yX8_refusalFor wsX8_refusalFor) := goodIn_app (goodIn_of _ (by decide +kernel)) ggX8_block_X8_refusalFor
set_option maxRecDepth 20000 in
theorem ggX8_block_X8_othersThan : GoodIn wsX8_block wsX8_othersThan := goodIn_r _ [25, 1, 2, 26, 27, 28, 29, 30, 31, 32, 33, 7, 34, 35, 57, 58, 59, 60, 61, 62, 63, 64, 65, 66, 67, 68, 69, 70, 71, 72, 73, 74, 75, 76] (by decide +kernel) (by decide +kernel)
set_option maxRecDepth 20000 in
theorem gX8_block_X8_othersThan : GoodIn wsX8_block (wsV RX8 204 RX8 yX8_othersThan wsX8_othersThan) := goodIn_app (goodIn_of _ (by decide +kernel)) ggX8_block_X8_othersThan
set_option maxRecDepth 20000 in
theorem ggX8_block_X8_bit : GoodIn wsX8_block wsX8_bit := goodIn_r _ [34] (by decide +kernel) (by decide +kernel)
set_option maxRecDepth 20000 in
theorem gX8_block_X8_bit : GoodIn wsX8_block (va_wsS RX8 233 yX8_bit wsX8_bit) := goodIn_app (goodIn_of _ (by decide +kernel)) ggX8_block_X8_bit
set_option maxRecDepth 20000 in
theorem ggX8_block_X5_coldOn : GoodIn wsX8_block wsX5_coldOn := goodIn_r _ [39, 40, 41, 69, 70, 71, 72, 73, 74, 75, 76] (by decide +kernel) (by decide +kernel)
set_option maxRecDepth 20000 in
theorem gX8_block_X5_coldOn : GoodIn wsX8_block (wsV RX8 236 RX5 yX5_coldOn wsX5_coldOn) := goodIn_app (goodIn_of _ (by decide +kernel)) ggX8_block_X5_coldOn
set_option maxRecDepth 20000 in
theorem ggX8_block_X5_all : GoodIn wsX8_block wsX5_all := goodIn_r _ [31, 32, 33, 7, 34, 69, 70, 71, 72, 73, 74, 75, 76] (by decide +kernel) (by decide +kernel)
set_option maxRecDepth 20000 in
theorem gX8_block_X5_all : GoodIn wsX8_block (wsV RX8 207 RX5 yX5_all wsX5_all) := goodIn_app (goodIn_of _ (by decide +kernel)) ggX8_block_X5_all
set_option maxRecDepth 20000 in
theorem ggX8_block_J6_bitCount_0f7a4 : GoodIn wsX8_block wsJ6_bitCount_0f7a4 := goodIn_r _ [45, 46, 47, 48] (by decide +kernel) (by decide +kernel)
set_option maxRecDepth 20000 in
theorem gX8_block_J6_bitCount_0f7a4 : GoodIn wsX8_block (va_wsS RX8 216 yJ6_bitCount_0f7a4 wsJ6_bitCount_0f7a4) := goodIn_app (goodIn_of _ (by decide +kernel)) ggX8_block_J6_bitCount_0f7a4
set_option maxRecDepth 20000 in
theorem ggX8_block_X8_isWithin : GoodIn wsX8_block wsX8_isWithin := goodIn_r _ [51] (by decide +kernel) (by decide +kernel)
set_option maxRecDepth 20000 in
theorem gX8_block_X8_isWithin : GoodIn wsX8_block (va_wsS RX8 210 yX8_isWithin wsX8_isWithin) := goodIn_app (goodIn_of _ (by decide +kernel)) ggX8_block_X8_isWithin
set_option maxRecDepth 20000 in
theorem ggX8_block_X5_warmthOfSet : GoodIn wsX8_block wsX5_warmthOfSet := goodIn_r _ [55, 32, 56, 20, 7, 21, 69, 70, 71, 72, 73, 74, 75, 76] (by decide +kernel) (by decide +kernel)
set_option maxRecDepth 20000 in
theorem gX8_block_X5_warmthOfSet : GoodIn wsX8_block (wsV RX8 176 RX5 yX5_warmthOfSet wsX5_warmthOfSet) := goodIn_app (goodIn_of _ (by decide +kernel)) ggX8_block_X5_warmthOfSet
theorem dX8_block_0 : decode cX8_block 0 = .ok (.aload_n 0, 1) := by decide +kernel
theorem dX8_block_1 : decode cX8_block 1 = .ok (.iload_n 1, 1) := by decide +kernel
theorem dX8_block_2 : decode cX8_block 2 = .ok (.iconst 0, 1) := by decide +kernel
theorem dX8_block_3 : decode cX8_block 3 = .ok (.iconst 0, 1) := by decide +kernel
theorem dX8_block_4 : decode cX8_block 4 = .ok (.invokevirtual 179, 3) := by decide +kernel
theorem dX8_block_7 : decode cX8_block 7 = .ok (.istore_n 2, 1) := by decide +kernel
theorem dX8_block_8 : decode cX8_block 8 = .ok (.iload_n 2, 1) := by decide +kernel
theorem dX8_block_9 : decode cX8_block 9 = .ok (.ifCond .eq 5, 3) := by decide +kernel
theorem dX8_block_12 : decode cX8_block 12 = .ok (.iload_n 2, 1) := by decide +kernel
theorem dX8_block_13 : decode cX8_block 13 = .ok (.ireturn, 1) := by decide +kernel
theorem dX8_block_14 : decode cX8_block 14 = .ok (.aload_n 0, 1) := by decide +kernel
theorem dX8_block_15 : decode cX8_block 15 = .ok (.iload_n 1, 1) := by decide +kernel
theorem dX8_block_16 : decode cX8_block 16 = .ok (.invokevirtual 204, 3) := by decide +kernel
theorem dX8_block_19 : decode cX8_block 19 = .ok (.istore_n 3, 1) := by decide +kernel
theorem dX8_block_20 : decode cX8_block 20 = .ok (.iload_n 3, 1) := by decide +kernel
theorem dX8_block_21 : decode cX8_block 21 = .ok (.iload_n 1, 1) := by decide +kernel
theorem dX8_block_22 : decode cX8_block 22 = .ok (.invokestatic 233, 3) := by decide +kernel
theorem dX8_block_25 : decode cX8_block 25 = .ok (.ior, 1) := by decide +kernel
theorem dX8_block_26 : decode cX8_block 26 = .ok (.istore 4, 2) := by decide +kernel
theorem dX8_block_28 : decode cX8_block 28 = .ok (.aload_n 0, 1) := by decide +kernel
theorem dX8_block_29 : decode cX8_block 29 = .ok (.getfield 24, 3) := by decide +kernel
theorem dX8_block_32 : decode cX8_block 32 = .ok (.aload_n 0, 1) := by decide +kernel
theorem dX8_block_33 : decode cX8_block 33 = .ok (.getfield 31, 3) := by decide +kernel
theorem dX8_block_36 : decode cX8_block 36 = .ok (.getfield 152, 3) := by decide +kernel
theorem dX8_block_39 : decode cX8_block 39 = .ok (.invokevirtual 236, 3) := by decide +kernel
theorem dX8_block_42 : decode cX8_block 42 = .ok (.istore 5, 2) := by decide +kernel
theorem dX8_block_44 : decode cX8_block 44 = .ok (.iconst (-1), 1) := by decide +kernel
theorem dX8_block_45 : decode cX8_block 45 = .ok (.istore 6, 2) := by decide +kernel
theorem dX8_block_47 : decode cX8_block 47 = .ok (.bipush 8, 2) := by decide +kernel
theorem dX8_block_49 : decode cX8_block 49 = .ok (.istore 7, 2) := by decide +kernel
theorem dX8_block_51 : decode cX8_block 51 = .ok (.iconst 0, 1) := by decide +kernel
theorem dX8_block_52 : decode cX8_block 52 = .ok (.istore 8, 2) := by decide +kernel
theorem dX8_block_54 : decode cX8_block 54 = .ok (.iload 8, 2) := by decide +kernel
theorem dX8_block_56 : decode cX8_block 56 = .ok (.aload_n 0, 1) := by decide +kernel
theorem dX8_block_57 : decode cX8_block 57 = .ok (.getfield 24, 3) := by decide +kernel
theorem dX8_block_60 : decode cX8_block 60 = .ok (.invokevirtual 207, 3) := by decide +kernel
theorem dX8_block_63 : decode cX8_block 63 = .ok (.if_icmp .gt 59, 3) := by decide +kernel
theorem dX8_block_66 : decode cX8_block 66 = .ok (.iload 8, 2) := by decide +kernel
theorem dX8_block_68 : decode cX8_block 68 = .ok (.invokestatic 216, 3) := by decide +kernel
theorem dX8_block_71 : decode cX8_block 71 = .ok (.istore 9, 2) := by decide +kernel
theorem dX8_block_73 : decode cX8_block 73 = .ok (.iload 8, 2) := by decide +kernel
theorem dX8_block_75 : decode cX8_block 75 = .ok (.iload_n 3, 1) := by decide +kernel
theorem dX8_block_76 : decode cX8_block 76 = .ok (.invokestatic 210, 3) := by decide +kernel
theorem dX8_block_79 : decode cX8_block 79 = .ok (.ifCond .eq 37, 3) := by decide +kernel
theorem dX8_block_82 : decode cX8_block 82 = .ok (.iload 9, 2) := by decide +kernel
theorem dX8_block_84 : decode cX8_block 84 = .ok (.iload 7, 2) := by decide +kernel
theorem dX8_block_86 : decode cX8_block 86 = .ok (.if_icmp .ge 30, 3) := by decide +kernel
theorem dX8_block_89 : decode cX8_block 89 = .ok (.aload_n 0, 1) := by decide +kernel
theorem dX8_block_90 : decode cX8_block 90 = .ok (.getfield 24, 3) := by decide +kernel
theorem dX8_block_93 : decode cX8_block 93 = .ok (.iload 4, 2) := by decide +kernel
theorem dX8_block_95 : decode cX8_block 95 = .ok (.iload 8, 2) := by decide +kernel
theorem dX8_block_97 : decode cX8_block 97 = .ok (.iconst (-1), 1) := by decide +kernel
theorem dX8_block_98 : decode cX8_block 98 = .ok (.ixor, 1) := by decide +kernel
theorem dX8_block_99 : decode cX8_block 99 = .ok (.iand, 1) := by decide +kernel
theorem dX8_block_100 : decode cX8_block 100 = .ok (.invokevirtual 176, 3) := by decide +kernel
theorem dX8_block_103 : decode cX8_block 103 = .ok (.iload 5, 2) := by decide +kernel
theorem dX8_block_105 : decode cX8_block 105 = .ok (.if_icmp .ge 11, 3) := by decide +kernel
theorem dX8_block_108 : decode cX8_block 108 = .ok (.iload 8, 2) := by decide +kernel
theorem dX8_block_110 : decode cX8_block 110 = .ok (.istore 6, 2) := by decide +kernel
theorem dX8_block_112 : decode cX8_block 112 = .ok (.iload 9, 2) := by decide +kernel
theorem dX8_block_114 : decode cX8_block 114 = .ok (.istore 7, 2) := by decide +kernel
theorem dX8_block_116 : decode cX8_block 116 = .ok (.iinc 8 1, 3) := by decide +kernel
theorem dX8_block_119 : decode cX8_block 119 = .ok (.goto (-65), 3) := by decide +kernel
theorem dX8_block_122 : decode cX8_block 122 = .ok (.iload 6, 2) := by decide +kernel
theorem dX8_block_124 : decode cX8_block 124 = .ok (.ireturn, 1) := by decide +kernel
set_option maxRecDepth 20000 in
theorem ggX8_wrong_X8_refusalFor : GoodIn wsX8_wrong wsX8_refusalFor := goodIn_r _ [7, 2, 8, 9, 10, 6, 11, 1, 12, 13, 14, 15, 16, 17, 18, 19, 20, 40, 41, 42, 43, 44, 45, 46, 47, 48, 49, 50, 51, 52, 53, 54, 55, 56, 57, 58, 59] (by decide +kernel) (by decide +kernel)
set_option maxRecDepth 20000 in
theorem gX8_wrong_X8_refusalFor : GoodIn wsX8_wrong (wsV RX8 179 RX8 yX8_refusalFor wsX8_refusalFor) := goodIn_app (goodIn_of _ (by decide +kernel)) ggX8_wrong_X8_refusalFor
set_option maxRecDepth 20000 in
theorem ggX8_wrong_X7_doneUpFor : GoodIn wsX8_wrong wsX7_doneUpFor := goodIn_r _ [24, 25, 18, 26, 14, 15, 16, 17, 19, 6, 20, 27, 28, 56, 57, 58, 59] (by decide +kernel) (by decide +kernel)
set_option maxRecDepth 20000 in
theorem gX8_wrong_X7_doneUpFor : GoodIn wsX8_wrong (wsV RX8 117 RX7 yX7_doneUpFor wsX7_doneUpFor) := goodIn_app (goodIn_of _ (by decide +kernel)) ggX8_wrong_X7_doneUpFor
set_option maxRecDepth 20000 in
theorem ggX8_wrong_X5_all : GoodIn wsX8_wrong wsX5_all := goodIn_r _ [33, 34, 27, 6, 28, 48, 49, 50, 51, 52, 53, 54, 55] (by decide +kernel) (by decide +kernel)
set_option maxRecDepth 20000 in
theorem gX8_wrong_X5_all : GoodIn wsX8_wrong (wsV RX8 207 RX5 yX5_all wsX5_all) := goodIn_app (goodIn_of _ (by decide +kernel)) ggX8_wrong_X5_all
set_option maxRecDepth 20000 in
theorem ggX8_wrong_X5_warmthOfSet : GoodIn wsX8_wrong wsX5_warmthOfSet := goodIn_r _ [38, 34, 39, 19, 6, 20, 48, 49, 50, 51, 52, 53, 54, 55] (by decide +kernel) (by decide +kernel)
set_option maxRecDepth 20000 in
theorem gX8_wrong_X5_warmthOfSet : GoodIn wsX8_wrong (wsV RX8 176 RX5 yX5_warmthOfSet wsX5_warmthOfSet) := goodIn_app (goodIn_of _ (by decide +kernel)) ggX8_wrong_X5_warmthOfSet
theorem dX8_wrong_0 : decode cX8_wrong 0 = .ok (.aload_n 0, 1) := by decide +kernel
theorem dX8_wrong_1 : decode cX8_wrong 1 = .ok (.iload_n 1, 1) := by decide +kernel
theorem dX8_wrong_2 : decode cX8_wrong 2 = .ok (.iconst 0, 1) := by decide +kernel
theorem dX8_wrong_3 : decode cX8_wrong 3 = .ok (.iconst 0, 1) := by decide +kernel
theorem dX8_wrong_4 : decode cX8_wrong 4 = .ok (.invokevirtual 179, 3) := by decide +kernel
theorem dX8_wrong_7 : decode cX8_wrong 7 = .ok (.istore_n 2, 1) := by decide +kernel
theorem dX8_wrong_8 : decode cX8_wrong 8 = .ok (.iload_n 2, 1) := by decide +kernel
theorem dX8_wrong_9 : decode cX8_wrong 9 = .ok (.ifCond .eq 5, 3) := by decide +kernel
theorem dX8_wrong_12 : decode cX8_wrong 12 = .ok (.iload_n 2, 1) := by decide +kernel
theorem dX8_wrong_13 : decode cX8_wrong 13 = .ok (.ireturn, 1) := by decide +kernel
theorem dX8_wrong_14 : decode cX8_wrong 14 = .ok (.aload_n 0, 1) := by decide +kernel
theorem dX8_wrong_15 : decode cX8_wrong 15 = .ok (.getfield 24, 3) := by decide +kernel
theorem dX8_wrong_18 : decode cX8_wrong 18 = .ok (.aload_n 0, 1) := by decide +kernel
theorem dX8_wrong_19 : decode cX8_wrong 19 = .ok (.getfield 31, 3) := by decide +kernel
theorem dX8_wrong_22 : decode cX8_wrong 22 = .ok (.iload_n 1, 1) := by decide +kernel
theorem dX8_wrong_23 : decode cX8_wrong 23 = .ok (.invokevirtual 117, 3) := by decide +kernel
theorem dX8_wrong_26 : decode cX8_wrong 26 = .ok (.iconst 1, 1) := by decide +kernel
theorem dX8_wrong_27 : decode cX8_wrong 27 = .ok (.ishl, 1) := by decide +kernel
theorem dX8_wrong_28 : decode cX8_wrong 28 = .ok (.aload_n 0, 1) := by decide +kernel
theorem dX8_wrong_29 : decode cX8_wrong 29 = .ok (.getfield 24, 3) := by decide +kernel
theorem dX8_wrong_32 : decode cX8_wrong 32 = .ok (.invokevirtual 207, 3) := by decide +kernel
theorem dX8_wrong_35 : decode cX8_wrong 35 = .ok (.iand, 1) := by decide +kernel
theorem dX8_wrong_36 : decode cX8_wrong 36 = .ok (.invokevirtual 176, 3) := by decide +kernel
theorem dX8_wrong_39 : decode cX8_wrong 39 = .ok (.ireturn, 1) := by decide +kernel
set_option maxRecDepth 20000 in
theorem ggX8_turns_X3_find : GoodIn wsX8_turns wsX3_find := goodIn_r _ [11, 12, 13, 14, 15, 16, 17, 18, 19, 20, 21, 22, 23, 24, 25, 26, 27, 28, 29, 30, 10, 31, 32, 33, 34, 35, 36, 37, 38, 39, 40, 41, 42, 43, 44, 45, 46, 47, 48, 49, 50, 51, 52, 53, 54, 55, 56, 57, 58, 59, 60, 61, 62, 63, 64, 65, 66, 67, 68, 69, 70, 71, 72, 73, 74, 75, 76, 77, 78, 79, 80, 81, 82, 83, 84, 85, 86, 87, 88, 89, 90, 91, 92, 93, 94, 95, 96, 97, 98, 99, 100, 101, 102, 103, 104, 105, 106, 107, 108, 109, 110, 111, 112, 113, 114, 115, 116, 117, 118, 127, 128, 129, 130, 131, 132, 133, 134, 135, 136, 137, 138, 139, 140, 141, 142, 143] (by decide +kernel) (by decide +kernel)
set_option maxRecDepth 20000 in
theorem gX8_turns_X3_find : GoodIn wsX8_turns (wsV RX8 239 RX3 yX3_find wsX3_find) := goodIn_app (goodIn_of _ (by decide +kernel)) ggX8_turns_X3_find
theorem dX8_turns_0 : decode cX8_turns 0 = .ok (.iload_n 1, 1) := by decide +kernel
theorem dX8_turns_1 : decode cX8_turns 1 = .ok (.ifCond .lt 18, 3) := by decide +kernel
theorem dX8_turns_4 : decode cX8_turns 4 = .ok (.iload_n 1, 1) := by decide +kernel
theorem dX8_turns_5 : decode cX8_turns 5 = .ok (.iconst 4, 1) := by decide +kernel
theorem dX8_turns_6 : decode cX8_turns 6 = .ok (.if_icmp .gt 13, 3) := by decide +kernel
theorem dX8_turns_9 : decode cX8_turns 9 = .ok (.iload_n 2, 1) := by decide +kernel
theorem dX8_turns_10 : decode cX8_turns 10 = .ok (.ifCond .lt 9, 3) := by decide +kernel
theorem dX8_turns_13 : decode cX8_turns 13 = .ok (.iload_n 2, 1) := by decide +kernel
theorem dX8_turns_14 : decode cX8_turns 14 = .ok (.bipush 6, 2) := by decide +kernel
theorem dX8_turns_16 : decode cX8_turns 16 = .ok (.if_icmp .lt 6, 3) := by decide +kernel
theorem dX8_turns_19 : decode cX8_turns 19 = .ok (.bipush (-3), 2) := by decide +kernel
theorem dX8_turns_21 : decode cX8_turns 21 = .ok (.ireturn, 1) := by decide +kernel
theorem dX8_turns_22 : decode cX8_turns 22 = .ok (.iload_n 2, 1) := by decide +kernel
theorem dX8_turns_23 : decode cX8_turns 23 = .ok (.iconst 2, 1) := by decide +kernel
theorem dX8_turns_24 : decode cX8_turns 24 = .ok (.iload_n 1, 1) := by decide +kernel
theorem dX8_turns_25 : decode cX8_turns 25 = .ok (.iadd, 1) := by decide +kernel
theorem dX8_turns_26 : decode cX8_turns 26 = .ok (.if_icmp .lt 5, 3) := by decide +kernel
theorem dX8_turns_29 : decode cX8_turns 29 = .ok (.iconst (-1), 1) := by decide +kernel
theorem dX8_turns_30 : decode cX8_turns 30 = .ok (.ireturn, 1) := by decide +kernel
theorem dX8_turns_31 : decode cX8_turns 31 = .ok (.aload_n 0, 1) := by decide +kernel
theorem dX8_turns_32 : decode cX8_turns 32 = .ok (.getfield 59, 3) := by decide +kernel
theorem dX8_turns_35 : decode cX8_turns 35 = .ok (.aload_n 0, 1) := by decide +kernel
theorem dX8_turns_36 : decode cX8_turns 36 = .ok (.getfield 24, 3) := by decide +kernel
theorem dX8_turns_39 : decode cX8_turns 39 = .ok (.aload_n 0, 1) := by decide +kernel
theorem dX8_turns_40 : decode cX8_turns 40 = .ok (.getfield 31, 3) := by decide +kernel
theorem dX8_turns_43 : decode cX8_turns 43 = .ok (.iload_n 1, 1) := by decide +kernel
theorem dX8_turns_44 : decode cX8_turns 44 = .ok (.invokevirtual 239, 3) := by decide +kernel
theorem dX8_turns_47 : decode cX8_turns 47 = .ok (.iload_n 2, 1) := by decide +kernel
theorem dX8_turns_48 : decode cX8_turns 48 = .ok (.lookupswitch 44 #[(0, 28), (1, 36)], 28) := by decide +kernel
theorem dX8_turns_76 : decode cX8_turns 76 = .ok (.aload_n 0, 1) := by decide +kernel
theorem dX8_turns_77 : decode cX8_turns 77 = .ok (.getfield 59, 3) := by decide +kernel
theorem dX8_turns_80 : decode cX8_turns 80 = .ok (.getfield 242, 3) := by decide +kernel
theorem dX8_turns_83 : decode cX8_turns 83 = .ok (.ireturn, 1) := by decide +kernel
theorem dX8_turns_84 : decode cX8_turns 84 = .ok (.aload_n 0, 1) := by decide +kernel
theorem dX8_turns_85 : decode cX8_turns 85 = .ok (.getfield 59, 3) := by decide +kernel
theorem dX8_turns_88 : decode cX8_turns 88 = .ok (.getfield 245, 3) := by decide +kernel
theorem dX8_turns_91 : decode cX8_turns 91 = .ok (.ireturn, 1) := by decide +kernel
theorem dX8_turns_92 : decode cX8_turns 92 = .ok (.aload_n 0, 1) := by decide +kernel
theorem dX8_turns_93 : decode cX8_turns 93 = .ok (.getfield 59, 3) := by decide +kernel
theorem dX8_turns_96 : decode cX8_turns 96 = .ok (.getfield 248, 3) := by decide +kernel
theorem dX8_turns_99 : decode cX8_turns 99 = .ok (.iload_n 2, 1) := by decide +kernel
theorem dX8_turns_100 : decode cX8_turns 100 = .ok (.iconst 2, 1) := by decide +kernel
theorem dX8_turns_101 : decode cX8_turns 101 = .ok (.isub, 1) := by decide +kernel
theorem dX8_turns_102 : decode cX8_turns 102 = .ok (.iaload, 1) := by decide +kernel
theorem dX8_turns_103 : decode cX8_turns 103 = .ok (.ireturn, 1) := by decide +kernel
set_option maxRecDepth 20000 in
theorem ggX8_seen_X8_isSet : GoodIn wsX8_seen wsX8_isSet := goodIn_r _ [7, 8, 9, 10, 11, 12, 13, 14, 15, 6, 16, 17, 18, 19, 32, 33, 34, 35, 36, 37, 38, 39, 44, 45, 46, 47, 48, 49, 50, 51] (by decide +kernel) (by decide +kernel)
set_option maxRecDepth 20000 in
theorem gX8_seen_X8_isSet : GoodIn wsX8_seen (wsV RX8 173 RX8 yX8_isSet wsX8_isSet) := goodIn_app (goodIn_of _ (by decide +kernel)) ggX8_seen_X8_isSet
set_option maxRecDepth 20000 in
theorem ggX8_seen_X8_isYesOrNo : GoodIn wsX8_seen wsX8_isYesOrNo := goodIn_r _ [22] (by decide +kernel) (by decide +kernel)
set_option maxRecDepth 20000 in
theorem gX8_seen_X8_isYesOrNo : GoodIn wsX8_seen (va_wsS RX8 132 yX8_isYesOrNo wsX8_isYesOrNo) := goodIn_app (goodIn_of _ (by decide +kernel)) ggX8_seen_X8_isYesOrNo
set_option maxRecDepth 20000 in
theorem ggX8_seen_X6_add : GoodIn wsX8_seen wsX6_add := goodIn_r _ [27, 28, 29, 30, 31, 40, 41, 42, 43] (by decide +kernel) (by decide +kernel)
set_option maxRecDepth 20000 in
theorem gX8_seen_X6_add : GoodIn wsX8_seen (wsV RX8 251 RX6 yX6_add wsX6_add) := goodIn_app (goodIn_of _ (by decide +kernel)) ggX8_seen_X6_add
theorem dX8_seen_0 : decode cX8_seen 0 = .ok (.aload_n 0, 1) := by decide +kernel
theorem dX8_seen_1 : decode cX8_seen 1 = .ok (.iload_n 1, 1) := by decide +kernel
theorem dX8_seen_2 : decode cX8_seen 2 = .ok (.invokevirtual 173, 3) := by decide +kernel
theorem dX8_seen_5 : decode cX8_seen 5 = .ok (.ifCond .ne 6, 3) := by decide +kernel
theorem dX8_seen_8 : decode cX8_seen 8 = .ok (.bipush (-2), 2) := by decide +kernel
theorem dX8_seen_10 : decode cX8_seen 10 = .ok (.ireturn, 1) := by decide +kernel
theorem dX8_seen_11 : decode cX8_seen 11 = .ok (.iload_n 2, 1) := by decide +kernel
theorem dX8_seen_12 : decode cX8_seen 12 = .ok (.invokestatic 132, 3) := by decide +kernel
theorem dX8_seen_15 : decode cX8_seen 15 = .ok (.ifCond .eq 10, 3) := by decide +kernel
theorem dX8_seen_18 : decode cX8_seen 18 = .ok (.iload_n 3, 1) := by decide +kernel
theorem dX8_seen_19 : decode cX8_seen 19 = .ok (.invokestatic 132, 3) := by decide +kernel
theorem dX8_seen_22 : decode cX8_seen 22 = .ok (.ifCond .ne 6, 3) := by decide +kernel
theorem dX8_seen_25 : decode cX8_seen 25 = .ok (.bipush (-3), 2) := by decide +kernel
theorem dX8_seen_27 : decode cX8_seen 27 = .ok (.ireturn, 1) := by decide +kernel
theorem dX8_seen_28 : decode cX8_seen 28 = .ok (.aload_n 0, 1) := by decide +kernel
theorem dX8_seen_29 : decode cX8_seen 29 = .ok (.getfield 45, 3) := by decide +kernel
theorem dX8_seen_32 : decode cX8_seen 32 = .ok (.getfield 90, 3) := by decide +kernel
theorem dX8_seen_35 : decode cX8_seen 35 = .ok (.bipush 6, 2) := by decide +kernel
theorem dX8_seen_37 : decode cX8_seen 37 = .ok (.if_icmp .lt 6, 3) := by decide +kernel
theorem dX8_seen_40 : decode cX8_seen 40 = .ok (.bipush (-5), 2) := by decide +kernel
theorem dX8_seen_42 : decode cX8_seen 42 = .ok (.ireturn, 1) := by decide +kernel
theorem dX8_seen_43 : decode cX8_seen 43 = .ok (.aload_n 0, 1) := by decide +kernel
theorem dX8_seen_44 : decode cX8_seen 44 = .ok (.getfield 45, 3) := by decide +kernel
theorem dX8_seen_47 : decode cX8_seen 47 = .ok (.iload_n 1, 1) := by decide +kernel
theorem dX8_seen_48 : decode cX8_seen 48 = .ok (.iload_n 2, 1) := by decide +kernel
theorem dX8_seen_49 : decode cX8_seen 49 = .ok (.iconst 1, 1) := by decide +kernel
theorem dX8_seen_50 : decode cX8_seen 50 = .ok (.if_icmp .ne 7, 3) := by decide +kernel
theorem dX8_seen_53 : decode cX8_seen 53 = .ok (.iconst 1, 1) := by decide +kernel
theorem dX8_seen_54 : decode cX8_seen 54 = .ok (.goto 4, 3) := by decide +kernel
theorem dX8_seen_57 : decode cX8_seen 57 = .ok (.iconst 0, 1) := by decide +kernel
theorem dX8_seen_58 : decode cX8_seen 58 = .ok (.iload_n 3, 1) := by decide +kernel
theorem dX8_seen_59 : decode cX8_seen 59 = .ok (.iconst 1, 1) := by decide +kernel
theorem dX8_seen_60 : decode cX8_seen 60 = .ok (.if_icmp .ne 7, 3) := by decide +kernel
theorem dX8_seen_63 : decode cX8_seen 63 = .ok (.iconst 1, 1) := by decide +kernel
theorem dX8_seen_64 : decode cX8_seen 64 = .ok (.goto 4, 3) := by decide +kernel
theorem dX8_seen_67 : decode cX8_seen 67 = .ok (.iconst 0, 1) := by decide +kernel
theorem dX8_seen_68 : decode cX8_seen 68 = .ok (.invokevirtual 251, 3) := by decide +kernel
theorem dX8_seen_71 : decode cX8_seen 71 = .ok (.aload_n 0, 1) := by decide +kernel
theorem dX8_seen_72 : decode cX8_seen 72 = .ok (.getfield 45, 3) := by decide +kernel
theorem dX8_seen_75 : decode cX8_seen 75 = .ok (.getfield 90, 3) := by decide +kernel
theorem dX8_seen_78 : decode cX8_seen 78 = .ok (.ireturn, 1) := by decide +kernel
theorem dX8_forget_0 : decode cX8_forget 0 = .ok (.aload_n 0, 1) := by decide +kernel
theorem dX8_forget_1 : decode cX8_forget 1 = .ok (.getfield 45, 3) := by decide +kernel
theorem dX8_forget_4 : decode cX8_forget 4 = .ok (.getfield 90, 3) := by decide +kernel
theorem dX8_forget_7 : decode cX8_forget 7 = .ok (.istore_n 1, 1) := by decide +kernel
theorem dX8_forget_8 : decode cX8_forget 8 = .ok (.aload_n 0, 1) := by decide +kernel
theorem dX8_forget_9 : decode cX8_forget 9 = .ok (.getfield 45, 3) := by decide +kernel
theorem dX8_forget_12 : decode cX8_forget 12 = .ok (.iconst 0, 1) := by decide +kernel
theorem dX8_forget_13 : decode cX8_forget 13 = .ok (.putfield 90, 3) := by decide +kernel
theorem dX8_forget_16 : decode cX8_forget 16 = .ok (.iload_n 1, 1) := by decide +kernel
theorem dX8_forget_17 : decode cX8_forget 17 = .ok (.ireturn, 1) := by decide +kernel
set_option maxRecDepth 20000 in
theorem ggX8_quotas_X6_agreeWith : GoodIn wsX8_quotas wsX6_agreeWith := goodIn_r _ [7, 8, 9, 10, 11, 12, 13, 14, 15, 16, 17, 18, 19, 20, 21, 22, 23, 24, 25, 37, 38, 39, 40, 41, 42, 43, 44, 45, 46, 47, 48] (by decide +kernel) (by decide +kernel)
set_option maxRecDepth 20000 in
theorem gX8_quotas_X6_agreeWith : GoodIn wsX8_quotas (wsV RX8 254 RX6 yX6_agreeWith wsX6_agreeWith) := goodIn_app (goodIn_of _ (by decide +kernel)) ggX8_quotas_X6_agreeWith
set_option maxRecDepth 20000 in
theorem ggX8_quotas_X8_bit : GoodIn wsX8_quotas wsX8_bit := goodIn_r _ [28] (by decide +kernel) (by decide +kernel)
set_option maxRecDepth 20000 in
theorem gX8_quotas_X8_bit : GoodIn wsX8_quotas (va_wsS RX8 233 yX8_bit wsX8_bit) := goodIn_app (goodIn_of _ (by decide +kernel)) ggX8_quotas_X8_bit
theorem dX8_quotas_0 : decode cX8_quotas 0 = .ok (.iconst 0, 1) := by decide +kernel
theorem dX8_quotas_1 : decode cX8_quotas 1 = .ok (.istore_n 1, 1) := by decide +kernel
theorem dX8_quotas_2 : decode cX8_quotas 2 = .ok (.iconst 1, 1) := by decide +kernel
theorem dX8_quotas_3 : decode cX8_quotas 3 = .ok (.istore_n 2, 1) := by decide +kernel
theorem dX8_quotas_4 : decode cX8_quotas 4 = .ok (.iload_n 2, 1) := by decide +kernel
theorem dX8_quotas_5 : decode cX8_quotas 5 = .ok (.bipush 20, 2) := by decide +kernel
theorem dX8_quotas_7 : decode cX8_quotas 7 = .ok (.if_icmp .gt 31, 3) := by decide +kernel
theorem dX8_quotas_10 : decode cX8_quotas 10 = .ok (.aload_n 0, 1) := by decide +kernel
theorem dX8_quotas_11 : decode cX8_quotas 11 = .ok (.getfield 45, 3) := by decide +kernel
theorem dX8_quotas_14 : decode cX8_quotas 14 = .ok (.aload_n 0, 1) := by decide +kernel
theorem dX8_quotas_15 : decode cX8_quotas 15 = .ok (.getfield 24, 3) := by decide +kernel
theorem dX8_quotas_18 : decode cX8_quotas 18 = .ok (.iload_n 2, 1) := by decide +kernel
theorem dX8_quotas_19 : decode cX8_quotas 19 = .ok (.invokevirtual 254, 3) := by decide +kernel
theorem dX8_quotas_22 : decode cX8_quotas 22 = .ok (.ifCond .eq 10, 3) := by decide +kernel
theorem dX8_quotas_25 : decode cX8_quotas 25 = .ok (.iload_n 1, 1) := by decide +kernel
theorem dX8_quotas_26 : decode cX8_quotas 26 = .ok (.iload_n 2, 1) := by decide +kernel
theorem dX8_quotas_27 : decode cX8_quotas 27 = .ok (.invokestatic 233, 3) := by decide +kernel
theorem dX8_quotas_30 : decode cX8_quotas 30 = .ok (.ior, 1) := by decide +kernel
theorem dX8_quotas_31 : decode cX8_quotas 31 = .ok (.istore_n 1, 1) := by decide +kernel
theorem dX8_quotas_32 : decode cX8_quotas 32 = .ok (.iinc 2 1, 3) := by decide +kernel
theorem dX8_quotas_35 : decode cX8_quotas 35 = .ok (.goto (-31), 3) := by decide +kernel
theorem dX8_quotas_38 : decode cX8_quotas 38 = .ok (.iload_n 1, 1) := by decide +kernel
theorem dX8_quotas_39 : decode cX8_quotas 39 = .ok (.ireturn, 1) := by decide +kernel
set_option maxRecDepth 20000 in
theorem ggX8_frosts_X8_isYesOrNo : GoodIn wsX8_frosts wsX8_isYesOrNo := goodIn_r _ [4] (by decide +kernel) (by decide +kernel)
set_option maxRecDepth 20000 in
theorem gX8_frosts_X8_isYesOrNo : GoodIn wsX8_frosts (va_wsS RX8 132 yX8_isYesOrNo wsX8_isYesOrNo) := goodIn_app (goodIn_of _ (by decide +kernel)) ggX8_frosts_X8_isYesOrNo
set_option maxRecDepth 20000 in
theorem ggX8_frosts_X8_waysOfFrosts : GoodIn wsX8_frosts wsX8_waysOfFrosts := goodIn_r _ [7, 8] (by decide +kernel) (by decide +kernel)
set_option maxRecDepth 20000 in
theorem gX8_frosts_X8_waysOfFrosts : GoodIn wsX8_frosts (va_wsS RX8 257 yX8_waysOfFrosts wsX8_waysOfFrosts) := goodIn_app (goodIn_of _ (by decide +kernel)) ggX8_frosts_X8_waysOfFrosts
set_option maxRecDepth 20000 in
theorem ggX8_frosts_X8_partOf : GoodIn wsX8_frosts wsX8_partOf := goodIn_r _ [11, 12, 13, 3, 14] (by decide +kernel) (by decide +kernel)
set_option maxRecDepth 20000 in
theorem gX8_frosts_X8_partOf : GoodIn wsX8_frosts (va_wsS RX8 224 yX8_partOf wsX8_partOf) := goodIn_app (goodIn_of _ (by decide +kernel)) ggX8_frosts_X8_partOf
theorem dX8_frosts_0 : decode cX8_frosts 0 = .ok (.iload_n 1, 1) := by decide +kernel
theorem dX8_frosts_1 : decode cX8_frosts 1 = .ok (.ifCond .lt 19, 3) := by decide +kernel
theorem dX8_frosts_4 : decode cX8_frosts 4 = .ok (.iload_n 1, 1) := by decide +kernel
theorem dX8_frosts_5 : decode cX8_frosts 5 = .ok (.bipush 6, 2) := by decide +kernel
theorem dX8_frosts_7 : decode cX8_frosts 7 = .ok (.if_icmp .gt 13, 3) := by decide +kernel
theorem dX8_frosts_10 : decode cX8_frosts 10 = .ok (.iload_n 2, 1) := by decide +kernel
theorem dX8_frosts_11 : decode cX8_frosts 11 = .ok (.ifCond .lt 9, 3) := by decide +kernel
theorem dX8_frosts_14 : decode cX8_frosts 14 = .ok (.iload_n 2, 1) := by decide +kernel
theorem dX8_frosts_15 : decode cX8_frosts 15 = .ok (.bipush 6, 2) := by decide +kernel
theorem dX8_frosts_17 : decode cX8_frosts 17 = .ok (.if_icmp .le 6, 3) := by decide +kernel
theorem dX8_frosts_20 : decode cX8_frosts 20 = .ok (.bipush (-3), 2) := by decide +kernel
theorem dX8_frosts_22 : decode cX8_frosts 22 = .ok (.ireturn, 1) := by decide +kernel
theorem dX8_frosts_23 : decode cX8_frosts 23 = .ok (.iload_n 3, 1) := by decide +kernel
theorem dX8_frosts_24 : decode cX8_frosts 24 = .ok (.ifCond .lt 17, 3) := by decide +kernel
theorem dX8_frosts_27 : decode cX8_frosts 27 = .ok (.iload_n 3, 1) := by decide +kernel
theorem dX8_frosts_28 : decode cX8_frosts 28 = .ok (.bipush 10, 2) := by decide +kernel
theorem dX8_frosts_30 : decode cX8_frosts 30 = .ok (.if_icmp .gt 11, 3) := by decide +kernel
theorem dX8_frosts_33 : decode cX8_frosts 33 = .ok (.iload 4, 2) := by decide +kernel
theorem dX8_frosts_35 : decode cX8_frosts 35 = .ok (.invokestatic 132, 3) := by decide +kernel
theorem dX8_frosts_38 : decode cX8_frosts 38 = .ok (.ifCond .ne 6, 3) := by decide +kernel
theorem dX8_frosts_41 : decode cX8_frosts 41 = .ok (.bipush (-3), 2) := by decide +kernel
theorem dX8_frosts_43 : decode cX8_frosts 43 = .ok (.ireturn, 1) := by decide +kernel
theorem dX8_frosts_44 : decode cX8_frosts 44 = .ok (.iconst 0, 1) := by decide +kernel
theorem dX8_frosts_45 : decode cX8_frosts 45 = .ok (.istore 5, 2) := by decide +kernel
theorem dX8_frosts_47 : decode cX8_frosts 47 = .ok (.iconst 1, 1) := by decide +kernel
theorem dX8_frosts_48 : decode cX8_frosts 48 = .ok (.istore 6, 2) := by decide +kernel
theorem dX8_frosts_50 : decode cX8_frosts 50 = .ok (.iload_n 1, 1) := by decide +kernel
theorem dX8_frosts_51 : decode cX8_frosts 51 = .ok (.iload_n 3, 1) := by decide +kernel
theorem dX8_frosts_52 : decode cX8_frosts 52 = .ok (.invokestatic 257, 3) := by decide +kernel
theorem dX8_frosts_55 : decode cX8_frosts 55 = .ok (.astore 7, 2) := by decide +kernel
theorem dX8_frosts_57 : decode cX8_frosts 57 = .ok (.iload_n 2, 1) := by decide +kernel
theorem dX8_frosts_58 : decode cX8_frosts 58 = .ok (.istore 8, 2) := by decide +kernel
theorem dX8_frosts_60 : decode cX8_frosts 60 = .ok (.iload 8, 2) := by decide +kernel
theorem dX8_frosts_62 : decode cX8_frosts 62 = .ok (.iload_n 1, 1) := by decide +kernel
theorem dX8_frosts_63 : decode cX8_frosts 63 = .ok (.if_icmp .gt 19, 3) := by decide +kernel
theorem dX8_frosts_66 : decode cX8_frosts 66 = .ok (.iload 5, 2) := by decide +kernel
theorem dX8_frosts_68 : decode cX8_frosts 68 = .ok (.aload 7, 2) := by decide +kernel
theorem dX8_frosts_70 : decode cX8_frosts 70 = .ok (.iload 8, 2) := by decide +kernel
theorem dX8_frosts_72 : decode cX8_frosts 72 = .ok (.iaload, 1) := by decide +kernel
theorem dX8_frosts_73 : decode cX8_frosts 73 = .ok (.iadd, 1) := by decide +kernel
theorem dX8_frosts_74 : decode cX8_frosts 74 = .ok (.istore 5, 2) := by decide +kernel
theorem dX8_frosts_76 : decode cX8_frosts 76 = .ok (.iinc 8 1, 3) := by decide +kernel
theorem dX8_frosts_79 : decode cX8_frosts 79 = .ok (.goto (-19), 3) := by decide +kernel
theorem dX8_frosts_82 : decode cX8_frosts 82 = .ok (.iconst 0, 1) := by decide +kernel
theorem dX8_frosts_83 : decode cX8_frosts 83 = .ok (.istore 8, 2) := by decide +kernel
theorem dX8_frosts_85 : decode cX8_frosts 85 = .ok (.iload 8, 2) := by decide +kernel
theorem dX8_frosts_87 : decode cX8_frosts 87 = .ok (.iload_n 1, 1) := by decide +kernel
theorem dX8_frosts_88 : decode cX8_frosts 88 = .ok (.if_icmp .ge 16, 3) := by decide +kernel
theorem dX8_frosts_91 : decode cX8_frosts 91 = .ok (.iload 6, 2) := by decide +kernel
theorem dX8_frosts_93 : decode cX8_frosts 93 = .ok (.bipush 10, 2) := by decide +kernel
theorem dX8_frosts_95 : decode cX8_frosts 95 = .ok (.imul, 1) := by decide +kernel
theorem dX8_frosts_96 : decode cX8_frosts 96 = .ok (.istore 6, 2) := by decide +kernel
theorem dX8_frosts_98 : decode cX8_frosts 98 = .ok (.iinc 8 1, 3) := by decide +kernel
theorem dX8_frosts_101 : decode cX8_frosts 101 = .ok (.goto (-16), 3) := by decide +kernel
theorem dX8_frosts_104 : decode cX8_frosts 104 = .ok (.iload 5, 2) := by decide +kernel
theorem dX8_frosts_106 : decode cX8_frosts 106 = .ok (.iload 6, 2) := by decide +kernel
theorem dX8_frosts_108 : decode cX8_frosts 108 = .ok (.iload 4, 2) := by decide +kernel
theorem dX8_frosts_110 : decode cX8_frosts 110 = .ok (.invokestatic 224, 3) := by decide +kernel
theorem dX8_frosts_113 : decode cX8_frosts 113 = .ok (.ireturn, 1) := by decide +kernel
set_option maxRecDepth 20000 in
theorem ggX8_count_X5_coldOn : GoodIn wsX8_count wsX5_coldOn := goodIn_r _ [18, 19, 20, 35, 36, 37, 38, 39, 40, 41, 42] (by decide +kernel) (by decide +kernel)
set_option maxRecDepth 20000 in
theorem gX8_count_X5_coldOn : GoodIn wsX8_count (wsV RX8 236 RX5 yX5_coldOn wsX5_coldOn) := goodIn_app (goodIn_of _ (by decide +kernel)) ggX8_count_X5_coldOn
set_option maxRecDepth 20000 in
theorem ggX8_count_X7_healthOfAll : GoodIn wsX8_count wsX7_healthOfAll := goodIn_r _ [25, 26, 43, 44, 45, 46] (by decide +kernel) (by decide +kernel)
set_option maxRecDepth 20000 in
theorem gX8_count_X7_healthOfAll : GoodIn wsX8_count (wsV RX8 271 RX7 yX7_healthOfAll wsX7_healthOfAll) := goodIn_app (goodIn_of _ (by decide +kernel)) ggX8_count_X7_healthOfAll
theorem dX8_count_0 : decode cX8_count 0 = .ok (.iload_n 1, 1) := by decide +kernel
theorem dX8_count_1 : decode cX8_count 1 = .ok (.tableswitch 142 0 9 #[55, 63, 71, 79, 94, 102, 110, 118, 126, 134], 55) := by decide +kernel
theorem dX8_count_56 : decode cX8_count 56 = .ok (.aload_n 0, 1) := by decide +kernel
theorem dX8_count_57 : decode cX8_count 57 = .ok (.getfield 24, 3) := by decide +kernel
theorem dX8_count_60 : decode cX8_count 60 = .ok (.getfield 261, 3) := by decide +kernel
theorem dX8_count_63 : decode cX8_count 63 = .ok (.ireturn, 1) := by decide +kernel
theorem dX8_count_64 : decode cX8_count 64 = .ok (.aload_n 0, 1) := by decide +kernel
theorem dX8_count_65 : decode cX8_count 65 = .ok (.getfield 31, 3) := by decide +kernel
theorem dX8_count_68 : decode cX8_count 68 = .ok (.getfield 152, 3) := by decide +kernel
theorem dX8_count_71 : decode cX8_count 71 = .ok (.ireturn, 1) := by decide +kernel
theorem dX8_count_72 : decode cX8_count 72 = .ok (.aload_n 0, 1) := by decide +kernel
theorem dX8_count_73 : decode cX8_count 73 = .ok (.getfield 24, 3) := by decide +kernel
theorem dX8_count_76 : decode cX8_count 76 = .ok (.getfield 262, 3) := by decide +kernel
theorem dX8_count_79 : decode cX8_count 79 = .ok (.ireturn, 1) := by decide +kernel
theorem dX8_count_80 : decode cX8_count 80 = .ok (.aload_n 0, 1) := by decide +kernel
theorem dX8_count_81 : decode cX8_count 81 = .ok (.getfield 24, 3) := by decide +kernel
theorem dX8_count_84 : decode cX8_count 84 = .ok (.aload_n 0, 1) := by decide +kernel
theorem dX8_count_85 : decode cX8_count 85 = .ok (.getfield 31, 3) := by decide +kernel
theorem dX8_count_88 : decode cX8_count 88 = .ok (.getfield 152, 3) := by decide +kernel
theorem dX8_count_91 : decode cX8_count 91 = .ok (.invokevirtual 236, 3) := by decide +kernel
theorem dX8_count_94 : decode cX8_count 94 = .ok (.ireturn, 1) := by decide +kernel
theorem dX8_count_95 : decode cX8_count 95 = .ok (.aload_n 0, 1) := by decide +kernel
theorem dX8_count_96 : decode cX8_count 96 = .ok (.getfield 24, 3) := by decide +kernel
theorem dX8_count_99 : decode cX8_count 99 = .ok (.getfield 265, 3) := by decide +kernel
theorem dX8_count_102 : decode cX8_count 102 = .ok (.ireturn, 1) := by decide +kernel
theorem dX8_count_103 : decode cX8_count 103 = .ok (.aload_n 0, 1) := by decide +kernel
theorem dX8_count_104 : decode cX8_count 104 = .ok (.getfield 31, 3) := by decide +kernel
theorem dX8_count_107 : decode cX8_count 107 = .ok (.getfield 268, 3) := by decide +kernel
theorem dX8_count_110 : decode cX8_count 110 = .ok (.ireturn, 1) := by decide +kernel
theorem dX8_count_111 : decode cX8_count 111 = .ok (.aload_n 0, 1) := by decide +kernel
theorem dX8_count_112 : decode cX8_count 112 = .ok (.getfield 31, 3) := by decide +kernel
theorem dX8_count_115 : decode cX8_count 115 = .ok (.invokevirtual 271, 3) := by decide +kernel
theorem dX8_count_118 : decode cX8_count 118 = .ok (.ireturn, 1) := by decide +kernel
theorem dX8_count_119 : decode cX8_count 119 = .ok (.aload_n 0, 1) := by decide +kernel
theorem dX8_count_120 : decode cX8_count 120 = .ok (.getfield 45, 3) := by decide +kernel
theorem dX8_count_123 : decode cX8_count 123 = .ok (.getfield 90, 3) := by decide +kernel
theorem dX8_count_126 : decode cX8_count 126 = .ok (.ireturn, 1) := by decide +kernel
theorem dX8_count_127 : decode cX8_count 127 = .ok (.aload_n 0, 1) := by decide +kernel
theorem dX8_count_128 : decode cX8_count 128 = .ok (.getfield 38, 3) := by decide +kernel
theorem dX8_count_131 : decode cX8_count 131 = .ok (.getfield 159, 3) := by decide +kernel
theorem dX8_count_134 : decode cX8_count 134 = .ok (.ireturn, 1) := by decide +kernel
theorem dX8_count_135 : decode cX8_count 135 = .ok (.aload_n 0, 1) := by decide +kernel
theorem dX8_count_136 : decode cX8_count 136 = .ok (.getfield 20, 3) := by decide +kernel
theorem dX8_count_139 : decode cX8_count 139 = .ok (.getfield 63, 3) := by decide +kernel
theorem dX8_count_142 : decode cX8_count 142 = .ok (.ireturn, 1) := by decide +kernel
theorem dX8_count_143 : decode cX8_count 143 = .ok (.bipush (-3), 2) := by decide +kernel
theorem dX8_count_145 : decode cX8_count 145 = .ok (.ireturn, 1) := by decide +kernel
theorem dX8_isFamily_0 : decode cX8_isFamily 0 = .ok (.iload_n 1, 1) := by decide +kernel
theorem dX8_isFamily_1 : decode cX8_isFamily 1 = .ok (.ifCond .lt 18, 3) := by decide +kernel
theorem dX8_isFamily_4 : decode cX8_isFamily 4 = .ok (.iload_n 1, 1) := by decide +kernel
theorem dX8_isFamily_5 : decode cX8_isFamily 5 = .ok (.aload_n 0, 1) := by decide +kernel
theorem dX8_isFamily_6 : decode cX8_isFamily 6 = .ok (.getfield 24, 3) := by decide +kernel
theorem dX8_isFamily_9 : decode cX8_isFamily 9 = .ok (.getfield 261, 3) := by decide +kernel
theorem dX8_isFamily_12 : decode cX8_isFamily 12 = .ok (.if_icmp .ge 7, 3) := by decide +kernel
theorem dX8_isFamily_15 : decode cX8_isFamily 15 = .ok (.iconst 1, 1) := by decide +kernel
theorem dX8_isFamily_16 : decode cX8_isFamily 16 = .ok (.goto 4, 3) := by decide +kernel
theorem dX8_isFamily_19 : decode cX8_isFamily 19 = .ok (.iconst 0, 1) := by decide +kernel
theorem dX8_isFamily_20 : decode cX8_isFamily 20 = .ok (.ireturn, 1) := by decide +kernel
set_option maxRecDepth 20000 in
theorem ggX8_isSet_X5_all : GoodIn wsX8_isSet wsX5_all := goodIn_r _ [6, 7, 8, 9, 10, 22, 23, 24, 25, 26, 27, 28, 29] (by decide +kernel) (by decide +kernel)
set_option maxRecDepth 20000 in
theorem gX8_isSet_X5_all : GoodIn wsX8_isSet (wsV RX8 207 RX5 yX5_all wsX5_all) := goodIn_app (goodIn_of _ (by decide +kernel)) ggX8_isSet_X5_all
set_option maxRecDepth 20000 in
theorem ggX8_isSet_X8_isWithin : GoodIn wsX8_isSet wsX8_isWithin := goodIn_r _ [13] (by decide +kernel) (by decide +kernel)
set_option maxRecDepth 20000 in
theorem gX8_isSet_X8_isWithin : GoodIn wsX8_isSet (va_wsS RX8 210 yX8_isWithin wsX8_isWithin) := goodIn_app (goodIn_of _ (by decide +kernel)) ggX8_isSet_X8_isWithin
theorem dX8_isSet_0 : decode cX8_isSet 0 = .ok (.iload_n 1, 1) := by decide +kernel
theorem dX8_isSet_1 : decode cX8_isSet 1 = .ok (.aload_n 0, 1) := by decide +kernel
theorem dX8_isSet_2 : decode cX8_isSet 2 = .ok (.getfield 24, 3) := by decide +kernel
theorem dX8_isSet_5 : decode cX8_isSet 5 = .ok (.invokevirtual 207, 3) := by decide +kernel
theorem dX8_isSet_8 : decode cX8_isSet 8 = .ok (.invokestatic 210, 3) := by decide +kernel
theorem dX8_isSet_11 : decode cX8_isSet 11 = .ok (.ireturn, 1) := by decide +kernel
set_option maxRecDepth 20000 in
theorem ggX8_refusalFor_X8_isFamily : GoodIn wsX8_refusalFor wsX8_isFamily := goodIn_r _ [6, 7, 8, 17, 18, 19, 20, 21, 22, 23, 24, 25, 26, 27, 28, 29, 30, 31, 32] (by decide +kernel) (by decide +kernel)
set_option maxRecDepth 20000 in
theorem gX8_refusalFor_X8_isFamily : GoodIn wsX8_refusalFor (wsV RX8 96 RX8 yX8_isFamily wsX8_isFamily) := goodIn_app (goodIn_of _ (by decide +kernel)) ggX8_refusalFor_X8_isFamily
set_option maxRecDepth 20000 in
theorem ggX8_refusalFor_X7_isFrozen : GoodIn wsX8_refusalFor wsX7_isFrozen := goodIn_r _ [13, 14, 15, 5, 16, 33, 34, 35, 36] (by decide +kernel) (by decide +kernel)
set_option maxRecDepth 20000 in
theorem gX8_refusalFor_X7_isFrozen : GoodIn wsX8_refusalFor (wsV RX8 135 RX7 yX7_isFrozen wsX7_isFrozen) := goodIn_app (goodIn_of _ (by decide +kernel)) ggX8_refusalFor_X7_isFrozen
theorem dX8_refusalFor_0 : decode cX8_refusalFor 0 = .ok (.aload_n 0, 1) := by decide +kernel
theorem dX8_refusalFor_1 : decode cX8_refusalFor 1 = .ok (.iload_n 1, 1) := by decide +kernel
theorem dX8_refusalFor_2 : decode cX8_refusalFor 2 = .ok (.invokevirtual 96, 3) := by decide +kernel
theorem dX8_refusalFor_5 : decode cX8_refusalFor 5 = .ok (.ifCond .ne 6, 3) := by decide +kernel
theorem dX8_refusalFor_8 : decode cX8_refusalFor 8 = .ok (.bipush (-2), 2) := by decide +kernel
theorem dX8_refusalFor_10 : decode cX8_refusalFor 10 = .ok (.ireturn, 1) := by decide +kernel
theorem dX8_refusalFor_11 : decode cX8_refusalFor 11 = .ok (.iload_n 2, 1) := by decide +kernel
theorem dX8_refusalFor_12 : decode cX8_refusalFor 12 = .ok (.ifCond .lt 8, 3) := by decide +kernel
theorem dX8_refusalFor_15 : decode cX8_refusalFor 15 = .ok (.iload_n 2, 1) := by decide +kernel
theorem dX8_refusalFor_16 : decode cX8_refusalFor 16 = .ok (.iload_n 3, 1) := by decide +kernel
theorem dX8_refusalFor_17 : decode cX8_refusalFor 17 = .ok (.if_icmp .le 6, 3) := by decide +kernel
theorem dX8_refusalFor_20 : decode cX8_refusalFor 20 = .ok (.bipush (-3), 2) := by decide +kernel
theorem dX8_refusalFor_22 : decode cX8_refusalFor 22 = .ok (.ireturn, 1) := by decide +kernel
theorem dX8_refusalFor_23 : decode cX8_refusalFor 23 = .ok (.aload_n 0, 1) := by decide +kernel
theorem dX8_refusalFor_24 : decode cX8_refusalFor 24 = .ok (.getfield 31, 3) := by decide +kernel
theorem dX8_refusalFor_27 : decode cX8_refusalFor 27 = .ok (.iload_n 1, 1) := by decide +kernel
theorem dX8_refusalFor_28 : decode cX8_refusalFor 28 = .ok (.invokevirtual 135, 3) := by decide +kernel
theorem dX8_refusalFor_31 : decode cX8_refusalFor 31 = .ok (.ifCond .eq 8, 3) := by decide +kernel
theorem dX8_refusalFor_34 : decode cX8_refusalFor 34 = .ok (.bipush (-4), 2) := by decide +kernel
theorem dX8_refusalFor_36 : decode cX8_refusalFor 36 = .ok (.goto 4, 3) := by decide +kernel
theorem dX8_refusalFor_39 : decode cX8_refusalFor 39 = .ok (.iconst 0, 1) := by decide +kernel
theorem dX8_refusalFor_40 : decode cX8_refusalFor 40 = .ok (.ireturn, 1) := by decide +kernel
set_option maxRecDepth 20000 in
theorem ggX8_othersThan_X5_all : GoodIn wsX8_othersThan wsX5_all := goodIn_r _ [8, 9, 10, 11, 12, 26, 27, 28, 29, 30, 31, 32, 33] (by decide +kernel) (by decide +kernel)
set_option maxRecDepth 20000 in
theorem gX8_othersThan_X5_all : GoodIn wsX8_othersThan (wsV RX8 207 RX5 yX5_all wsX5_all) := goodIn_app (goodIn_of _ (by decide +kernel)) ggX8_othersThan_X5_all
set_option maxRecDepth 20000 in
theorem ggX8_othersThan_X8_bit : GoodIn wsX8_othersThan wsX8_bit := goodIn_r _ [12] (by decide +kernel) (by decide +kernel)
set_option maxRecDepth 20000 in
theorem gX8_othersThan_X8_bit : GoodIn wsX8_othersThan (va_wsS RX8 233 yX8_bit wsX8_bit) := goodIn_app (goodIn_of _ (by decide +kernel)) ggX8_othersThan_X8_bit
theorem dX8_othersThan_0 : decode cX8_othersThan 0 = .ok (.aload_n 0, 1) := by decide +kernel
theorem dX8_othersThan_1 : decode cX8_othersThan 1 = .ok (.getfield 24, 3) := by decide +kernel
theorem dX8_othersThan_4 : decode cX8_othersThan 4 = .ok (.invokevirtual 207, 3) := by decide +kernel
theorem dX8_othersThan_7 : decode cX8_othersThan 7 = .ok (.aload_n 0, 1) := by decide +kernel
theorem dX8_othersThan_8 : decode cX8_othersThan 8 = .ok (.getfield 31, 3) := by decide +kernel
theorem dX8_othersThan_11 : decode cX8_othersThan 11 = .ok (.getfield 268, 3) := by decide +kernel
theorem dX8_othersThan_14 : decode cX8_othersThan 14 = .ok (.iconst (-1), 1) := by decide +kernel
theorem dX8_othersThan_15 : decode cX8_othersThan 15 = .ok (.ixor, 1) := by decide +kernel
theorem dX8_othersThan_16 : decode cX8_othersThan 16 = .ok (.iand, 1) := by decide +kernel
theorem dX8_othersThan_17 : decode cX8_othersThan 17 = .ok (.iload_n 1, 1) := by decide +kernel
theorem dX8_othersThan_18 : decode cX8_othersThan 18 = .ok (.invokestatic 233, 3) := by decide +kernel
theorem dX8_othersThan_21 : decode cX8_othersThan 21 = .ok (.iconst (-1), 1) := by decide +kernel
theorem dX8_othersThan_22 : decode cX8_othersThan 22 = .ok (.ixor, 1) := by decide +kernel
theorem dX8_othersThan_23 : decode cX8_othersThan 23 = .ok (.iand, 1) := by decide +kernel
theorem dX8_othersThan_24 : decode cX8_othersThan 24 = .ok (.ireturn, 1) := by decide +kernel
set_option maxRecDepth 20000 in
theorem ggX8_isSwing_X7_isNight : GoodIn wsX8_isSwing wsX7_isNight := goodIn_r _ [8, 9, 41, 42, 43, 44] (by decide +kernel) (by decide +kernel)
set_option maxRecDepth 20000 in
theorem gX8_isSwing_X7_isNight : GoodIn wsX8_isSwing (wsV RX8 120 RX7 yX7_isNight wsX7_isNight) := goodIn_app (goodIn_of _ (by decide +kernel)) ggX8_isSwing_X7_isNight
set_option maxRecDepth 20000 in
theorem ggX8_isSwing_X5_weightOfSet : GoodIn wsX8_isSwing wsX5_weightOfSet := goodIn_r _ [14, 15, 16, 17, 18, 19, 20, 21, 13, 22, 23, 33, 34, 35, 36, 37, 38, 39, 40] (by decide +kernel) (by decide +kernel)
set_option maxRecDepth 20000 in
theorem gX8_isSwing_X5_weightOfSet : GoodIn wsX8_isSwing (wsV RX8 274 RX5 yX5_weightOfSet wsX5_weightOfSet) := goodIn_app (goodIn_of _ (by decide +kernel)) ggX8_isSwing_X5_weightOfSet
set_option maxRecDepth 20000 in
theorem ggX8_isSwing_X5_weightOf : GoodIn wsX8_isSwing wsX5_weightOf := goodIn_r _ [22, 23, 33, 34, 35, 36, 37, 38, 39, 40] (by decide +kernel) (by decide +kernel)
set_option maxRecDepth 20000 in
theorem gX8_isSwing_X5_weightOf : GoodIn wsX8_isSwing (wsV RX8 124 RX5 yX5_weightOf wsX5_weightOf) := goodIn_app (goodIn_of _ (by decide +kernel)) ggX8_isSwing_X5_weightOf
theorem dX8_isSwing_0 : decode cX8_isSwing 0 = .ok (.aload_n 0, 1) := by decide +kernel
theorem dX8_isSwing_1 : decode cX8_isSwing 1 = .ok (.getfield 31, 3) := by decide +kernel
theorem dX8_isSwing_4 : decode cX8_isSwing 4 = .ok (.invokevirtual 120, 3) := by decide +kernel
theorem dX8_isSwing_7 : decode cX8_isSwing 7 = .ok (.istore_n 3, 1) := by decide +kernel
theorem dX8_isSwing_8 : decode cX8_isSwing 8 = .ok (.aload_n 0, 1) := by decide +kernel
theorem dX8_isSwing_9 : decode cX8_isSwing 9 = .ok (.getfield 24, 3) := by decide +kernel
theorem dX8_isSwing_12 : decode cX8_isSwing 12 = .ok (.iload_n 1, 1) := by decide +kernel
theorem dX8_isSwing_13 : decode cX8_isSwing 13 = .ok (.iload_n 3, 1) := by decide +kernel
theorem dX8_isSwing_14 : decode cX8_isSwing 14 = .ok (.invokevirtual 274, 3) := by decide +kernel
theorem dX8_isSwing_17 : decode cX8_isSwing 17 = .ok (.istore 4, 2) := by decide +kernel
theorem dX8_isSwing_19 : decode cX8_isSwing 19 = .ok (.iload 4, 2) := by decide +kernel
theorem dX8_isSwing_21 : decode cX8_isSwing 21 = .ok (.aload_n 0, 1) := by decide +kernel
theorem dX8_isSwing_22 : decode cX8_isSwing 22 = .ok (.getfield 24, 3) := by decide +kernel
theorem dX8_isSwing_25 : decode cX8_isSwing 25 = .ok (.getfield 262, 3) := by decide +kernel
theorem dX8_isSwing_28 : decode cX8_isSwing 28 = .ok (.if_icmp .ge 29, 3) := by decide +kernel
theorem dX8_isSwing_31 : decode cX8_isSwing 31 = .ok (.iload 4, 2) := by decide +kernel
theorem dX8_isSwing_33 : decode cX8_isSwing 33 = .ok (.aload_n 0, 1) := by decide +kernel
theorem dX8_isSwing_34 : decode cX8_isSwing 34 = .ok (.getfield 24, 3) := by decide +kernel
theorem dX8_isSwing_37 : decode cX8_isSwing 37 = .ok (.iload_n 2, 1) := by decide +kernel
theorem dX8_isSwing_38 : decode cX8_isSwing 38 = .ok (.iload_n 3, 1) := by decide +kernel
theorem dX8_isSwing_39 : decode cX8_isSwing 39 = .ok (.invokevirtual 124, 3) := by decide +kernel
theorem dX8_isSwing_42 : decode cX8_isSwing 42 = .ok (.iadd, 1) := by decide +kernel
theorem dX8_isSwing_43 : decode cX8_isSwing 43 = .ok (.aload_n 0, 1) := by decide +kernel
theorem dX8_isSwing_44 : decode cX8_isSwing 44 = .ok (.getfield 24, 3) := by decide +kernel
theorem dX8_isSwing_47 : decode cX8_isSwing 47 = .ok (.getfield 262, 3) := by decide +kernel
theorem dX8_isSwing_50 : decode cX8_isSwing 50 = .ok (.if_icmp .lt 7, 3) := by decide +kernel
theorem dX8_isSwing_53 : decode cX8_isSwing 53 = .ok (.iconst 1, 1) := by decide +kernel
theorem dX8_isSwing_54 : decode cX8_isSwing 54 = .ok (.goto 4, 3) := by decide +kernel
theorem dX8_isSwing_57 : decode cX8_isSwing 57 = .ok (.iconst 0, 1) := by decide +kernel
theorem dX8_isSwing_58 : decode cX8_isSwing 58 = .ok (.ireturn, 1) := by decide +kernel
set_option maxRecDepth 20000 in
theorem ggX8_isWonBy_X7_isNight : GoodIn wsX8_isWonBy wsX7_isNight := goodIn_r _ [8, 9, 48, 49, 50, 51] (by decide +kernel) (by decide +kernel)
set_option maxRecDepth 20000 in
theorem gX8_isWonBy_X7_isNight : GoodIn wsX8_isWonBy (wsV RX8 120 RX7 yX7_isNight wsX7_isNight) := goodIn_app (goodIn_of _ (by decide +kernel)) ggX8_isWonBy_X7_isNight
set_option maxRecDepth 20000 in
theorem ggX8_isWonBy_X5_isCarriedBy : GoodIn wsX8_isWonBy wsX5_isCarriedBy := goodIn_r _ [14, 15, 16, 17, 18, 13, 19, 20, 21, 22, 23, 24, 25, 26, 27, 28, 52, 53, 54, 55, 56, 57, 58, 59] (by decide +kernel) (by decide +kernel)
set_option maxRecDepth 20000 in
theorem gX8_isWonBy_X5_isCarriedBy : GoodIn wsX8_isWonBy (wsV RX8 277 RX5 yX5_isCarriedBy wsX5_isCarriedBy) := goodIn_app (goodIn_of _ (by decide +kernel)) ggX8_isWonBy_X5_isCarriedBy
set_option maxRecDepth 20000 in
theorem ggX8_isWonBy_X5_warmthOfSet : GoodIn wsX8_isWonBy wsX5_warmthOfSet := goodIn_r _ [32, 20, 33, 21, 22, 23, 52, 53, 54, 55, 56, 57, 58, 59] (by decide +kernel) (by decide +kernel)
set_option maxRecDepth 20000 in
theorem gX8_isWonBy_X5_warmthOfSet : GoodIn wsX8_isWonBy (wsV RX8 176 RX5 yX5_warmthOfSet wsX5_warmthOfSet) := goodIn_app (goodIn_of _ (by decide +kernel)) ggX8_isWonBy_X5_warmthOfSet
set_option maxRecDepth 20000 in
theorem ggX8_isWonBy_X5_coldOn : GoodIn wsX8_isWonBy wsX5_coldOn := goodIn_r _ [37, 38, 39, 52, 53, 54, 55, 56, 57, 58, 59] (by decide +kernel) (by decide +kernel)
set_option maxRecDepth 20000 in
theorem gX8_isWonBy_X5_coldOn : GoodIn wsX8_isWonBy (wsV RX8 236 RX5 yX5_coldOn wsX5_coldOn) := goodIn_app (goodIn_of _ (by decide +kernel)) ggX8_isWonBy_X5_coldOn
theorem dX8_isWonBy_0 : decode cX8_isWonBy 0 = .ok (.aload_n 0, 1) := by decide +kernel
theorem dX8_isWonBy_1 : decode cX8_isWonBy 1 = .ok (.getfield 24, 3) := by decide +kernel
theorem dX8_isWonBy_4 : decode cX8_isWonBy 4 = .ok (.iload_n 1, 1) := by decide +kernel
theorem dX8_isWonBy_5 : decode cX8_isWonBy 5 = .ok (.aload_n 0, 1) := by decide +kernel
theorem dX8_isWonBy_6 : decode cX8_isWonBy 6 = .ok (.getfield 31, 3) := by decide +kernel
theorem dX8_isWonBy_9 : decode cX8_isWonBy 9 = .ok (.invokevirtual 120, 3) := by decide +kernel
theorem dX8_isWonBy_12 : decode cX8_isWonBy 12 = .ok (.invokevirtual 277, 3) := by decide +kernel
theorem dX8_isWonBy_15 : decode cX8_isWonBy 15 = .ok (.ifCond .eq 32, 3) := by decide +kernel
theorem dX8_isWonBy_18 : decode cX8_isWonBy 18 = .ok (.aload_n 0, 1) := by decide +kernel
theorem dX8_isWonBy_19 : decode cX8_isWonBy 19 = .ok (.getfield 24, 3) := by decide +kernel
theorem dX8_isWonBy_22 : decode cX8_isWonBy 22 = .ok (.iload_n 1, 1) := by decide +kernel
theorem dX8_isWonBy_23 : decode cX8_isWonBy 23 = .ok (.invokevirtual 176, 3) := by decide +kernel
theorem dX8_isWonBy_26 : decode cX8_isWonBy 26 = .ok (.aload_n 0, 1) := by decide +kernel
theorem dX8_isWonBy_27 : decode cX8_isWonBy 27 = .ok (.getfield 24, 3) := by decide +kernel
theorem dX8_isWonBy_30 : decode cX8_isWonBy 30 = .ok (.aload_n 0, 1) := by decide +kernel
theorem dX8_isWonBy_31 : decode cX8_isWonBy 31 = .ok (.getfield 31, 3) := by decide +kernel
theorem dX8_isWonBy_34 : decode cX8_isWonBy 34 = .ok (.getfield 152, 3) := by decide +kernel
theorem dX8_isWonBy_37 : decode cX8_isWonBy 37 = .ok (.invokevirtual 236, 3) := by decide +kernel
theorem dX8_isWonBy_40 : decode cX8_isWonBy 40 = .ok (.if_icmp .lt 7, 3) := by decide +kernel
theorem dX8_isWonBy_43 : decode cX8_isWonBy 43 = .ok (.iconst 1, 1) := by decide +kernel
theorem dX8_isWonBy_44 : decode cX8_isWonBy 44 = .ok (.goto 4, 3) := by decide +kernel
theorem dX8_isWonBy_47 : decode cX8_isWonBy 47 = .ok (.iconst 0, 1) := by decide +kernel
theorem dX8_isWonBy_48 : decode cX8_isWonBy 48 = .ok (.ireturn, 1) := by decide +kernel
theorem dX8_isYesOrNo_0 : decode cX8_isYesOrNo 0 = .ok (.iload_n 0, 1) := by decide +kernel
theorem dX8_isYesOrNo_1 : decode cX8_isYesOrNo 1 = .ok (.ifCond .eq 8, 3) := by decide +kernel
theorem dX8_isYesOrNo_4 : decode cX8_isYesOrNo 4 = .ok (.iload_n 0, 1) := by decide +kernel
theorem dX8_isYesOrNo_5 : decode cX8_isYesOrNo 5 = .ok (.iconst 1, 1) := by decide +kernel
theorem dX8_isYesOrNo_6 : decode cX8_isYesOrNo 6 = .ok (.if_icmp .ne 7, 3) := by decide +kernel
theorem dX8_isYesOrNo_9 : decode cX8_isYesOrNo 9 = .ok (.iconst 1, 1) := by decide +kernel
theorem dX8_isYesOrNo_10 : decode cX8_isYesOrNo 10 = .ok (.goto 4, 3) := by decide +kernel
theorem dX8_isYesOrNo_13 : decode cX8_isYesOrNo 13 = .ok (.iconst 0, 1) := by decide +kernel
theorem dX8_isYesOrNo_14 : decode cX8_isYesOrNo 14 = .ok (.ireturn, 1) := by decide +kernel
theorem dX8_bit_0 : decode cX8_bit 0 = .ok (.iconst 1, 1) := by decide +kernel
theorem dX8_bit_1 : decode cX8_bit 1 = .ok (.iload_n 0, 1) := by decide +kernel
theorem dX8_bit_2 : decode cX8_bit 2 = .ok (.ishl, 1) := by decide +kernel
theorem dX8_bit_3 : decode cX8_bit 3 = .ok (.ireturn, 1) := by decide +kernel
theorem dX8_holds_0 : decode cX8_holds 0 = .ok (.iload_n 0, 1) := by decide +kernel
theorem dX8_holds_1 : decode cX8_holds 1 = .ok (.iload_n 1, 1) := by decide +kernel
theorem dX8_holds_2 : decode cX8_holds 2 = .ok (.ishr, 1) := by decide +kernel
theorem dX8_holds_3 : decode cX8_holds 3 = .ok (.iconst 1, 1) := by decide +kernel
theorem dX8_holds_4 : decode cX8_holds 4 = .ok (.iand, 1) := by decide +kernel
theorem dX8_holds_5 : decode cX8_holds 5 = .ok (.iconst 1, 1) := by decide +kernel
theorem dX8_holds_6 : decode cX8_holds 6 = .ok (.if_icmp .ne 7, 3) := by decide +kernel
theorem dX8_holds_9 : decode cX8_holds 9 = .ok (.iconst 1, 1) := by decide +kernel
theorem dX8_holds_10 : decode cX8_holds 10 = .ok (.goto 4, 3) := by decide +kernel
theorem dX8_holds_13 : decode cX8_holds 13 = .ok (.iconst 0, 1) := by decide +kernel
theorem dX8_holds_14 : decode cX8_holds 14 = .ok (.ireturn, 1) := by decide +kernel
set_option maxRecDepth 20000 in
theorem ggX8_with_X8_bit : GoodIn wsX8_with wsX8_bit := goodIn_r _ [4] (by decide +kernel) (by decide +kernel)
set_option maxRecDepth 20000 in
theorem gX8_with_X8_bit : GoodIn wsX8_with (va_wsS RX8 233 yX8_bit wsX8_bit) := goodIn_app (goodIn_of _ (by decide +kernel)) ggX8_with_X8_bit
theorem dX8_with_0 : decode cX8_with 0 = .ok (.iload_n 2, 1) := by decide +kernel
theorem dX8_with_1 : decode cX8_with 1 = .ok (.ifCond .eq 12, 3) := by decide +kernel
theorem dX8_with_4 : decode cX8_with 4 = .ok (.iload_n 0, 1) := by decide +kernel
theorem dX8_with_5 : decode cX8_with 5 = .ok (.iload_n 1, 1) := by decide +kernel
theorem dX8_with_6 : decode cX8_with 6 = .ok (.invokestatic 233, 3) := by decide +kernel
theorem dX8_with_9 : decode cX8_with 9 = .ok (.ior, 1) := by decide +kernel
theorem dX8_with_10 : decode cX8_with 10 = .ok (.goto 11, 3) := by decide +kernel
theorem dX8_with_13 : decode cX8_with 13 = .ok (.iload_n 0, 1) := by decide +kernel
theorem dX8_with_14 : decode cX8_with 14 = .ok (.iload_n 1, 1) := by decide +kernel
theorem dX8_with_15 : decode cX8_with 15 = .ok (.invokestatic 233, 3) := by decide +kernel
theorem dX8_with_18 : decode cX8_with 18 = .ok (.iconst (-1), 1) := by decide +kernel
theorem dX8_with_19 : decode cX8_with 19 = .ok (.ixor, 1) := by decide +kernel
theorem dX8_with_20 : decode cX8_with 20 = .ok (.iand, 1) := by decide +kernel
theorem dX8_with_21 : decode cX8_with 21 = .ok (.ireturn, 1) := by decide +kernel
theorem dX8_isWithin_0 : decode cX8_isWithin 0 = .ok (.iload_n 0, 1) := by decide +kernel
theorem dX8_isWithin_1 : decode cX8_isWithin 1 = .ok (.iload_n 1, 1) := by decide +kernel
theorem dX8_isWithin_2 : decode cX8_isWithin 2 = .ok (.iconst (-1), 1) := by decide +kernel
theorem dX8_isWithin_3 : decode cX8_isWithin 3 = .ok (.ixor, 1) := by decide +kernel
theorem dX8_isWithin_4 : decode cX8_isWithin 4 = .ok (.iand, 1) := by decide +kernel
theorem dX8_isWithin_5 : decode cX8_isWithin 5 = .ok (.ifCond .ne 7, 3) := by decide +kernel
theorem dX8_isWithin_8 : decode cX8_isWithin 8 = .ok (.iconst 1, 1) := by decide +kernel
theorem dX8_isWithin_9 : decode cX8_isWithin 9 = .ok (.goto 4, 3) := by decide +kernel
theorem dX8_isWithin_12 : decode cX8_isWithin 12 = .ok (.iconst 0, 1) := by decide +kernel
theorem dX8_isWithin_13 : decode cX8_isWithin 13 = .ok (.ireturn, 1) := by decide +kernel
theorem dX8_isUnder_0 : decode cX8_isUnder 0 = .ok (.iload_n 1, 1) := by decide +kernel
theorem dX8_isUnder_1 : decode cX8_isUnder 1 = .ok (.ifCond .eq 10, 3) := by decide +kernel
theorem dX8_isUnder_4 : decode cX8_isUnder 4 = .ok (.iload_n 1, 1) := by decide +kernel
theorem dX8_isUnder_5 : decode cX8_isUnder 5 = .ok (.iload_n 0, 1) := by decide +kernel
theorem dX8_isUnder_6 : decode cX8_isUnder 6 = .ok (.iconst 1, 1) := by decide +kernel
theorem dX8_isUnder_7 : decode cX8_isUnder 7 = .ok (.iadd, 1) := by decide +kernel
theorem dX8_isUnder_8 : decode cX8_isUnder 8 = .ok (.if_icmp .ne 5, 3) := by decide +kernel
theorem dX8_isUnder_11 : decode cX8_isUnder 11 = .ok (.iconst 1, 1) := by decide +kernel
theorem dX8_isUnder_12 : decode cX8_isUnder 12 = .ok (.ireturn, 1) := by decide +kernel
theorem dX8_isUnder_13 : decode cX8_isUnder 13 = .ok (.iload_n 1, 1) := by decide +kernel
theorem dX8_isUnder_14 : decode cX8_isUnder 14 = .ok (.iconst 1, 1) := by decide +kernel
theorem dX8_isUnder_15 : decode cX8_isUnder 15 = .ok (.if_icmp .ne 17, 3) := by decide +kernel
theorem dX8_isUnder_18 : decode cX8_isUnder 18 = .ok (.iload_n 0, 1) := by decide +kernel
theorem dX8_isUnder_19 : decode cX8_isUnder 19 = .ok (.iconst 1, 1) := by decide +kernel
theorem dX8_isUnder_20 : decode cX8_isUnder 20 = .ok (.if_icmp .eq 8, 3) := by decide +kernel
theorem dX8_isUnder_23 : decode cX8_isUnder 23 = .ok (.iload_n 0, 1) := by decide +kernel
theorem dX8_isUnder_24 : decode cX8_isUnder 24 = .ok (.iconst 2, 1) := by decide +kernel
theorem dX8_isUnder_25 : decode cX8_isUnder 25 = .ok (.if_icmp .ne 7, 3) := by decide +kernel
theorem dX8_isUnder_28 : decode cX8_isUnder 28 = .ok (.iconst 1, 1) := by decide +kernel
theorem dX8_isUnder_29 : decode cX8_isUnder 29 = .ok (.goto 4, 3) := by decide +kernel
theorem dX8_isUnder_32 : decode cX8_isUnder 32 = .ok (.iconst 0, 1) := by decide +kernel
theorem dX8_isUnder_33 : decode cX8_isUnder 33 = .ok (.ireturn, 1) := by decide +kernel
theorem dX8_factorial_0 : decode cX8_factorial 0 = .ok (.iload_n 0, 1) := by decide +kernel
theorem dX8_factorial_1 : decode cX8_factorial 1 = .ok (.ifCond .lt 19, 3) := by decide +kernel
theorem dX8_factorial_4 : decode cX8_factorial 4 = .ok (.iload_n 0, 1) := by decide +kernel
theorem dX8_factorial_5 : decode cX8_factorial 5 = .ok (.getstatic 281, 3) := by decide +kernel
theorem dX8_factorial_8 : decode cX8_factorial 8 = .ok (.arraylength, 1) := by decide +kernel
theorem dX8_factorial_9 : decode cX8_factorial 9 = .ok (.if_icmp .ge 11, 3) := by decide +kernel
theorem dX8_factorial_12 : decode cX8_factorial 12 = .ok (.getstatic 281, 3) := by decide +kernel
theorem dX8_factorial_15 : decode cX8_factorial 15 = .ok (.iload_n 0, 1) := by decide +kernel
theorem dX8_factorial_16 : decode cX8_factorial 16 = .ok (.iaload, 1) := by decide +kernel
theorem dX8_factorial_17 : decode cX8_factorial 17 = .ok (.goto 4, 3) := by decide +kernel
theorem dX8_factorial_20 : decode cX8_factorial 20 = .ok (.iconst 0, 1) := by decide +kernel
theorem dX8_factorial_21 : decode cX8_factorial 21 = .ok (.ireturn, 1) := by decide +kernel
theorem dX8_waysOfFrosts_0 : decode cX8_waysOfFrosts 0 = .ok (.bipush 7, 2) := by decide +kernel
theorem dX8_waysOfFrosts_2 : decode cX8_waysOfFrosts 2 = .ok (.newarray .int, 2) := by decide +kernel
theorem dX8_waysOfFrosts_4 : decode cX8_waysOfFrosts 4 = .ok (.astore_n 2, 1) := by decide +kernel
theorem dX8_waysOfFrosts_5 : decode cX8_waysOfFrosts 5 = .ok (.aload_n 2, 1) := by decide +kernel
theorem dX8_waysOfFrosts_6 : decode cX8_waysOfFrosts 6 = .ok (.iconst 0, 1) := by decide +kernel
theorem dX8_waysOfFrosts_7 : decode cX8_waysOfFrosts 7 = .ok (.iconst 1, 1) := by decide +kernel
theorem dX8_waysOfFrosts_8 : decode cX8_waysOfFrosts 8 = .ok (.iastore, 1) := by decide +kernel
theorem dX8_waysOfFrosts_9 : decode cX8_waysOfFrosts 9 = .ok (.iconst 0, 1) := by decide +kernel
theorem dX8_waysOfFrosts_10 : decode cX8_waysOfFrosts 10 = .ok (.istore_n 3, 1) := by decide +kernel
theorem dX8_waysOfFrosts_11 : decode cX8_waysOfFrosts 11 = .ok (.iload_n 3, 1) := by decide +kernel
theorem dX8_waysOfFrosts_12 : decode cX8_waysOfFrosts 12 = .ok (.iload_n 0, 1) := by decide +kernel
theorem dX8_waysOfFrosts_13 : decode cX8_waysOfFrosts 13 = .ok (.if_icmp .ge 56, 3) := by decide +kernel
theorem dX8_waysOfFrosts_16 : decode cX8_waysOfFrosts 16 = .ok (.bipush 6, 2) := by decide +kernel
theorem dX8_waysOfFrosts_18 : decode cX8_waysOfFrosts 18 = .ok (.istore 4, 2) := by decide +kernel
theorem dX8_waysOfFrosts_20 : decode cX8_waysOfFrosts 20 = .ok (.iload 4, 2) := by decide +kernel
theorem dX8_waysOfFrosts_22 : decode cX8_waysOfFrosts 22 = .ok (.ifCond .le 31, 3) := by decide +kernel
theorem dX8_waysOfFrosts_25 : decode cX8_waysOfFrosts 25 = .ok (.aload_n 2, 1) := by decide +kernel
theorem dX8_waysOfFrosts_26 : decode cX8_waysOfFrosts 26 = .ok (.iload 4, 2) := by decide +kernel
theorem dX8_waysOfFrosts_28 : decode cX8_waysOfFrosts 28 = .ok (.aload_n 2, 1) := by decide +kernel
theorem dX8_waysOfFrosts_29 : decode cX8_waysOfFrosts 29 = .ok (.iload 4, 2) := by decide +kernel
theorem dX8_waysOfFrosts_31 : decode cX8_waysOfFrosts 31 = .ok (.iaload, 1) := by decide +kernel
theorem dX8_waysOfFrosts_32 : decode cX8_waysOfFrosts 32 = .ok (.bipush 10, 2) := by decide +kernel
theorem dX8_waysOfFrosts_34 : decode cX8_waysOfFrosts 34 = .ok (.iload_n 1, 1) := by decide +kernel
theorem dX8_waysOfFrosts_35 : decode cX8_waysOfFrosts 35 = .ok (.isub, 1) := by decide +kernel
theorem dX8_waysOfFrosts_36 : decode cX8_waysOfFrosts 36 = .ok (.imul, 1) := by decide +kernel
theorem dX8_waysOfFrosts_37 : decode cX8_waysOfFrosts 37 = .ok (.aload_n 2, 1) := by decide +kernel
theorem dX8_waysOfFrosts_38 : decode cX8_waysOfFrosts 38 = .ok (.iload 4, 2) := by decide +kernel
theorem dX8_waysOfFrosts_40 : decode cX8_waysOfFrosts 40 = .ok (.iconst 1, 1) := by decide +kernel
theorem dX8_waysOfFrosts_41 : decode cX8_waysOfFrosts 41 = .ok (.isub, 1) := by decide +kernel
theorem dX8_waysOfFrosts_42 : decode cX8_waysOfFrosts 42 = .ok (.iaload, 1) := by decide +kernel
theorem dX8_waysOfFrosts_43 : decode cX8_waysOfFrosts 43 = .ok (.iload_n 1, 1) := by decide +kernel
theorem dX8_waysOfFrosts_44 : decode cX8_waysOfFrosts 44 = .ok (.imul, 1) := by decide +kernel
theorem dX8_waysOfFrosts_45 : decode cX8_waysOfFrosts 45 = .ok (.iadd, 1) := by decide +kernel
theorem dX8_waysOfFrosts_46 : decode cX8_waysOfFrosts 46 = .ok (.iastore, 1) := by decide +kernel
theorem dX8_waysOfFrosts_47 : decode cX8_waysOfFrosts 47 = .ok (.iinc 4 (-1), 3) := by decide +kernel
theorem dX8_waysOfFrosts_50 : decode cX8_waysOfFrosts 50 = .ok (.goto (-30), 3) := by decide +kernel
theorem dX8_waysOfFrosts_53 : decode cX8_waysOfFrosts 53 = .ok (.aload_n 2, 1) := by decide +kernel
theorem dX8_waysOfFrosts_54 : decode cX8_waysOfFrosts 54 = .ok (.iconst 0, 1) := by decide +kernel
theorem dX8_waysOfFrosts_55 : decode cX8_waysOfFrosts 55 = .ok (.dup2, 1) := by decide +kernel
theorem dX8_waysOfFrosts_56 : decode cX8_waysOfFrosts 56 = .ok (.iaload, 1) := by decide +kernel
theorem dX8_waysOfFrosts_57 : decode cX8_waysOfFrosts 57 = .ok (.bipush 10, 2) := by decide +kernel
theorem dX8_waysOfFrosts_59 : decode cX8_waysOfFrosts 59 = .ok (.iload_n 1, 1) := by decide +kernel
theorem dX8_waysOfFrosts_60 : decode cX8_waysOfFrosts 60 = .ok (.isub, 1) := by decide +kernel
theorem dX8_waysOfFrosts_61 : decode cX8_waysOfFrosts 61 = .ok (.imul, 1) := by decide +kernel
theorem dX8_waysOfFrosts_62 : decode cX8_waysOfFrosts 62 = .ok (.iastore, 1) := by decide +kernel
theorem dX8_waysOfFrosts_63 : decode cX8_waysOfFrosts 63 = .ok (.iinc 3 1, 3) := by decide +kernel
theorem dX8_waysOfFrosts_66 : decode cX8_waysOfFrosts 66 = .ok (.goto (-55), 3) := by decide +kernel
theorem dX8_waysOfFrosts_69 : decode cX8_waysOfFrosts 69 = .ok (.aload_n 2, 1) := by decide +kernel
theorem dX8_waysOfFrosts_70 : decode cX8_waysOfFrosts 70 = .ok (.areturn, 1) := by decide +kernel
set_option maxRecDepth 20000 in
theorem ggX8_partOf_X8_commonDivisor : GoodIn wsX8_partOf wsX8_commonDivisor := goodIn_r _ [4] (by decide +kernel) (by decide +kernel)
set_option maxRecDepth 20000 in
theorem gX8_partOf_X8_commonDivisor : GoodIn wsX8_partOf (va_wsS RX8 284 yX8_commonDivisor wsX8_commonDivisor) := goodIn_app (goodIn_of _ (by decide +kernel)) ggX8_partOf_X8_commonDivisor
theorem dX8_partOf_0 : decode cX8_partOf 0 = .ok (.iload_n 0, 1) := by decide +kernel
theorem dX8_partOf_1 : decode cX8_partOf 1 = .ok (.iload_n 1, 1) := by decide +kernel
theorem dX8_partOf_2 : decode cX8_partOf 2 = .ok (.invokestatic 284, 3) := by decide +kernel
theorem dX8_partOf_5 : decode cX8_partOf 5 = .ok (.istore_n 3, 1) := by decide +kernel
theorem dX8_partOf_6 : decode cX8_partOf 6 = .ok (.iload_n 3, 1) := by decide +kernel
theorem dX8_partOf_7 : decode cX8_partOf 7 = .ok (.ifCond .ne 5, 3) := by decide +kernel
theorem dX8_partOf_10 : decode cX8_partOf 10 = .ok (.iconst 0, 1) := by decide +kernel
theorem dX8_partOf_11 : decode cX8_partOf 11 = .ok (.ireturn, 1) := by decide +kernel
theorem dX8_partOf_12 : decode cX8_partOf 12 = .ok (.iload_n 2, 1) := by decide +kernel
theorem dX8_partOf_13 : decode cX8_partOf 13 = .ok (.ifCond .ne 7, 3) := by decide +kernel
theorem dX8_partOf_16 : decode cX8_partOf 16 = .ok (.iload_n 0, 1) := by decide +kernel
theorem dX8_partOf_17 : decode cX8_partOf 17 = .ok (.goto 4, 3) := by decide +kernel
theorem dX8_partOf_20 : decode cX8_partOf 20 = .ok (.iload_n 1, 1) := by decide +kernel
theorem dX8_partOf_21 : decode cX8_partOf 21 = .ok (.iload_n 3, 1) := by decide +kernel
theorem dX8_partOf_22 : decode cX8_partOf 22 = .ok (.idiv, 1) := by decide +kernel
theorem dX8_partOf_23 : decode cX8_partOf 23 = .ok (.ireturn, 1) := by decide +kernel
theorem dX8_commonDivisor_0 : decode cX8_commonDivisor 0 = .ok (.iload_n 0, 1) := by decide +kernel
theorem dX8_commonDivisor_1 : decode cX8_commonDivisor 1 = .ok (.istore_n 2, 1) := by decide +kernel
theorem dX8_commonDivisor_2 : decode cX8_commonDivisor 2 = .ok (.iload_n 1, 1) := by decide +kernel
theorem dX8_commonDivisor_3 : decode cX8_commonDivisor 3 = .ok (.istore_n 3, 1) := by decide +kernel
theorem dX8_commonDivisor_4 : decode cX8_commonDivisor 4 = .ok (.iconst 0, 1) := by decide +kernel
theorem dX8_commonDivisor_5 : decode cX8_commonDivisor 5 = .ok (.istore 4, 2) := by decide +kernel
theorem dX8_commonDivisor_7 : decode cX8_commonDivisor 7 = .ok (.iload 4, 2) := by decide +kernel
theorem dX8_commonDivisor_9 : decode cX8_commonDivisor 9 = .ok (.bipush 64, 2) := by decide +kernel
theorem dX8_commonDivisor_11 : decode cX8_commonDivisor 11 = .ok (.if_icmp .ge 23, 3) := by decide +kernel
theorem dX8_commonDivisor_14 : decode cX8_commonDivisor 14 = .ok (.iload_n 3, 1) := by decide +kernel
theorem dX8_commonDivisor_15 : decode cX8_commonDivisor 15 = .ok (.ifCond .eq 19, 3) := by decide +kernel
theorem dX8_commonDivisor_18 : decode cX8_commonDivisor 18 = .ok (.iload_n 2, 1) := by decide +kernel
theorem dX8_commonDivisor_19 : decode cX8_commonDivisor 19 = .ok (.iload_n 3, 1) := by decide +kernel
theorem dX8_commonDivisor_20 : decode cX8_commonDivisor 20 = .ok (.irem, 1) := by decide +kernel
theorem dX8_commonDivisor_21 : decode cX8_commonDivisor 21 = .ok (.istore 5, 2) := by decide +kernel
theorem dX8_commonDivisor_23 : decode cX8_commonDivisor 23 = .ok (.iload_n 3, 1) := by decide +kernel
theorem dX8_commonDivisor_24 : decode cX8_commonDivisor 24 = .ok (.istore_n 2, 1) := by decide +kernel
theorem dX8_commonDivisor_25 : decode cX8_commonDivisor 25 = .ok (.iload 5, 2) := by decide +kernel
theorem dX8_commonDivisor_27 : decode cX8_commonDivisor 27 = .ok (.istore_n 3, 1) := by decide +kernel
theorem dX8_commonDivisor_28 : decode cX8_commonDivisor 28 = .ok (.iinc 4 1, 3) := by decide +kernel
theorem dX8_commonDivisor_31 : decode cX8_commonDivisor 31 = .ok (.goto (-24), 3) := by decide +kernel
theorem dX8_commonDivisor_34 : decode cX8_commonDivisor 34 = .ok (.iload_n 2, 1) := by decide +kernel
theorem dX8_commonDivisor_35 : decode cX8_commonDivisor 35 = .ok (.ireturn, 1) := by decide +kernel
