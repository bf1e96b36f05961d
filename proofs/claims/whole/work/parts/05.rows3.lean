theorem dX8_wrong_12 : decode cX8_wrong 12 = .ok (.goto 14, 3) := by decide +kernel
theorem dX8_wrong_15 : decode cX8_wrong 15 = .ok (.aload_n 0, 1) := by decide +kernel
theorem dX8_wrong_16 : decode cX8_wrong 16 = .ok (.getfield 16, 3) := by decide +kernel
theorem dX8_wrong_19 : decode cX8_wrong 19 = .ok (.aload_n 0, 1) := by decide +kernel
theorem dX8_wrong_20 : decode cX8_wrong 20 = .ok (.getfield 23, 3) := by decide +kernel
theorem dX8_wrong_23 : decode cX8_wrong 23 = .ok (.invokevirtual 131, 3) := by decide +kernel
theorem dX8_wrong_26 : decode cX8_wrong 26 = .ok (.ireturn, 1) := by decide +kernel
set_option maxRecDepth 20000 in
theorem ggX8_blocks_X3_size : GoodIn wsX8_blocks wsX3_size := goodIn_r _ [6, 7, 8, 9, 10, 11, 12, 13, 14, 42] (by decide +kernel) (by decide +kernel)
set_option maxRecDepth 20000 in
theorem gX8_blocks_X3_size : GoodIn wsX8_blocks (wsV RX8 120 RX3 yX3_size wsX3_size) := goodIn_app (goodIn_of _ (by decide +kernel)) ggX8_blocks_X3_size
set_option maxRecDepth 20000 in
theorem ggX8_blocks_X3_open : GoodIn wsX8_blocks wsX3_open := goodIn_r _ [18, 19, 20, 21, 5, 22, 7, 23, 24, 25, 26, 27, 28, 29, 30, 31, 42] (by decide +kernel) (by decide +kernel)
set_option maxRecDepth 20000 in
theorem gX8_blocks_X3_open : GoodIn wsX8_blocks (wsV RX8 135 RX3 yX3_open wsX3_open) := goodIn_app (goodIn_of _ (by decide +kernel)) ggX8_blocks_X3_open
theorem dX8_blocks_0 : decode cX8_blocks 0 = .ok (.iload_n 1, 1) := by decide +kernel
theorem dX8_blocks_1 : decode cX8_blocks 1 = .ok (.iconst (-1), 1) := by decide +kernel
theorem dX8_blocks_2 : decode cX8_blocks 2 = .ok (.if_icmp .lt 8, 3) := by decide +kernel
theorem dX8_blocks_5 : decode cX8_blocks 5 = .ok (.iload_n 1, 1) := by decide +kernel
theorem dX8_blocks_6 : decode cX8_blocks 6 = .ok (.iconst 4, 1) := by decide +kernel
theorem dX8_blocks_7 : decode cX8_blocks 7 = .ok (.if_icmp .lt 6, 3) := by decide +kernel
theorem dX8_blocks_10 : decode cX8_blocks 10 = .ok (.bipush (-3), 2) := by decide +kernel
theorem dX8_blocks_12 : decode cX8_blocks 12 = .ok (.ireturn, 1) := by decide +kernel
theorem dX8_blocks_13 : decode cX8_blocks 13 = .ok (.iload_n 1, 1) := by decide +kernel
theorem dX8_blocks_14 : decode cX8_blocks 14 = .ok (.iconst (-1), 1) := by decide +kernel
theorem dX8_blocks_15 : decode cX8_blocks 15 = .ok (.if_icmp .ne 13, 3) := by decide +kernel
theorem dX8_blocks_18 : decode cX8_blocks 18 = .ok (.aload_n 0, 1) := by decide +kernel
theorem dX8_blocks_19 : decode cX8_blocks 19 = .ok (.getfield 16, 3) := by decide +kernel
theorem dX8_blocks_22 : decode cX8_blocks 22 = .ok (.invokevirtual 120, 3) := by decide +kernel
theorem dX8_blocks_25 : decode cX8_blocks 25 = .ok (.goto 11, 3) := by decide +kernel
theorem dX8_blocks_28 : decode cX8_blocks 28 = .ok (.aload_n 0, 1) := by decide +kernel
theorem dX8_blocks_29 : decode cX8_blocks 29 = .ok (.getfield 16, 3) := by decide +kernel
theorem dX8_blocks_32 : decode cX8_blocks 32 = .ok (.iload_n 1, 1) := by decide +kernel
theorem dX8_blocks_33 : decode cX8_blocks 33 = .ok (.invokevirtual 135, 3) := by decide +kernel
theorem dX8_blocks_36 : decode cX8_blocks 36 = .ok (.ireturn, 1) := by decide +kernel
set_option maxRecDepth 20000 in
theorem ggX8_close_X3_size : GoodIn wsX8_close wsX3_size := goodIn_r _ [6, 7, 8, 9, 10, 11, 12, 13, 14, 46] (by decide +kernel) (by decide +kernel)
set_option maxRecDepth 20000 in
theorem gX8_close_X3_size : GoodIn wsX8_close (wsV RX8 120 RX3 yX3_size wsX3_size) := goodIn_app (goodIn_of _ (by decide +kernel)) ggX8_close_X3_size
set_option maxRecDepth 20000 in
theorem ggX8_close_X3_closeUnder : GoodIn wsX8_close wsX3_closeUnder := goodIn_r _ [18, 19, 20, 21, 5, 22, 7, 23, 24, 25, 26, 27, 28, 29, 30, 31, 32, 33, 34, 35, 46] (by decide +kernel) (by decide +kernel)
set_option maxRecDepth 20000 in
theorem gX8_close_X3_closeUnder : GoodIn wsX8_close (wsV RX8 139 RX3 yX3_closeUnder wsX3_closeUnder) := goodIn_app (goodIn_of _ (by decide +kernel)) ggX8_close_X3_closeUnder
theorem dX8_close_0 : decode cX8_close 0 = .ok (.iload_n 1, 1) := by decide +kernel
theorem dX8_close_1 : decode cX8_close 1 = .ok (.ifCond .lt 8, 3) := by decide +kernel
theorem dX8_close_4 : decode cX8_close 4 = .ok (.iload_n 1, 1) := by decide +kernel
theorem dX8_close_5 : decode cX8_close 5 = .ok (.iconst 4, 1) := by decide +kernel
theorem dX8_close_6 : decode cX8_close 6 = .ok (.if_icmp .lt 6, 3) := by decide +kernel
theorem dX8_close_9 : decode cX8_close 9 = .ok (.bipush (-3), 2) := by decide +kernel
theorem dX8_close_11 : decode cX8_close 11 = .ok (.ireturn, 1) := by decide +kernel
theorem dX8_close_12 : decode cX8_close 12 = .ok (.aload_n 0, 1) := by decide +kernel
theorem dX8_close_13 : decode cX8_close 13 = .ok (.getfield 16, 3) := by decide +kernel
theorem dX8_close_16 : decode cX8_close 16 = .ok (.invokevirtual 120, 3) := by decide +kernel
theorem dX8_close_19 : decode cX8_close 19 = .ok (.istore_n 2, 1) := by decide +kernel
theorem dX8_close_20 : decode cX8_close 20 = .ok (.aload_n 0, 1) := by decide +kernel
theorem dX8_close_21 : decode cX8_close 21 = .ok (.getfield 16, 3) := by decide +kernel
theorem dX8_close_24 : decode cX8_close 24 = .ok (.iload_n 1, 1) := by decide +kernel
theorem dX8_close_25 : decode cX8_close 25 = .ok (.invokevirtual 139, 3) := by decide +kernel
theorem dX8_close_28 : decode cX8_close 28 = .ok (.aload_n 0, 1) := by decide +kernel
theorem dX8_close_29 : decode cX8_close 29 = .ok (.getfield 16, 3) := by decide +kernel
theorem dX8_close_32 : decode cX8_close 32 = .ok (.invokevirtual 120, 3) := by decide +kernel
theorem dX8_close_35 : decode cX8_close 35 = .ok (.iload_n 2, 1) := by decide +kernel
theorem dX8_close_36 : decode cX8_close 36 = .ok (.isub, 1) := by decide +kernel
theorem dX8_close_37 : decode cX8_close 37 = .ok (.ireturn, 1) := by decide +kernel
set_option maxRecDepth 20000 in
theorem ggX8_many_X8_isSize : GoodIn wsX8_many wsX8_isSize := goodIn_r _ [5] (by decide +kernel) (by decide +kernel)
set_option maxRecDepth 20000 in
theorem gX8_many_X8_isSize : GoodIn wsX8_many (va_wsS RX8 92 yX8_isSize wsX8_isSize) := goodIn_app (goodIn_of _ (by decide +kernel)) ggX8_many_X8_isSize
set_option maxRecDepth 20000 in
theorem ggX8_many_X8_openWhole : GoodIn wsX8_many wsX8_openWhole := goodIn_r _ [9, 1, 10, 11, 12, 13, 14, 15, 16, 17, 18, 19, 20, 21, 22, 23, 24, 25, 26, 27, 28, 29, 30, 31, 32, 33, 34, 35, 36, 37, 38, 39, 40, 41, 42, 43, 44, 45, 46, 47, 48, 49, 50, 51, 52, 53, 54, 55, 56, 57, 58, 59, 60, 61, 62, 63, 64, 65, 66, 67, 68, 69, 70, 71, 72, 73, 74, 75, 76, 77, 78, 79, 80, 81, 82, 83, 84, 85, 86, 87, 88, 89, 90, 91, 92, 93, 94, 95, 96, 97, 114, 115, 116, 117, 118, 119, 120, 121, 122, 123, 124, 125, 126, 127, 128, 129, 130, 131, 132, 133, 134, 135, 136, 137, 138, 139, 140] (by decide +kernel) (by decide +kernel)
set_option maxRecDepth 20000 in
theorem gX8_many_X8_openWhole : GoodIn wsX8_many (wsV RX8 142 RX8 yX8_openWhole wsX8_openWhole) := goodIn_app (goodIn_of _ (by decide +kernel)) ggX8_many_X8_openWhole
set_option maxRecDepth 20000 in
theorem ggX8_many_X0_total : GoodIn wsX8_many wsX0_total := goodIn_r _ [101, 16, 52, 55, 102, 103, 104, 14, 105, 57, 53, 54, 56, 66, 67, 68, 69, 70, 71, 124, 125, 126, 127, 128, 129, 130, 131, 132, 133, 134, 135, 136, 140] (by decide +kernel) (by decide +kernel)
set_option maxRecDepth 20000 in
theorem gX8_many_X0_total : GoodIn wsX8_many (wsV RX8 145 RX0 yX0_total wsX0_total) := goodIn_app (goodIn_of _ (by decide +kernel)) ggX8_many_X0_total
set_option maxRecDepth 20000 in
theorem ggX8_many_X8_capped : GoodIn wsX8_many wsX8_capped := goodIn_r _ [108, 109, 110, 111, 112, 113] (by decide +kernel) (by decide +kernel)
set_option maxRecDepth 20000 in
theorem gX8_many_X8_capped : GoodIn wsX8_many (va_wsS RX8 149 yX8_capped wsX8_capped) := goodIn_app (goodIn_of _ (by decide +kernel)) ggX8_many_X8_capped
theorem dX8_many_0 : decode cX8_many 0 = .ok (.iload_n 1, 1) := by decide +kernel
theorem dX8_many_1 : decode cX8_many 1 = .ok (.iload_n 2, 1) := by decide +kernel
theorem dX8_many_2 : decode cX8_many 2 = .ok (.invokestatic 92, 3) := by decide +kernel
theorem dX8_many_5 : decode cX8_many 5 = .ok (.ifCond .ne 6, 3) := by decide +kernel
theorem dX8_many_8 : decode cX8_many 8 = .ok (.bipush (-3), 2) := by decide +kernel
theorem dX8_many_10 : decode cX8_many 10 = .ok (.ireturn, 1) := by decide +kernel
theorem dX8_many_11 : decode cX8_many 11 = .ok (.aload_n 0, 1) := by decide +kernel
theorem dX8_many_12 : decode cX8_many 12 = .ok (.iload_n 1, 1) := by decide +kernel
theorem dX8_many_13 : decode cX8_many 13 = .ok (.iload_n 2, 1) := by decide +kernel
theorem dX8_many_14 : decode cX8_many 14 = .ok (.invokevirtual 142, 3) := by decide +kernel
theorem dX8_many_17 : decode cX8_many 17 = .ok (.aload_n 0, 1) := by decide +kernel
theorem dX8_many_18 : decode cX8_many 18 = .ok (.getfield 46, 3) := by decide +kernel
theorem dX8_many_21 : decode cX8_many 21 = .ok (.iconst 0, 1) := by decide +kernel
theorem dX8_many_22 : decode cX8_many 22 = .ok (.invokevirtual 145, 3) := by decide +kernel
theorem dX8_many_25 : decode cX8_many 25 = .ok (.invokestatic 149, 3) := by decide +kernel
theorem dX8_many_28 : decode cX8_many 28 = .ok (.ireturn, 1) := by decide +kernel
set_option maxRecDepth 20000 in
theorem ggX8_picture_X8_isSize : GoodIn wsX8_picture wsX8_isSize := goodIn_r _ [8] (by decide +kernel) (by decide +kernel)
set_option maxRecDepth 20000 in
theorem gX8_picture_X8_isSize : GoodIn wsX8_picture (va_wsS RX8 92 yX8_isSize wsX8_isSize) := goodIn_app (goodIn_of _ (by decide +kernel)) ggX8_picture_X8_isSize
set_option maxRecDepth 20000 in
theorem ggX8_picture_X8_openWhole : GoodIn wsX8_picture wsX8_openWhole := goodIn_r _ [12, 2, 13, 14, 15, 16, 17, 18, 19, 20, 21, 22, 23, 24, 25, 26, 27, 28, 29, 30, 31, 32, 33, 34, 35, 36, 37, 38, 39, 40, 41, 42, 43, 44, 45, 46, 47, 48, 49, 50, 51, 52, 53, 54, 55, 56, 57, 58, 59, 60, 61, 62, 63, 64, 65, 66, 67, 68, 69, 70, 71, 72, 73, 74, 75, 76, 77, 78, 79, 80, 81, 82, 83, 84, 85, 86, 87, 88, 89, 90, 91, 92, 93, 94, 95, 96, 97, 98, 99, 100, 119, 120, 121, 122, 123, 124, 125, 126, 127, 128, 129, 130, 131, 132, 133, 134, 135, 139, 140, 141, 142, 143, 144, 136, 137, 138, 145] (by decide +kernel) (by decide +kernel)
set_option maxRecDepth 20000 in
theorem gX8_picture_X8_openWhole : GoodIn wsX8_picture (wsV RX8 142 RX8 yX8_openWhole wsX8_openWhole) := goodIn_app (goodIn_of _ (by decide +kernel)) ggX8_picture_X8_openWhole
set_option maxRecDepth 20000 in
theorem ggX8_picture_X0_turnTo : GoodIn wsX8_picture wsX0_turnTo := goodIn_r _ [104, 20, 54, 19, 55, 105, 106, 107, 17, 108, 109, 58, 57, 110, 111, 112, 113, 60, 56, 59, 69, 70, 71, 72, 73, 74, 114, 115, 116, 117, 118, 65, 66, 67, 25, 68, 31, 28, 129, 130, 131, 132, 133, 134, 135, 136, 137, 138, 139, 140, 141, 142, 143, 144, 145] (by decide +kernel) (by decide +kernel)
set_option maxRecDepth 20000 in
theorem gX8_picture_X0_turnTo : GoodIn wsX8_picture (wsV RX8 154 RX0 yX0_turnTo wsX0_turnTo) := goodIn_app (goodIn_of _ (by decide +kernel)) ggX8_picture_X0_turnTo
theorem dX8_picture_0 : decode cX8_picture 0 = .ok (.iload_n 1, 1) := by decide +kernel
theorem dX8_picture_1 : decode cX8_picture 1 = .ok (.iload_n 2, 1) := by decide +kernel
theorem dX8_picture_2 : decode cX8_picture 2 = .ok (.invokestatic 92, 3) := by decide +kernel
theorem dX8_picture_5 : decode cX8_picture 5 = .ok (.ifCond .eq 26, 3) := by decide +kernel
theorem dX8_picture_8 : decode cX8_picture 8 = .ok (.iload_n 3, 1) := by decide +kernel
theorem dX8_picture_9 : decode cX8_picture 9 = .ok (.ifCond .lt 22, 3) := by decide +kernel
theorem dX8_picture_12 : decode cX8_picture 12 = .ok (.iload_n 3, 1) := by decide +kernel
theorem dX8_picture_13 : decode cX8_picture 13 = .ok (.ldc 153, 2) := by decide +kernel
theorem dX8_picture_15 : decode cX8_picture 15 = .ok (.if_icmp .gt 16, 3) := by decide +kernel
theorem dX8_picture_18 : decode cX8_picture 18 = .ok (.iload 4, 2) := by decide +kernel
theorem dX8_picture_20 : decode cX8_picture 20 = .ok (.ifCond .lt 11, 3) := by decide +kernel
theorem dX8_picture_23 : decode cX8_picture 23 = .ok (.iload 4, 2) := by decide +kernel
theorem dX8_picture_25 : decode cX8_picture 25 = .ok (.iload_n 1, 1) := by decide +kernel
theorem dX8_picture_26 : decode cX8_picture 26 = .ok (.iload_n 2, 1) := by decide +kernel
theorem dX8_picture_27 : decode cX8_picture 27 = .ok (.imul, 1) := by decide +kernel
theorem dX8_picture_28 : decode cX8_picture 28 = .ok (.if_icmp .lt 6, 3) := by decide +kernel
theorem dX8_picture_31 : decode cX8_picture 31 = .ok (.bipush (-3), 2) := by decide +kernel
theorem dX8_picture_33 : decode cX8_picture 33 = .ok (.ireturn, 1) := by decide +kernel
theorem dX8_picture_34 : decode cX8_picture 34 = .ok (.aload_n 0, 1) := by decide +kernel
theorem dX8_picture_35 : decode cX8_picture 35 = .ok (.iload_n 1, 1) := by decide +kernel
theorem dX8_picture_36 : decode cX8_picture 36 = .ok (.iload_n 2, 1) := by decide +kernel
theorem dX8_picture_37 : decode cX8_picture 37 = .ok (.invokevirtual 142, 3) := by decide +kernel
theorem dX8_picture_40 : decode cX8_picture 40 = .ok (.aload_n 0, 1) := by decide +kernel
theorem dX8_picture_41 : decode cX8_picture 41 = .ok (.getfield 46, 3) := by decide +kernel
theorem dX8_picture_44 : decode cX8_picture 44 = .ok (.iload_n 3, 1) := by decide +kernel
theorem dX8_picture_45 : decode cX8_picture 45 = .ok (.i2l, 1) := by decide +kernel
theorem dX8_picture_46 : decode cX8_picture 46 = .ok (.invokevirtual 154, 3) := by decide +kernel
theorem dX8_picture_49 : decode cX8_picture 49 = .ok (.ifCond .eq 19, 3) := by decide +kernel
theorem dX8_picture_52 : decode cX8_picture 52 = .ok (.aload_n 0, 1) := by decide +kernel
theorem dX8_picture_53 : decode cX8_picture 53 = .ok (.getfield 46, 3) := by decide +kernel
theorem dX8_picture_56 : decode cX8_picture 56 = .ok (.getfield 158, 3) := by decide +kernel
theorem dX8_picture_59 : decode cX8_picture 59 = .ok (.getfield 106, 3) := by decide +kernel
theorem dX8_picture_62 : decode cX8_picture 62 = .ok (.iload 4, 2) := by decide +kernel
theorem dX8_picture_64 : decode cX8_picture 64 = .ok (.iaload, 1) := by decide +kernel
theorem dX8_picture_65 : decode cX8_picture 65 = .ok (.goto 4, 3) := by decide +kernel
theorem dX8_picture_68 : decode cX8_picture 68 = .ok (.iconst (-1), 1) := by decide +kernel
theorem dX8_picture_69 : decode cX8_picture 69 = .ok (.ireturn, 1) := by decide +kernel
set_option maxRecDepth 20000 in
theorem ggX8_rank_X4_gaps : GoodIn wsX8_rank wsX4_gaps := goodIn_r _ [10, 11, 12, 13, 14, 9, 15, 16, 17, 156, 157, 158] (by decide +kernel) (by decide +kernel)
set_option maxRecDepth 20000 in
theorem gX8_rank_X4_gaps : GoodIn wsX8_rank (wsV RX8 117 RX4 yX4_gaps wsX4_gaps) := goodIn_app (goodIn_of _ (by decide +kernel)) ggX8_rank_X4_gaps
set_option maxRecDepth 20000 in
theorem ggX8_rank_X3_firstWrong : GoodIn wsX8_rank wsX3_firstWrong := goodIn_r _ [22, 23, 24, 25, 26, 27, 9, 28, 29, 30, 31, 32, 16, 17, 11, 33, 34, 35, 21, 36, 37, 156, 157, 158, 159] (by decide +kernel) (by decide +kernel)
set_option maxRecDepth 20000 in
theorem gX8_rank_X3_firstWrong : GoodIn wsX8_rank (wsV RX8 131 RX3 yX3_firstWrong wsX3_firstWrong) := goodIn_app (goodIn_of _ (by decide +kernel)) ggX8_rank_X3_firstWrong
set_option maxRecDepth 20000 in
theorem ggX8_rank_X8_openWhole : GoodIn wsX8_rank wsX8_openWhole := goodIn_r _ [42, 5, 43, 44, 45, 46, 47, 48, 49, 50, 51, 52, 53, 54, 55, 56, 57, 58, 59, 60, 61, 62, 63, 64, 65, 66, 67, 68, 69, 9, 70, 16, 17, 11, 71, 72, 73, 74, 75, 76, 77, 78, 79, 80, 81, 82, 83, 84, 85, 86, 87, 88, 89, 90, 91, 92, 93, 94, 95, 96, 97, 21, 98, 37, 99, 100, 101, 102, 103, 104, 105, 106, 107, 108, 109, 110, 111, 112, 113, 114, 115, 116, 117, 118, 119, 120, 121, 122, 123, 124, 146, 147, 148, 149, 150, 151, 152, 153, 154, 155, 160, 161, 162, 163, 164, 165, 166, 167, 168, 169, 170, 171, 172, 156, 157, 158, 159] (by decide +kernel) (by decide +kernel)
set_option maxRecDepth 20000 in
theorem gX8_rank_X8_openWhole : GoodIn wsX8_rank (wsV RX8 142 RX8 yX8_openWhole wsX8_openWhole) := goodIn_app (goodIn_of _ (by decide +kernel)) ggX8_rank_X8_openWhole
set_option maxRecDepth 20000 in
theorem ggX8_rank_X0_before : GoodIn wsX8_rank wsX0_before := goodIn_r _ [128, 49, 84, 50, 80, 83, 129, 130, 131, 55, 132, 58, 57, 133, 30, 31, 9, 32, 16, 17, 11, 134, 135, 136, 47, 137, 86, 82, 85, 95, 96, 97, 21, 98, 37, 160, 161, 162, 163, 164, 165, 166, 167, 168, 169, 170, 171, 172, 156, 157, 158, 159] (by decide +kernel) (by decide +kernel)
set_option maxRecDepth 20000 in
theorem gX8_rank_X0_before : GoodIn wsX8_rank (wsV RX8 161 RX0 yX0_before wsX0_before) := goodIn_app (goodIn_of _ (by decide +kernel)) ggX8_rank_X0_before
set_option maxRecDepth 20000 in
theorem ggX8_rank_X8_capped : GoodIn wsX8_rank wsX8_capped := goodIn_r _ [140, 141, 142, 143, 144, 145] (by decide +kernel) (by decide +kernel)
set_option maxRecDepth 20000 in
theorem gX8_rank_X8_capped : GoodIn wsX8_rank (va_wsS RX8 149 yX8_capped wsX8_capped) := goodIn_app (goodIn_of _ (by decide +kernel)) ggX8_rank_X8_capped
theorem dX8_rank_0 : decode cX8_rank 0 = .ok (.aload_n 0, 1) := by decide +kernel
theorem dX8_rank_1 : decode cX8_rank 1 = .ok (.getfield 23, 3) := by decide +kernel
theorem dX8_rank_4 : decode cX8_rank 4 = .ok (.invokevirtual 117, 3) := by decide +kernel
theorem dX8_rank_7 : decode cX8_rank 7 = .ok (.ifCond .le 6, 3) := by decide +kernel
theorem dX8_rank_10 : decode cX8_rank 10 = .ok (.bipush (-4), 2) := by decide +kernel
theorem dX8_rank_12 : decode cX8_rank 12 = .ok (.ireturn, 1) := by decide +kernel
theorem dX8_rank_13 : decode cX8_rank 13 = .ok (.aload_n 0, 1) := by decide +kernel
theorem dX8_rank_14 : decode cX8_rank 14 = .ok (.getfield 16, 3) := by decide +kernel
theorem dX8_rank_17 : decode cX8_rank 17 = .ok (.aload_n 0, 1) := by decide +kernel
theorem dX8_rank_18 : decode cX8_rank 18 = .ok (.getfield 23, 3) := by decide +kernel
theorem dX8_rank_21 : decode cX8_rank 21 = .ok (.invokevirtual 131, 3) := by decide +kernel
theorem dX8_rank_24 : decode cX8_rank 24 = .ok (.iconst (-1), 1) := by decide +kernel
theorem dX8_rank_25 : decode cX8_rank 25 = .ok (.if_icmp .eq 5, 3) := by decide +kernel
theorem dX8_rank_28 : decode cX8_rank 28 = .ok (.iconst (-1), 1) := by decide +kernel
theorem dX8_rank_29 : decode cX8_rank 29 = .ok (.ireturn, 1) := by decide +kernel
theorem dX8_rank_30 : decode cX8_rank 30 = .ok (.aload_n 0, 1) := by decide +kernel
theorem dX8_rank_31 : decode cX8_rank 31 = .ok (.aload_n 0, 1) := by decide +kernel
theorem dX8_rank_32 : decode cX8_rank 32 = .ok (.getfield 23, 3) := by decide +kernel
theorem dX8_rank_35 : decode cX8_rank 35 = .ok (.getfield 121, 3) := by decide +kernel
theorem dX8_rank_38 : decode cX8_rank 38 = .ok (.aload_n 0, 1) := by decide +kernel
theorem dX8_rank_39 : decode cX8_rank 39 = .ok (.getfield 23, 3) := by decide +kernel
theorem dX8_rank_42 : decode cX8_rank 42 = .ok (.getfield 124, 3) := by decide +kernel
theorem dX8_rank_45 : decode cX8_rank 45 = .ok (.invokevirtual 142, 3) := by decide +kernel
theorem dX8_rank_48 : decode cX8_rank 48 = .ok (.aload_n 0, 1) := by decide +kernel
theorem dX8_rank_49 : decode cX8_rank 49 = .ok (.getfield 46, 3) := by decide +kernel
theorem dX8_rank_52 : decode cX8_rank 52 = .ok (.aload_n 0, 1) := by decide +kernel
theorem dX8_rank_53 : decode cX8_rank 53 = .ok (.getfield 23, 3) := by decide +kernel
theorem dX8_rank_56 : decode cX8_rank 56 = .ok (.invokevirtual 161, 3) := by decide +kernel
theorem dX8_rank_59 : decode cX8_rank 59 = .ok (.invokestatic 149, 3) := by decide +kernel
theorem dX8_rank_62 : decode cX8_rank 62 = .ok (.ireturn, 1) := by decide +kernel
set_option maxRecDepth 20000 in
theorem ggX8_sizes_X8_openWhole : GoodIn wsX8_sizes wsX8_openWhole := goodIn_r _ [6, 1, 7, 8, 9, 10, 11, 12, 13, 14, 15, 16, 17, 18, 19, 20, 21, 22, 23, 24, 25, 26, 27, 28, 29, 30, 31, 32, 33, 34, 35, 36, 37, 38, 39, 40, 41, 42, 43, 44, 45, 46, 47, 48, 49, 50, 51, 52, 53, 54, 55, 56, 57, 58, 59, 60, 61, 62, 63, 64, 65, 66, 67, 68, 69, 70, 71, 72, 73, 74, 75, 76, 77, 78, 79, 80, 81, 82, 83, 84, 85, 86, 87, 88, 89, 90, 91, 92, 93, 94, 103, 104, 105, 106, 107, 108, 109, 110, 111, 112, 113, 114, 115, 116, 117, 118, 119, 120, 121, 122, 123, 124, 125, 126, 127, 128, 129] (by decide +kernel) (by decide +kernel)
set_option maxRecDepth 20000 in
theorem gX8_sizes_X8_openWhole : GoodIn wsX8_sizes (wsV RX8 142 RX8 yX8_openWhole wsX8_openWhole) := goodIn_app (goodIn_of _ (by decide +kernel)) ggX8_sizes_X8_openWhole
set_option maxRecDepth 20000 in
theorem ggX8_sizes_X0_total : GoodIn wsX8_sizes wsX0_total := goodIn_r _ [98, 13, 49, 52, 99, 100, 101, 11, 102, 54, 50, 51, 53, 63, 64, 65, 66, 67, 68, 113, 114, 115, 116, 117, 118, 119, 120, 121, 122, 123, 124, 125, 129] (by decide +kernel) (by decide +kernel)
set_option maxRecDepth 20000 in
theorem gX8_sizes_X0_total : GoodIn wsX8_sizes (wsV RX8 145 RX0 yX0_total wsX0_total) := goodIn_app (goodIn_of _ (by decide +kernel)) ggX8_sizes_X0_total
theorem dX8_sizes_0 : decode cX8_sizes 0 = .ok (.iconst 0, 1) := by decide +kernel
theorem dX8_sizes_1 : decode cX8_sizes 1 = .ok (.istore_n 1, 1) := by decide +kernel
theorem dX8_sizes_2 : decode cX8_sizes 2 = .ok (.iconst 1, 1) := by decide +kernel
theorem dX8_sizes_3 : decode cX8_sizes 3 = .ok (.istore_n 2, 1) := by decide +kernel
theorem dX8_sizes_4 : decode cX8_sizes 4 = .ok (.iload_n 2, 1) := by decide +kernel
theorem dX8_sizes_5 : decode cX8_sizes 5 = .ok (.iconst 5, 1) := by decide +kernel
theorem dX8_sizes_6 : decode cX8_sizes 6 = .ok (.if_icmp .gt 57, 3) := by decide +kernel
theorem dX8_sizes_9 : decode cX8_sizes 9 = .ok (.aload_n 0, 1) := by decide +kernel
theorem dX8_sizes_10 : decode cX8_sizes 10 = .ok (.iconst 5, 1) := by decide +kernel
theorem dX8_sizes_11 : decode cX8_sizes 11 = .ok (.iload_n 2, 1) := by decide +kernel
theorem dX8_sizes_12 : decode cX8_sizes 12 = .ok (.invokevirtual 142, 3) := by decide +kernel
theorem dX8_sizes_15 : decode cX8_sizes 15 = .ok (.iconst 1, 1) := by decide +kernel
theorem dX8_sizes_16 : decode cX8_sizes 16 = .ok (.istore_n 3, 1) := by decide +kernel
theorem dX8_sizes_17 : decode cX8_sizes 17 = .ok (.iload_n 3, 1) := by decide +kernel
theorem dX8_sizes_18 : decode cX8_sizes 18 = .ok (.iconst 5, 1) := by decide +kernel
theorem dX8_sizes_19 : decode cX8_sizes 19 = .ok (.if_icmp .gt 38, 3) := by decide +kernel
theorem dX8_sizes_22 : decode cX8_sizes 22 = .ok (.aload_n 0, 1) := by decide +kernel
theorem dX8_sizes_23 : decode cX8_sizes 23 = .ok (.getfield 46, 3) := by decide +kernel
theorem dX8_sizes_26 : decode cX8_sizes 26 = .ok (.iconst 5, 1) := by decide +kernel
theorem dX8_sizes_27 : decode cX8_sizes 27 = .ok (.iload_n 3, 1) := by decide +kernel
theorem dX8_sizes_28 : decode cX8_sizes 28 = .ok (.isub, 1) := by decide +kernel
theorem dX8_sizes_29 : decode cX8_sizes 29 = .ok (.invokevirtual 145, 3) := by decide +kernel
theorem dX8_sizes_32 : decode cX8_sizes 32 = .ok (.lconst 0, 1) := by decide +kernel
theorem dX8_sizes_33 : decode cX8_sizes 33 = .ok (.lcmp, 1) := by decide +kernel
theorem dX8_sizes_34 : decode cX8_sizes 34 = .ok (.ifCond .le 17, 3) := by decide +kernel
theorem dX8_sizes_37 : decode cX8_sizes 37 = .ok (.iload_n 1, 1) := by decide +kernel
theorem dX8_sizes_38 : decode cX8_sizes 38 = .ok (.iconst 1, 1) := by decide +kernel
theorem dX8_sizes_39 : decode cX8_sizes 39 = .ok (.iconst 5, 1) := by decide +kernel
theorem dX8_sizes_40 : decode cX8_sizes 40 = .ok (.iload_n 3, 1) := by decide +kernel
theorem dX8_sizes_41 : decode cX8_sizes 41 = .ok (.iconst 1, 1) := by decide +kernel
theorem dX8_sizes_42 : decode cX8_sizes 42 = .ok (.isub, 1) := by decide +kernel
theorem dX8_sizes_43 : decode cX8_sizes 43 = .ok (.imul, 1) := by decide +kernel
theorem dX8_sizes_44 : decode cX8_sizes 44 = .ok (.iload_n 2, 1) := by decide +kernel
theorem dX8_sizes_45 : decode cX8_sizes 45 = .ok (.iadd, 1) := by decide +kernel
theorem dX8_sizes_46 : decode cX8_sizes 46 = .ok (.iconst 1, 1) := by decide +kernel
theorem dX8_sizes_47 : decode cX8_sizes 47 = .ok (.isub, 1) := by decide +kernel
theorem dX8_sizes_48 : decode cX8_sizes 48 = .ok (.ishl, 1) := by decide +kernel
theorem dX8_sizes_49 : decode cX8_sizes 49 = .ok (.ior, 1) := by decide +kernel
theorem dX8_sizes_50 : decode cX8_sizes 50 = .ok (.istore_n 1, 1) := by decide +kernel
theorem dX8_sizes_51 : decode cX8_sizes 51 = .ok (.iinc 3 1, 3) := by decide +kernel
theorem dX8_sizes_54 : decode cX8_sizes 54 = .ok (.goto (-37), 3) := by decide +kernel
theorem dX8_sizes_57 : decode cX8_sizes 57 = .ok (.iinc 2 1, 3) := by decide +kernel
theorem dX8_sizes_60 : decode cX8_sizes 60 = .ok (.goto (-56), 3) := by decide +kernel
theorem dX8_sizes_63 : decode cX8_sizes 63 = .ok (.iload_n 1, 1) := by decide +kernel
theorem dX8_sizes_64 : decode cX8_sizes 64 = .ok (.ireturn, 1) := by decide +kernel
set_option maxRecDepth 20000 in
theorem ggX8_endings_X8_openEndings : GoodIn wsX8_endings wsX8_openEndings := goodIn_r _ [6, 1, 7, 8, 9, 10, 11, 12, 13, 14, 15, 16, 17, 18, 19, 20, 21, 22, 23, 24, 25, 26, 27, 28, 29, 30, 31, 32, 33, 34, 35, 36, 37, 38, 39, 40, 41, 42, 43, 44, 45, 46, 47, 48, 49, 50, 51, 52, 120, 121, 122, 123, 124, 125, 126, 127, 128, 129, 130, 131, 132, 133, 134, 135, 136, 137, 138, 139, 140, 141, 142, 143, 144, 145] (by decide +kernel) (by decide +kernel)
set_option maxRecDepth 20000 in
theorem gX8_endings_X8_openEndings : GoodIn wsX8_endings (wsV RX8 165 RX8 yX8_openEndings wsX8_openEndings) := goodIn_app (goodIn_of _ (by decide +kernel)) ggX8_endings_X8_openEndings
set_option maxRecDepth 20000 in
theorem ggX8_endings_X0_fill : GoodIn wsX8_endings wsX0_fill := goodIn_r _ [56, 19, 57, 18, 58, 59, 60, 61, 62, 63, 64, 65, 66, 16, 67, 20, 68, 69, 70, 24, 71, 30, 27, 72, 73, 74, 75, 76, 77, 78, 79, 80, 81, 82, 83, 84, 85, 86, 87, 88, 89, 90, 91, 92, 93, 94, 95, 96, 97, 98, 99, 100, 101, 102, 103, 133, 134, 135, 136, 137, 138, 139, 130, 131, 132, 140, 141, 142, 143, 144, 145, 146] (by decide +kernel) (by decide +kernel)
set_option maxRecDepth 20000 in
theorem gX8_endings_X0_fill : GoodIn wsX8_endings (wsV RX8 168 RX0 yX0_fill wsX0_fill) := goodIn_app (goodIn_of _ (by decide +kernel)) ggX8_endings_X0_fill
set_option maxRecDepth 20000 in
theorem ggX8_endings_X0_total : GoodIn wsX8_endings wsX0_total := goodIn_r _ [107, 18, 58, 61, 108, 109, 110, 16, 111, 63, 59, 60, 62, 72, 73, 74, 75, 76, 77, 133, 134, 135, 136, 137, 138, 139, 140, 141, 142, 143, 144, 145, 146] (by decide +kernel) (by decide +kernel)
set_option maxRecDepth 20000 in
theorem gX8_endings_X0_total : GoodIn wsX8_endings (wsV RX8 145 RX0 yX0_total wsX0_total) := goodIn_app (goodIn_of _ (by decide +kernel)) ggX8_endings_X0_total
set_option maxRecDepth 20000 in
theorem ggX8_endings_X8_capped : GoodIn wsX8_endings wsX8_capped := goodIn_r _ [114, 115, 116, 117, 118, 119] (by decide +kernel) (by decide +kernel)
set_option maxRecDepth 20000 in
theorem gX8_endings_X8_capped : GoodIn wsX8_endings (va_wsS RX8 149 yX8_capped wsX8_capped) := goodIn_app (goodIn_of _ (by decide +kernel)) ggX8_endings_X8_capped
theorem dX8_endings_0 : decode cX8_endings 0 = .ok (.aload_n 0, 1) := by decide +kernel
theorem dX8_endings_1 : decode cX8_endings 1 = .ok (.invokevirtual 165, 3) := by decide +kernel
theorem dX8_endings_4 : decode cX8_endings 4 = .ok (.aload_n 0, 1) := by decide +kernel
theorem dX8_endings_5 : decode cX8_endings 5 = .ok (.getfield 46, 3) := by decide +kernel
theorem dX8_endings_8 : decode cX8_endings 8 = .ok (.invokevirtual 168, 3) := by decide +kernel
theorem dX8_endings_11 : decode cX8_endings 11 = .ok (.aload_n 0, 1) := by decide +kernel
theorem dX8_endings_12 : decode cX8_endings 12 = .ok (.getfield 46, 3) := by decide +kernel
theorem dX8_endings_15 : decode cX8_endings 15 = .ok (.iconst 0, 1) := by decide +kernel
theorem dX8_endings_16 : decode cX8_endings 16 = .ok (.invokevirtual 145, 3) := by decide +kernel
theorem dX8_endings_19 : decode cX8_endings 19 = .ok (.invokestatic 149, 3) := by decide +kernel
theorem dX8_endings_22 : decode cX8_endings 22 = .ok (.ireturn, 1) := by decide +kernel
set_option maxRecDepth 20000 in
theorem ggX8_ending_X4_holds : GoodIn wsX8_ending wsX4_holds := goodIn_r _ [6, 7, 8, 9, 5, 10, 11, 12, 150, 151, 152] (by decide +kernel) (by decide +kernel)
set_option maxRecDepth 20000 in
theorem gX8_ending_X4_holds : GoodIn wsX8_ending (wsV RX8 100 RX4 yX4_holds wsX4_holds) := goodIn_app (goodIn_of _ (by decide +kernel)) ggX8_ending_X4_holds
set_option maxRecDepth 20000 in
theorem ggX8_ending_X8_openEndings : GoodIn wsX8_ending wsX8_openEndings := goodIn_r _ [17, 18, 19, 1, 20, 21, 22, 23, 24, 25, 26, 27, 28, 29, 30, 31, 32, 33, 34, 35, 36, 37, 38, 39, 40, 41, 42, 43, 44, 45, 46, 47, 48, 49, 5, 50, 11, 12, 51, 52, 53, 54, 55, 56, 57, 8, 9, 10, 140, 141, 142, 143, 144, 145, 146, 147, 148, 149, 150, 151, 152, 153, 154, 155, 156, 157, 158, 159, 160, 161, 162, 163, 164, 165] (by decide +kernel) (by decide +kernel)
set_option maxRecDepth 20000 in
theorem gX8_ending_X8_openEndings : GoodIn wsX8_ending (wsV RX8 165 RX8 yX8_openEndings wsX8_openEndings) := goodIn_app (goodIn_of _ (by decide +kernel)) ggX8_ending_X8_openEndings
set_option maxRecDepth 20000 in
theorem ggX8_ending_X8_firstColour : GoodIn wsX8_ending wsX8_firstColour := goodIn_r _ [61, 18, 62, 22, 63, 64, 65, 27, 66, 30, 67, 29, 68, 69, 70, 71, 72, 73, 74, 75, 76, 77, 31, 78, 79, 80, 35, 81, 41, 38, 82, 83, 84, 85, 86, 87, 88, 89, 90, 91, 92, 93, 94, 95, 96, 97, 98, 99, 100, 101, 102, 103, 104, 105, 106, 107, 108, 109, 110, 111, 112, 113, 114, 115, 116, 117, 118, 119, 120, 121, 122, 123, 124, 125, 126, 127, 128, 129, 130, 131, 132, 133, 134, 135, 136, 137, 138, 139, 140, 141, 142, 143, 144, 145, 146, 147, 148, 149, 153, 154, 155, 156, 157, 158, 159, 150, 151, 152, 160, 161, 162, 163, 164, 165, 166] (by decide +kernel) (by decide +kernel)
set_option maxRecDepth 20000 in
theorem gX8_ending_X8_firstColour : GoodIn wsX8_ending (wsV RX8 171 RX8 yX8_firstColour wsX8_firstColour) := goodIn_app (goodIn_of _ (by decide +kernel)) ggX8_ending_X8_firstColour
theorem dX8_ending_0 : decode cX8_ending 0 = .ok (.aload_n 0, 1) := by decide +kernel
theorem dX8_ending_1 : decode cX8_ending 1 = .ok (.getfield 23, 3) := by decide +kernel
theorem dX8_ending_4 : decode cX8_ending 4 = .ok (.iload_n 1, 1) := by decide +kernel
theorem dX8_ending_5 : decode cX8_ending 5 = .ok (.invokevirtual 100, 3) := by decide +kernel
theorem dX8_ending_8 : decode cX8_ending 8 = .ok (.ifCond .ne 6, 3) := by decide +kernel
theorem dX8_ending_11 : decode cX8_ending 11 = .ok (.bipush (-2), 2) := by decide +kernel
theorem dX8_ending_13 : decode cX8_ending 13 = .ok (.ireturn, 1) := by decide +kernel
theorem dX8_ending_14 : decode cX8_ending 14 = .ok (.aload_n 0, 1) := by decide +kernel
theorem dX8_ending_15 : decode cX8_ending 15 = .ok (.invokevirtual 165, 3) := by decide +kernel
theorem dX8_ending_18 : decode cX8_ending 18 = .ok (.aload_n 0, 1) := by decide +kernel
theorem dX8_ending_19 : decode cX8_ending 19 = .ok (.iload_n 1, 1) := by decide +kernel
theorem dX8_ending_20 : decode cX8_ending 20 = .ok (.invokevirtual 171, 3) := by decide +kernel
theorem dX8_ending_23 : decode cX8_ending 23 = .ok (.ireturn, 1) := by decide +kernel
set_option maxRecDepth 20000 in
theorem ggX8_sure_X4_holds : GoodIn wsX8_sure wsX4_holds := goodIn_r _ [8, 9, 10, 11, 7, 12, 13, 14, 161, 162, 163] (by decide +kernel) (by decide +kernel)
set_option maxRecDepth 20000 in
theorem gX8_sure_X4_holds : GoodIn wsX8_sure (wsV RX8 100 RX4 yX4_holds wsX4_holds) := goodIn_app (goodIn_of _ (by decide +kernel)) ggX8_sure_X4_holds
set_option maxRecDepth 20000 in
theorem ggX8_sure_X8_openEndings : GoodIn wsX8_sure wsX8_openEndings := goodIn_r _ [19, 2, 20, 1, 21, 22, 23, 3, 24, 25, 26, 27, 28, 29, 30, 31, 32, 33, 34, 35, 36, 37, 38, 39, 40, 41, 42, 43, 44, 45, 46, 47, 48, 49, 7, 50, 13, 14, 51, 52, 53, 54, 55, 56, 57, 10, 11, 12, 144, 145, 146, 147, 148, 149, 150, 151, 152, 153, 161, 162, 163, 154, 155, 156, 157, 158, 159, 160, 164, 165, 166, 167, 168, 169] (by decide +kernel) (by decide +kernel)
set_option maxRecDepth 20000 in
theorem gX8_sure_X8_openEndings : GoodIn wsX8_sure (wsV RX8 165 RX8 yX8_openEndings wsX8_openEndings) := goodIn_app (goodIn_of _ (by decide +kernel)) ggX8_sure_X8_openEndings
set_option maxRecDepth 20000 in
theorem ggX8_sure_X8_firstColour : GoodIn wsX8_sure wsX8_firstColour := goodIn_r _ [61, 2, 62, 23, 63, 64, 65, 27, 66, 30, 67, 29, 68, 69, 70, 71, 72, 73, 74, 75, 76, 77, 31, 78, 79, 80, 35, 81, 41, 38, 82, 83, 84, 85, 86, 87, 88, 89, 90, 91, 92, 93, 94, 95, 96, 97, 98, 99, 100, 101, 102, 103, 104, 105, 106, 107, 108, 109, 110, 111, 112, 113, 114, 115, 116, 117, 118, 119, 120, 121, 122, 123, 124, 125, 126, 127, 128, 129, 130, 131, 132, 133, 134, 135, 136, 137, 138, 139, 144, 145, 146, 147, 148, 149, 150, 151, 152, 153, 154, 155, 156, 157, 158, 159, 160, 161, 162, 163, 164, 165, 166, 167, 168, 169, 170] (by decide +kernel) (by decide +kernel)
set_option maxRecDepth 20000 in
theorem gX8_sure_X8_firstColour : GoodIn wsX8_sure (wsV RX8 171 RX8 yX8_firstColour wsX8_firstColour) := goodIn_app (goodIn_of _ (by decide +kernel)) ggX8_sure_X8_firstColour
set_option maxRecDepth 20000 in
theorem ggX8_sure_X0_fill : GoodIn wsX8_sure wsX0_fill := goodIn_r _ [66, 30, 67, 29, 68, 69, 70, 71, 72, 73, 74, 75, 76, 27, 77, 31, 78, 79, 80, 35, 81, 41, 38, 82, 83, 84, 85, 86, 87, 88, 89, 90, 91, 92, 93, 94, 95, 96, 97, 98, 99, 100, 101, 102, 103, 104, 105, 106, 107, 108, 109, 110, 111, 112, 113, 154, 155, 156, 157, 158, 159, 160, 161, 162, 163, 164, 165, 166, 167, 168, 169, 170] (by decide +kernel) (by decide +kernel)
set_option maxRecDepth 20000 in
theorem gX8_sure_X0_fill : GoodIn wsX8_sure (wsV RX8 168 RX0 yX0_fill wsX0_fill) := goodIn_app (goodIn_of _ (by decide +kernel)) ggX8_sure_X0_fill
set_option maxRecDepth 20000 in
theorem ggX8_sure_X0_total : GoodIn wsX8_sure wsX0_total := goodIn_r _ [143, 29, 68, 71, 131, 132, 133, 27, 134, 73, 69, 70, 72, 82, 83, 84, 85, 86, 87, 154, 155, 156, 157, 158, 159, 160, 164, 165, 166, 167, 168, 169, 170] (by decide +kernel) (by decide +kernel)
set_option maxRecDepth 20000 in
theorem gX8_sure_X0_total : GoodIn wsX8_sure (wsV RX8 145 RX0 yX0_total wsX0_total) := goodIn_app (goodIn_of _ (by decide +kernel)) ggX8_sure_X0_total
theorem dX8_sure_0 : decode cX8_sure 0 = .ok (.aload_n 0, 1) := by decide +kernel
theorem dX8_sure_1 : decode cX8_sure 1 = .ok (.getfield 23, 3) := by decide +kernel
theorem dX8_sure_4 : decode cX8_sure 4 = .ok (.iload_n 1, 1) := by decide +kernel
theorem dX8_sure_5 : decode cX8_sure 5 = .ok (.invokevirtual 100, 3) := by decide +kernel
theorem dX8_sure_8 : decode cX8_sure 8 = .ok (.ifCond .ne 6, 3) := by decide +kernel
theorem dX8_sure_11 : decode cX8_sure 11 = .ok (.bipush (-2), 2) := by decide +kernel
theorem dX8_sure_13 : decode cX8_sure 13 = .ok (.ireturn, 1) := by decide +kernel
theorem dX8_sure_14 : decode cX8_sure 14 = .ok (.aload_n 0, 1) := by decide +kernel
theorem dX8_sure_15 : decode cX8_sure 15 = .ok (.invokevirtual 165, 3) := by decide +kernel
theorem dX8_sure_18 : decode cX8_sure 18 = .ok (.aload_n 0, 1) := by decide +kernel
theorem dX8_sure_19 : decode cX8_sure 19 = .ok (.iload_n 1, 1) := by decide +kernel
theorem dX8_sure_20 : decode cX8_sure 20 = .ok (.invokevirtual 171, 3) := by decide +kernel
theorem dX8_sure_23 : decode cX8_sure 23 = .ok (.istore_n 2, 1) := by decide +kernel
theorem dX8_sure_24 : decode cX8_sure 24 = .ok (.iload_n 2, 1) := by decide +kernel
theorem dX8_sure_25 : decode cX8_sure 25 = .ok (.iconst (-1), 1) := by decide +kernel
theorem dX8_sure_26 : decode cX8_sure 26 = .ok (.if_icmp .ne 5, 3) := by decide +kernel
theorem dX8_sure_29 : decode cX8_sure 29 = .ok (.iconst (-1), 1) := by decide +kernel
theorem dX8_sure_30 : decode cX8_sure 30 = .ok (.ireturn, 1) := by decide +kernel
theorem dX8_sure_31 : decode cX8_sure 31 = .ok (.aload_n 0, 1) := by decide +kernel
theorem dX8_sure_32 : decode cX8_sure 32 = .ok (.getfield 46, 3) := by decide +kernel
theorem dX8_sure_35 : decode cX8_sure 35 = .ok (.getfield 174, 3) := by decide +kernel
theorem dX8_sure_38 : decode cX8_sure 38 = .ok (.iload_n 1, 1) := by decide +kernel
theorem dX8_sure_39 : decode cX8_sure 39 = .ok (.dup2, 1) := by decide +kernel
theorem dX8_sure_40 : decode cX8_sure 40 = .ok (.iaload, 1) := by decide +kernel
theorem dX8_sure_41 : decode cX8_sure 41 = .ok (.iconst 1, 1) := by decide +kernel
theorem dX8_sure_42 : decode cX8_sure 42 = .ok (.iload_n 2, 1) := by decide +kernel
theorem dX8_sure_43 : decode cX8_sure 43 = .ok (.ishl, 1) := by decide +kernel
theorem dX8_sure_44 : decode cX8_sure 44 = .ok (.iconst (-1), 1) := by decide +kernel
theorem dX8_sure_45 : decode cX8_sure 45 = .ok (.ixor, 1) := by decide +kernel
theorem dX8_sure_46 : decode cX8_sure 46 = .ok (.iand, 1) := by decide +kernel
theorem dX8_sure_47 : decode cX8_sure 47 = .ok (.iastore, 1) := by decide +kernel
theorem dX8_sure_48 : decode cX8_sure 48 = .ok (.aload_n 0, 1) := by decide +kernel
theorem dX8_sure_49 : decode cX8_sure 49 = .ok (.getfield 46, 3) := by decide +kernel
theorem dX8_sure_52 : decode cX8_sure 52 = .ok (.invokevirtual 168, 3) := by decide +kernel
theorem dX8_sure_55 : decode cX8_sure 55 = .ok (.aload_n 0, 1) := by decide +kernel
theorem dX8_sure_56 : decode cX8_sure 56 = .ok (.getfield 46, 3) := by decide +kernel
theorem dX8_sure_59 : decode cX8_sure 59 = .ok (.iconst 0, 1) := by decide +kernel
theorem dX8_sure_60 : decode cX8_sure 60 = .ok (.invokevirtual 145, 3) := by decide +kernel
theorem dX8_sure_63 : decode cX8_sure 63 = .ok (.lconst 0, 1) := by decide +kernel
theorem dX8_sure_64 : decode cX8_sure 64 = .ok (.lcmp, 1) := by decide +kernel
theorem dX8_sure_65 : decode cX8_sure 65 = .ok (.ifCond .ne 7, 3) := by decide +kernel
theorem dX8_sure_68 : decode cX8_sure 68 = .ok (.iload_n 2, 1) := by decide +kernel
theorem dX8_sure_69 : decode cX8_sure 69 = .ok (.goto 4, 3) := by decide +kernel
theorem dX8_sure_72 : decode cX8_sure 72 = .ok (.iconst (-1), 1) := by decide +kernel
theorem dX8_sure_73 : decode cX8_sure 73 = .ok (.ireturn, 1) := by decide +kernel
set_option maxRecDepth 20000 in
theorem ggX8_clues_X4_gaps : GoodIn wsX8_clues wsX4_gaps := goodIn_r _ [13, 14, 15, 16, 17, 12, 18, 19, 20, 198, 199, 200] (by decide +kernel) (by decide +kernel)
set_option maxRecDepth 20000 in
theorem gX8_clues_X4_gaps : GoodIn wsX8_clues (wsV RX8 117 RX4 yX4_gaps wsX4_gaps) := goodIn_app (goodIn_of _ (by decide +kernel)) ggX8_clues_X4_gaps
set_option maxRecDepth 20000 in
theorem ggX8_clues_X4_size : GoodIn wsX8_clues wsX4_size := goodIn_r _ [18, 19, 20, 198, 199, 200] (by decide +kernel) (by decide +kernel)
set_option maxRecDepth 20000 in
theorem gX8_clues_X4_size : GoodIn wsX8_clues (wsV RX8 109 RX4 yX4_size wsX4_size) := goodIn_app (goodIn_of _ (by decide +kernel)) ggX8_clues_X4_size
set_option maxRecDepth 20000 in
theorem ggX8_clues_X3_firstWrong : GoodIn wsX8_clues wsX3_firstWrong := goodIn_r _ [26, 27, 28, 29, 30, 31, 12, 32, 33, 34, 35, 36, 19, 20, 14, 37, 38, 39, 25, 40, 41, 198, 199, 200, 208] (by decide +kernel) (by decide +kernel)
set_option maxRecDepth 20000 in
theorem gX8_clues_X3_firstWrong : GoodIn wsX8_clues (wsV RX8 131 RX3 yX3_firstWrong wsX3_firstWrong) := goodIn_app (goodIn_of _ (by decide +kernel)) ggX8_clues_X3_firstWrong
set_option maxRecDepth 20000 in
theorem ggX8_clues_X8_openWhole : GoodIn wsX8_clues wsX8_openWhole := goodIn_r _ [46, 5, 47, 48, 49, 50, 51, 52, 53, 54, 55, 56, 57, 58, 59, 60, 61, 62, 63, 64, 65, 66, 67, 68, 69, 70, 71, 72, 73, 12, 74, 19, 20, 14, 75, 76, 77, 78, 79, 80, 81, 82, 83, 84, 85, 86, 87, 88, 89, 90, 91, 92, 93, 94, 95, 96, 97, 98, 99, 100, 101, 25, 102, 41, 103, 104, 105, 106, 107, 108, 109, 110, 111, 112, 113, 114, 115, 116, 117, 118, 119, 120, 121, 122, 123, 124, 125, 126, 127, 128, 188, 189, 190, 191, 192, 193, 194, 195, 196, 197, 201, 202, 203, 204, 205, 206, 207, 209, 210, 211, 212, 213, 214, 198, 199, 200, 208] (by decide +kernel) (by decide +kernel)
set_option maxRecDepth 20000 in
theorem gX8_clues_X8_openWhole : GoodIn wsX8_clues (wsV RX8 142 RX8 yX8_openWhole wsX8_openWhole) := goodIn_app (goodIn_of _ (by decide +kernel)) ggX8_clues_X8_openWhole
set_option maxRecDepth 20000 in
theorem ggX8_clues_X0_total : GoodIn wsX8_clues wsX0_total := goodIn_r _ [132, 53, 85, 88, 133, 134, 135, 51, 136, 90, 86, 87, 89, 99, 100, 101, 25, 102, 41, 201, 202, 203, 204, 205, 206, 207, 209, 210, 211, 212, 213, 214, 208] (by decide +kernel) (by decide +kernel)
set_option maxRecDepth 20000 in
theorem gX8_clues_X0_total : GoodIn wsX8_clues (wsV RX8 145 RX0 yX0_total wsX0_total) := goodIn_app (goodIn_of _ (by decide +kernel)) ggX8_clues_X0_total
set_option maxRecDepth 20000 in
theorem ggX8_clues_X1_clear : GoodIn wsX8_clues wsX1_clear := goodIn_r _ [141, 142, 215, 216] (by decide +kernel) (by decide +kernel)
set_option maxRecDepth 20000 in
theorem gX8_clues_X1_clear : GoodIn wsX8_clues (wsV RX8 179 RX1 yX1_clear wsX1_clear) := goodIn_app (goodIn_of _ (by decide +kernel)) ggX8_clues_X1_clear
set_option maxRecDepth 20000 in
theorem ggX8_clues_X0_begin : GoodIn wsX8_clues wsX0_begin := goodIn_r _ [146, 147, 148, 149, 150, 51, 151, 54, 84, 152, 153, 154, 155, 53, 85, 156, 157, 158, 159, 88, 87, 133, 134, 135, 136, 90, 86, 89, 99, 100, 101, 25, 102, 41, 160, 161, 162, 163, 164, 95, 96, 97, 59, 98, 65, 62, 201, 202, 203, 204, 205, 206, 207, 198, 199, 200, 209, 210, 211, 212, 213, 214, 208] (by decide +kernel) (by decide +kernel)
set_option maxRecDepth 20000 in
theorem gX8_clues_X0_begin : GoodIn wsX8_clues (wsV RX8 182 RX0 yX0_begin wsX0_begin) := goodIn_app (goodIn_of _ (by decide +kernel)) ggX8_clues_X0_begin
set_option maxRecDepth 20000 in
theorem ggX8_clues_X1_tellApart : GoodIn wsX8_clues wsX1_tellApart := goodIn_r _ [168, 169, 142, 170, 171, 16, 17, 12, 18, 19, 20, 198, 199, 200, 215, 216] (by decide +kernel) (by decide +kernel)
set_option maxRecDepth 20000 in
theorem gX8_clues_X1_tellApart : GoodIn wsX8_clues (wsV RX8 186 RX1 yX1_tellApart wsX1_tellApart) := goodIn_app (goodIn_of _ (by decide +kernel)) ggX8_clues_X1_tellApart
set_option maxRecDepth 20000 in
theorem ggX8_clues_X0_advance : GoodIn wsX8_clues wsX0_advance := goodIn_r _ [151, 54, 84, 147, 152, 153, 154, 51, 155, 53, 85, 156, 157, 158, 159, 88, 87, 133, 134, 135, 136, 90, 86, 89, 99, 100, 101, 25, 102, 41, 160, 161, 162, 163, 164, 95, 96, 97, 59, 98, 65, 62, 201, 202, 203, 204, 205, 206, 207, 198, 199, 200, 209, 210, 211, 212, 213, 214, 208] (by decide +kernel) (by decide +kernel)
set_option maxRecDepth 20000 in
theorem gX8_clues_X0_advance : GoodIn wsX8_clues (wsV RX8 190 RX0 yX0_advance wsX0_advance) := goodIn_app (goodIn_of _ (by decide +kernel)) ggX8_clues_X0_advance
set_option maxRecDepth 20000 in
theorem ggX8_clues_X1_fewest : GoodIn wsX8_clues wsX1_fewest := goodIn_r _ [176, 177, 178, 179, 180, 181, 182, 183, 184, 185, 186, 140, 187, 142, 170, 215, 216] (by decide +kernel) (by decide +kernel)
set_option maxRecDepth 20000 in
theorem gX8_clues_X1_fewest : GoodIn wsX8_clues (wsV RX8 193 RX1 yX1_fewest wsX1_fewest) := goodIn_app (goodIn_of _ (by decide +kernel)) ggX8_clues_X1_fewest
theorem dX8_clues_0 : decode cX8_clues 0 = .ok (.aload_n 0, 1) := by decide +kernel
theorem dX8_clues_1 : decode cX8_clues 1 = .ok (.getfield 23, 3) := by decide +kernel
theorem dX8_clues_4 : decode cX8_clues 4 = .ok (.invokevirtual 117, 3) := by decide +kernel
theorem dX8_clues_7 : decode cX8_clues 7 = .ok (.ifCond .gt 30, 3) := by decide +kernel
theorem dX8_clues_10 : decode cX8_clues 10 = .ok (.aload_n 0, 1) := by decide +kernel
theorem dX8_clues_11 : decode cX8_clues 11 = .ok (.getfield 23, 3) := by decide +kernel
theorem dX8_clues_14 : decode cX8_clues 14 = .ok (.invokevirtual 109, 3) := by decide +kernel
theorem dX8_clues_17 : decode cX8_clues 17 = .ok (.bipush 12, 2) := by decide +kernel
theorem dX8_clues_19 : decode cX8_clues 19 = .ok (.if_icmp .gt 18, 3) := by decide +kernel
theorem dX8_clues_22 : decode cX8_clues 22 = .ok (.aload_n 0, 1) := by decide +kernel
theorem dX8_clues_23 : decode cX8_clues 23 = .ok (.getfield 16, 3) := by decide +kernel
theorem dX8_clues_26 : decode cX8_clues 26 = .ok (.aload_n 0, 1) := by decide +kernel
theorem dX8_clues_27 : decode cX8_clues 27 = .ok (.getfield 23, 3) := by decide +kernel
theorem dX8_clues_30 : decode cX8_clues 30 = .ok (.invokevirtual 131, 3) := by decide +kernel
theorem dX8_clues_33 : decode cX8_clues 33 = .ok (.iconst (-1), 1) := by decide +kernel
theorem dX8_clues_34 : decode cX8_clues 34 = .ok (.if_icmp .eq 6, 3) := by decide +kernel
theorem dX8_clues_37 : decode cX8_clues 37 = .ok (.bipush (-4), 2) := by decide +kernel
theorem dX8_clues_39 : decode cX8_clues 39 = .ok (.ireturn, 1) := by decide +kernel
theorem dX8_clues_40 : decode cX8_clues 40 = .ok (.aload_n 0, 1) := by decide +kernel
theorem dX8_clues_41 : decode cX8_clues 41 = .ok (.aload_n 0, 1) := by decide +kernel
theorem dX8_clues_42 : decode cX8_clues 42 = .ok (.getfield 23, 3) := by decide +kernel
theorem dX8_clues_45 : decode cX8_clues 45 = .ok (.getfield 121, 3) := by decide +kernel
theorem dX8_clues_48 : decode cX8_clues 48 = .ok (.aload_n 0, 1) := by decide +kernel
theorem dX8_clues_49 : decode cX8_clues 49 = .ok (.getfield 23, 3) := by decide +kernel
theorem dX8_clues_52 : decode cX8_clues 52 = .ok (.getfield 124, 3) := by decide +kernel
theorem dX8_clues_55 : decode cX8_clues 55 = .ok (.invokevirtual 142, 3) := by decide +kernel
theorem dX8_clues_58 : decode cX8_clues 58 = .ok (.aload_n 0, 1) := by decide +kernel
theorem dX8_clues_59 : decode cX8_clues 59 = .ok (.getfield 46, 3) := by decide +kernel
theorem dX8_clues_62 : decode cX8_clues 62 = .ok (.iconst 0, 1) := by decide +kernel
theorem dX8_clues_63 : decode cX8_clues 63 = .ok (.invokevirtual 145, 3) := by decide +kernel
theorem dX8_clues_66 : decode cX8_clues 66 = .ok (.lstore_n 1, 1) := by decide +kernel
theorem dX8_clues_67 : decode cX8_clues 67 = .ok (.lload_n 1, 1) := by decide +kernel
theorem dX8_clues_68 : decode cX8_clues 68 = .ok (.ldc2_w 177, 3) := by decide +kernel
theorem dX8_clues_71 : decode cX8_clues 71 = .ok (.lcmp, 1) := by decide +kernel
theorem dX8_clues_72 : decode cX8_clues 72 = .ok (.ifCond .le 6, 3) := by decide +kernel
theorem dX8_clues_75 : decode cX8_clues 75 = .ok (.bipush (-6), 2) := by decide +kernel
theorem dX8_clues_77 : decode cX8_clues 77 = .ok (.ireturn, 1) := by decide +kernel
theorem dX8_clues_78 : decode cX8_clues 78 = .ok (.aload_n 0, 1) := by decide +kernel
theorem dX8_clues_79 : decode cX8_clues 79 = .ok (.getfield 53, 3) := by decide +kernel
theorem dX8_clues_82 : decode cX8_clues 82 = .ok (.invokevirtual 179, 3) := by decide +kernel
theorem dX8_clues_85 : decode cX8_clues 85 = .ok (.aload_n 0, 1) := by decide +kernel
theorem dX8_clues_86 : decode cX8_clues 86 = .ok (.getfield 46, 3) := by decide +kernel
theorem dX8_clues_89 : decode cX8_clues 89 = .ok (.invokevirtual 182, 3) := by decide +kernel
theorem dX8_clues_92 : decode cX8_clues 92 = .ok (.istore_n 3, 1) := by decide +kernel
theorem dX8_clues_93 : decode cX8_clues 93 = .ok (.iconst 0, 1) := by decide +kernel
theorem dX8_clues_94 : decode cX8_clues 94 = .ok (.istore 4, 2) := by decide +kernel
theorem dX8_clues_96 : decode cX8_clues 96 = .ok (.iload 4, 2) := by decide +kernel
theorem dX8_clues_98 : decode cX8_clues 98 = .ok (.i2l, 1) := by decide +kernel
theorem dX8_clues_99 : decode cX8_clues 99 = .ok (.lload_n 1, 1) := by decide +kernel
theorem dX8_clues_100 : decode cX8_clues 100 = .ok (.lcmp, 1) := by decide +kernel
theorem dX8_clues_101 : decode cX8_clues 101 = .ok (.ifCond .ge 48, 3) := by decide +kernel
theorem dX8_clues_104 : decode cX8_clues 104 = .ok (.iload_n 3, 1) := by decide +kernel
theorem dX8_clues_105 : decode cX8_clues 105 = .ok (.ifCond .eq 44, 3) := by decide +kernel
theorem dX8_clues_108 : decode cX8_clues 108 = .ok (.aload_n 0, 1) := by decide +kernel
theorem dX8_clues_109 : decode cX8_clues 109 = .ok (.getfield 53, 3) := by decide +kernel
theorem dX8_clues_112 : decode cX8_clues 112 = .ok (.aload_n 0, 1) := by decide +kernel
theorem dX8_clues_113 : decode cX8_clues 113 = .ok (.getfield 23, 3) := by decide +kernel
theorem dX8_clues_116 : decode cX8_clues 116 = .ok (.aload_n 0, 1) := by decide +kernel
theorem dX8_clues_117 : decode cX8_clues 117 = .ok (.getfield 46, 3) := by decide +kernel
theorem dX8_clues_120 : decode cX8_clues 120 = .ok (.getfield 158, 3) := by decide +kernel
theorem dX8_clues_123 : decode cX8_clues 123 = .ok (.invokevirtual 186, 3) := by decide +kernel
theorem dX8_clues_126 : decode cX8_clues 126 = .ok (.aload_n 0, 1) := by decide +kernel
theorem dX8_clues_127 : decode cX8_clues 127 = .ok (.getfield 46, 3) := by decide +kernel
theorem dX8_clues_130 : decode cX8_clues 130 = .ok (.aload_n 0, 1) := by decide +kernel
theorem dX8_clues_131 : decode cX8_clues 131 = .ok (.getfield 23, 3) := by decide +kernel
theorem dX8_clues_134 : decode cX8_clues 134 = .ok (.getfield 121, 3) := by decide +kernel
theorem dX8_clues_137 : decode cX8_clues 137 = .ok (.iconst 1, 1) := by decide +kernel
theorem dX8_clues_138 : decode cX8_clues 138 = .ok (.isub, 1) := by decide +kernel
theorem dX8_clues_139 : decode cX8_clues 139 = .ok (.invokevirtual 190, 3) := by decide +kernel
theorem dX8_clues_142 : decode cX8_clues 142 = .ok (.istore_n 3, 1) := by decide +kernel
theorem dX8_clues_143 : decode cX8_clues 143 = .ok (.iinc 4 1, 3) := by decide +kernel
theorem dX8_clues_146 : decode cX8_clues 146 = .ok (.goto (-50), 3) := by decide +kernel
theorem dX8_clues_149 : decode cX8_clues 149 = .ok (.aload_n 0, 1) := by decide +kernel
theorem dX8_clues_150 : decode cX8_clues 150 = .ok (.getfield 53, 3) := by decide +kernel
theorem dX8_clues_153 : decode cX8_clues 153 = .ok (.aload_n 0, 1) := by decide +kernel
theorem dX8_clues_154 : decode cX8_clues 154 = .ok (.getfield 23, 3) := by decide +kernel
theorem dX8_clues_157 : decode cX8_clues 157 = .ok (.invokevirtual 109, 3) := by decide +kernel
theorem dX8_clues_160 : decode cX8_clues 160 = .ok (.invokevirtual 193, 3) := by decide +kernel
theorem dX8_clues_163 : decode cX8_clues 163 = .ok (.ireturn, 1) := by decide +kernel
set_option maxRecDepth 20000 in
theorem ggX8_letter_X8_isColour : GoodIn wsX8_letter wsX8_isColour := goodIn_r _ [6, 7, 8, 9, 10, 11, 12, 13, 14, 15, 16, 17] (by decide +kernel) (by decide +kernel)
set_option maxRecDepth 20000 in
theorem gX8_letter_X8_isColour : GoodIn wsX8_letter (wsV RX8 103 RX8 yX8_isColour wsX8_isColour) := goodIn_app (goodIn_of _ (by decide +kernel)) ggX8_letter_X8_isColour
theorem dX8_letter_0 : decode cX8_letter 0 = .ok (.aload_n 0, 1) := by decide +kernel
theorem dX8_letter_1 : decode cX8_letter 1 = .ok (.iload_n 1, 1) := by decide +kernel
theorem dX8_letter_2 : decode cX8_letter 2 = .ok (.invokevirtual 103, 3) := by decide +kernel
theorem dX8_letter_5 : decode cX8_letter 5 = .ok (.ifCond .ne 6, 3) := by decide +kernel
theorem dX8_letter_8 : decode cX8_letter 8 = .ok (.bipush (-2), 2) := by decide +kernel
theorem dX8_letter_10 : decode cX8_letter 10 = .ok (.ireturn, 1) := by decide +kernel
theorem dX8_letter_11 : decode cX8_letter 11 = .ok (.iload_n 2, 1) := by decide +kernel
theorem dX8_letter_12 : decode cX8_letter 12 = .ok (.ifCond .lt 8, 3) := by decide +kernel
theorem dX8_letter_15 : decode cX8_letter 15 = .ok (.iload_n 2, 1) := by decide +kernel
theorem dX8_letter_16 : decode cX8_letter 16 = .ok (.iconst 1, 1) := by decide +kernel
theorem dX8_letter_17 : decode cX8_letter 17 = .ok (.if_icmp .le 6, 3) := by decide +kernel
theorem dX8_letter_20 : decode cX8_letter 20 = .ok (.bipush (-3), 2) := by decide +kernel
theorem dX8_letter_22 : decode cX8_letter 22 = .ok (.ireturn, 1) := by decide +kernel
theorem dX8_letter_23 : decode cX8_letter 23 = .ok (.aload_n 0, 1) := by decide +kernel
theorem dX8_letter_24 : decode cX8_letter 24 = .ok (.getfield 9, 3) := by decide +kernel
theorem dX8_letter_27 : decode cX8_letter 27 = .ok (.iload_n 1, 1) := by decide +kernel
theorem dX8_letter_28 : decode cX8_letter 28 = .ok (.iaload, 1) := by decide +kernel
theorem dX8_letter_29 : decode cX8_letter 29 = .ok (.istore_n 3, 1) := by decide +kernel
theorem dX8_letter_30 : decode cX8_letter 30 = .ok (.aload_n 0, 1) := by decide +kernel
theorem dX8_letter_31 : decode cX8_letter 31 = .ok (.getfield 9, 3) := by decide +kernel
theorem dX8_letter_34 : decode cX8_letter 34 = .ok (.iload_n 1, 1) := by decide +kernel
theorem dX8_letter_35 : decode cX8_letter 35 = .ok (.iload_n 2, 1) := by decide +kernel
theorem dX8_letter_36 : decode cX8_letter 36 = .ok (.iastore, 1) := by decide +kernel
theorem dX8_letter_37 : decode cX8_letter 37 = .ok (.iload_n 3, 1) := by decide +kernel
theorem dX8_letter_38 : decode cX8_letter 38 = .ok (.ireturn, 1) := by decide +kernel
set_option maxRecDepth 20000 in
theorem ggX8_looks_X8_isSize : GoodIn wsX8_looks wsX8_isSize := goodIn_r _ [5] (by decide +kernel) (by decide +kernel)
set_option maxRecDepth 20000 in
theorem gX8_looks_X8_isSize : GoodIn wsX8_looks (va_wsS RX8 92 yX8_isSize wsX8_isSize) := goodIn_app (goodIn_of _ (by decide +kernel)) ggX8_looks_X8_isSize
set_option maxRecDepth 20000 in
theorem ggX8_looks_X8_isLook : GoodIn wsX8_looks wsX8_isLook := goodIn_r _ [8] (by decide +kernel) (by decide +kernel)
set_option maxRecDepth 20000 in
theorem gX8_looks_X8_isLook : GoodIn wsX8_looks (va_wsS RX8 196 yX8_isLook wsX8_isLook) := goodIn_app (goodIn_of _ (by decide +kernel)) ggX8_looks_X8_isLook
set_option maxRecDepth 20000 in
theorem ggX8_looks_X8_openLook : GoodIn wsX8_looks wsX8_openLook := goodIn_r _ [12, 1, 13, 14, 15, 16, 17, 18, 19, 20, 21, 22, 23, 24, 25, 26, 27, 28, 29, 30, 31, 32, 33, 34, 35, 36, 37, 38, 39, 40, 41, 42, 43, 44, 45, 46, 47, 48, 49, 50, 51, 52, 53, 4, 54, 55, 123, 124, 125, 126, 127, 128, 129, 130, 131, 132, 133, 134, 135, 136, 137, 138, 139, 140, 141, 142, 143, 144, 145, 146, 147, 148] (by decide +kernel) (by decide +kernel)
set_option maxRecDepth 20000 in
theorem gX8_looks_X8_openLook : GoodIn wsX8_looks (wsV RX8 199 RX8 yX8_openLook wsX8_openLook) := goodIn_app (goodIn_of _ (by decide +kernel)) ggX8_looks_X8_openLook
set_option maxRecDepth 20000 in
theorem ggX8_looks_X0_fill : GoodIn wsX8_looks wsX0_fill := goodIn_r _ [59, 21, 60, 20, 61, 62, 63, 64, 65, 66, 67, 68, 69, 18, 70, 22, 71, 72, 73, 26, 74, 32, 29, 75, 76, 77, 78, 79, 80, 81, 82, 83, 84, 85, 86, 87, 88, 89, 90, 91, 92, 93, 94, 95, 96, 97, 98, 99, 100, 101, 102, 103, 104, 105, 106, 133, 134, 135, 136, 137, 138, 139, 146, 147, 148, 140, 141, 142, 143, 144, 145, 149] (by decide +kernel) (by decide +kernel)
set_option maxRecDepth 20000 in
theorem gX8_looks_X0_fill : GoodIn wsX8_looks (wsV RX8 168 RX0 yX0_fill wsX0_fill) := goodIn_app (goodIn_of _ (by decide +kernel)) ggX8_looks_X0_fill
set_option maxRecDepth 20000 in
theorem ggX8_looks_X0_total : GoodIn wsX8_looks wsX0_total := goodIn_r _ [110, 20, 61, 64, 111, 112, 113, 18, 114, 66, 62, 63, 65, 75, 76, 77, 78, 79, 80, 133, 134, 135, 136, 137, 138, 139, 140, 141, 142, 143, 144, 145, 149] (by decide +kernel) (by decide +kernel)
set_option maxRecDepth 20000 in
theorem gX8_looks_X0_total : GoodIn wsX8_looks (wsV RX8 145 RX0 yX0_total wsX0_total) := goodIn_app (goodIn_of _ (by decide +kernel)) ggX8_looks_X0_total
set_option maxRecDepth 20000 in
theorem ggX8_looks_X8_capped : GoodIn wsX8_looks wsX8_capped := goodIn_r _ [117, 118, 119, 120, 121, 122] (by decide +kernel) (by decide +kernel)
set_option maxRecDepth 20000 in
theorem gX8_looks_X8_capped : GoodIn wsX8_looks (va_wsS RX8 149 yX8_capped wsX8_capped) := goodIn_app (goodIn_of _ (by decide +kernel)) ggX8_looks_X8_capped
theorem dX8_looks_0 : decode cX8_looks 0 = .ok (.iload_n 1, 1) := by decide +kernel
theorem dX8_looks_1 : decode cX8_looks 1 = .ok (.iload_n 2, 1) := by decide +kernel
theorem dX8_looks_2 : decode cX8_looks 2 = .ok (.invokestatic 92, 3) := by decide +kernel
theorem dX8_looks_5 : decode cX8_looks 5 = .ok (.ifCond .eq 13, 3) := by decide +kernel
theorem dX8_looks_8 : decode cX8_looks 8 = .ok (.iload_n 3, 1) := by decide +kernel
theorem dX8_looks_9 : decode cX8_looks 9 = .ok (.iload_n 1, 1) := by decide +kernel
theorem dX8_looks_10 : decode cX8_looks 10 = .ok (.iload_n 2, 1) := by decide +kernel
theorem dX8_looks_11 : decode cX8_looks 11 = .ok (.imul, 1) := by decide +kernel
theorem dX8_looks_12 : decode cX8_looks 12 = .ok (.invokestatic 196, 3) := by decide +kernel
theorem dX8_looks_15 : decode cX8_looks 15 = .ok (.ifCond .ne 6, 3) := by decide +kernel
theorem dX8_looks_18 : decode cX8_looks 18 = .ok (.bipush (-3), 2) := by decide +kernel
theorem dX8_looks_20 : decode cX8_looks 20 = .ok (.ireturn, 1) := by decide +kernel
theorem dX8_looks_21 : decode cX8_looks 21 = .ok (.aload_n 0, 1) := by decide +kernel
theorem dX8_looks_22 : decode cX8_looks 22 = .ok (.iload_n 1, 1) := by decide +kernel
theorem dX8_looks_23 : decode cX8_looks 23 = .ok (.iload_n 2, 1) := by decide +kernel
theorem dX8_looks_24 : decode cX8_looks 24 = .ok (.iload_n 3, 1) := by decide +kernel
theorem dX8_looks_25 : decode cX8_looks 25 = .ok (.invokevirtual 199, 3) := by decide +kernel
theorem dX8_looks_28 : decode cX8_looks 28 = .ok (.aload_n 0, 1) := by decide +kernel
theorem dX8_looks_29 : decode cX8_looks 29 = .ok (.getfield 46, 3) := by decide +kernel
theorem dX8_looks_32 : decode cX8_looks 32 = .ok (.invokevirtual 168, 3) := by decide +kernel
theorem dX8_looks_35 : decode cX8_looks 35 = .ok (.aload_n 0, 1) := by decide +kernel
theorem dX8_looks_36 : decode cX8_looks 36 = .ok (.getfield 46, 3) := by decide +kernel
theorem dX8_looks_39 : decode cX8_looks 39 = .ok (.iconst 0, 1) := by decide +kernel
theorem dX8_looks_40 : decode cX8_looks 40 = .ok (.invokevirtual 145, 3) := by decide +kernel
theorem dX8_looks_43 : decode cX8_looks 43 = .ok (.invokestatic 149, 3) := by decide +kernel
theorem dX8_looks_46 : decode cX8_looks 46 = .ok (.ireturn, 1) := by decide +kernel
set_option maxRecDepth 20000 in
theorem ggX8_look_X8_isSize : GoodIn wsX8_look wsX8_isSize := goodIn_r _ [4] (by decide +kernel) (by decide +kernel)
set_option maxRecDepth 20000 in
theorem gX8_look_X8_isSize : GoodIn wsX8_look (va_wsS RX8 92 yX8_isSize wsX8_isSize) := goodIn_app (goodIn_of _ (by decide +kernel)) ggX8_look_X8_isSize
set_option maxRecDepth 20000 in
theorem ggX8_look_X8_isLook : GoodIn wsX8_look wsX8_isLook := goodIn_r _ [7] (by decide +kernel) (by decide +kernel)
set_option maxRecDepth 20000 in
theorem gX8_look_X8_isLook : GoodIn wsX8_look (va_wsS RX8 196 yX8_isLook wsX8_isLook) := goodIn_app (goodIn_of _ (by decide +kernel)) ggX8_look_X8_isLook
set_option maxRecDepth 20000 in
theorem ggX8_look_X8_openLook : GoodIn wsX8_look wsX8_openLook := goodIn_r _ [11, 12, 13, 14, 15, 16, 17, 18, 19, 20, 21, 22, 23, 24, 25, 26, 27, 28, 29, 30, 31, 32, 33, 34, 35, 36, 37, 38, 39, 40, 41, 42, 43, 44, 45, 46, 47, 48, 49, 50, 51, 52, 53, 3, 54, 55, 139, 140, 141, 142, 143, 144, 145, 146, 147, 148, 149, 150, 151, 152, 153, 154, 155, 156, 157, 158, 159, 160, 161, 162, 163, 164] (by decide +kernel) (by decide +kernel)
set_option maxRecDepth 20000 in
theorem gX8_look_X8_openLook : GoodIn wsX8_look (wsV RX8 199 RX8 yX8_openLook wsX8_openLook) := goodIn_app (goodIn_of _ (by decide +kernel)) ggX8_look_X8_openLook
set_option maxRecDepth 20000 in
theorem ggX8_look_X8_firstColour : GoodIn wsX8_look wsX8_firstColour := goodIn_r _ [59, 12, 60, 61, 62, 63, 64, 18, 65, 21, 66, 20, 67, 68, 69, 70, 71, 72, 73, 74, 75, 76, 22, 77, 78, 79, 26, 80, 32, 29, 81, 82, 83, 84, 85, 86, 87, 88, 89, 90, 91, 92, 93, 94, 95, 96, 97, 98, 99, 100, 101, 102, 103, 104, 105, 106, 107, 108, 109, 110, 111, 112, 113, 114, 115, 116, 117, 118, 119, 120, 121, 122, 123, 124, 125, 126, 127, 128, 129, 130, 131, 132, 133, 134, 135, 136, 137, 138, 139, 140, 141, 142, 143, 144, 145, 146, 147, 148, 149, 150, 151, 152, 153, 154, 155, 162, 163, 164, 156, 157, 158, 159, 160, 161, 165] (by decide +kernel) (by decide +kernel)
set_option maxRecDepth 20000 in
theorem gX8_look_X8_firstColour : GoodIn wsX8_look (wsV RX8 171 RX8 yX8_firstColour wsX8_firstColour) := goodIn_app (goodIn_of _ (by decide +kernel)) ggX8_look_X8_firstColour
theorem dX8_look_0 : decode cX8_look 0 = .ok (.iload_n 1, 1) := by decide +kernel
theorem dX8_look_1 : decode cX8_look 1 = .ok (.iload_n 2, 1) := by decide +kernel
theorem dX8_look_2 : decode cX8_look 2 = .ok (.invokestatic 92, 3) := by decide +kernel
theorem dX8_look_5 : decode cX8_look 5 = .ok (.ifCond .eq 26, 3) := by decide +kernel
theorem dX8_look_8 : decode cX8_look 8 = .ok (.iload_n 3, 1) := by decide +kernel
theorem dX8_look_9 : decode cX8_look 9 = .ok (.iload_n 1, 1) := by decide +kernel
theorem dX8_look_10 : decode cX8_look 10 = .ok (.iload_n 2, 1) := by decide +kernel
theorem dX8_look_11 : decode cX8_look 11 = .ok (.imul, 1) := by decide +kernel
theorem dX8_look_12 : decode cX8_look 12 = .ok (.invokestatic 196, 3) := by decide +kernel
theorem dX8_look_15 : decode cX8_look 15 = .ok (.ifCond .eq 16, 3) := by decide +kernel
theorem dX8_look_18 : decode cX8_look 18 = .ok (.iload 4, 2) := by decide +kernel
theorem dX8_look_20 : decode cX8_look 20 = .ok (.ifCond .lt 11, 3) := by decide +kernel
theorem dX8_look_23 : decode cX8_look 23 = .ok (.iload 4, 2) := by decide +kernel
theorem dX8_look_25 : decode cX8_look 25 = .ok (.iload_n 1, 1) := by decide +kernel
theorem dX8_look_26 : decode cX8_look 26 = .ok (.iload_n 2, 1) := by decide +kernel
theorem dX8_look_27 : decode cX8_look 27 = .ok (.imul, 1) := by decide +kernel
theorem dX8_look_28 : decode cX8_look 28 = .ok (.if_icmp .lt 6, 3) := by decide +kernel
theorem dX8_look_31 : decode cX8_look 31 = .ok (.bipush (-3), 2) := by decide +kernel
theorem dX8_look_33 : decode cX8_look 33 = .ok (.ireturn, 1) := by decide +kernel
theorem dX8_look_34 : decode cX8_look 34 = .ok (.aload_n 0, 1) := by decide +kernel
theorem dX8_look_35 : decode cX8_look 35 = .ok (.iload_n 1, 1) := by decide +kernel
theorem dX8_look_36 : decode cX8_look 36 = .ok (.iload_n 2, 1) := by decide +kernel
theorem dX8_look_37 : decode cX8_look 37 = .ok (.iload_n 3, 1) := by decide +kernel
theorem dX8_look_38 : decode cX8_look 38 = .ok (.invokevirtual 199, 3) := by decide +kernel
theorem dX8_look_41 : decode cX8_look 41 = .ok (.aload_n 0, 1) := by decide +kernel
theorem dX8_look_42 : decode cX8_look 42 = .ok (.iload 4, 2) := by decide +kernel
theorem dX8_look_44 : decode cX8_look 44 = .ok (.invokevirtual 171, 3) := by decide +kernel
theorem dX8_look_47 : decode cX8_look 47 = .ok (.ireturn, 1) := by decide +kernel
set_option maxRecDepth 20000 in
theorem ggX8_views_X8_isSize : GoodIn wsX8_views wsX8_isSize := goodIn_r _ [6] (by decide +kernel) (by decide +kernel)
set_option maxRecDepth 20000 in
theorem gX8_views_X8_isSize : GoodIn wsX8_views (va_wsS RX8 92 yX8_isSize wsX8_isSize) := goodIn_app (goodIn_of _ (by decide +kernel)) ggX8_views_X8_isSize
set_option maxRecDepth 20000 in
theorem ggX8_views_X8_openWhole : GoodIn wsX8_views wsX8_openWhole := goodIn_r _ [10, 11, 12, 13, 14, 15, 16, 17, 18, 19, 20, 21, 22, 23, 24, 25, 26, 27, 28, 29, 30, 31, 32, 33, 34, 35, 36, 37, 38, 39, 40, 41, 42, 43, 44, 45, 46, 47, 48, 49, 50, 51, 52, 53, 54, 55, 56, 57, 58, 59, 60, 61, 62, 63, 64, 65, 66, 67, 68, 69, 70, 71, 72, 73, 74, 75, 76, 77, 78, 79, 80, 81, 82, 83, 84, 85, 86, 87, 88, 89, 90, 91, 92, 93, 94, 95, 96, 97, 98, 99, 148, 149, 150, 151, 152, 153, 154, 155, 156, 157, 158, 159, 160, 161, 162, 163, 164, 165, 166, 167, 168, 169, 170, 171, 172, 173, 174] (by decide +kernel) (by decide +kernel)
set_option maxRecDepth 20000 in
theorem gX8_views_X8_openWhole : GoodIn wsX8_views (wsV RX8 142 RX8 yX8_openWhole wsX8_openWhole) := goodIn_app (goodIn_of _ (by decide +kernel)) ggX8_views_X8_openWhole
set_option maxRecDepth 20000 in
theorem ggX8_views_X6_unlike : GoodIn wsX8_views wsX6_unlike := goodIn_r _ [104, 105, 106, 107, 108, 109, 110, 111, 103, 112, 113, 114, 115, 116, 117, 118, 65, 66, 24, 67, 30, 27, 119, 120, 121, 122, 123, 124, 125, 126, 127, 128, 129, 130, 131, 132, 133, 134, 135, 16, 136, 59, 55, 18, 56, 58, 68, 69, 70, 71, 72, 73, 137, 138, 139, 140, 141, 142, 143, 144, 145, 146, 147, 175, 176, 177, 178, 179, 180, 181, 182, 158, 159, 160, 161, 162, 163, 164, 171, 172, 173, 165, 166, 167, 168, 169, 170, 174] (by decide +kernel) (by decide +kernel)
set_option maxRecDepth 20000 in
theorem gX8_views_X6_unlike : GoodIn wsX8_views (wsV RX8 203 RX6 yX6_unlike wsX6_unlike) := goodIn_app (goodIn_of _ (by decide +kernel)) ggX8_views_X6_unlike
theorem dX8_views_0 : decode cX8_views 0 = .ok (.iload_n 1, 1) := by decide +kernel
theorem dX8_views_1 : decode cX8_views 1 = .ok (.iload_n 2, 1) := by decide +kernel
theorem dX8_views_2 : decode cX8_views 2 = .ok (.invokestatic 92, 3) := by decide +kernel
theorem dX8_views_5 : decode cX8_views 5 = .ok (.ifCond .ne 6, 3) := by decide +kernel
theorem dX8_views_8 : decode cX8_views 8 = .ok (.bipush (-3), 2) := by decide +kernel
theorem dX8_views_10 : decode cX8_views 10 = .ok (.ireturn, 1) := by decide +kernel
theorem dX8_views_11 : decode cX8_views 11 = .ok (.iload_n 1, 1) := by decide +kernel
theorem dX8_views_12 : decode cX8_views 12 = .ok (.iload_n 2, 1) := by decide +kernel
theorem dX8_views_13 : decode cX8_views 13 = .ok (.imul, 1) := by decide +kernel
theorem dX8_views_14 : decode cX8_views 14 = .ok (.bipush 12, 2) := by decide +kernel
theorem dX8_views_16 : decode cX8_views 16 = .ok (.if_icmp .le 6, 3) := by decide +kernel
theorem dX8_views_19 : decode cX8_views 19 = .ok (.bipush (-4), 2) := by decide +kernel
theorem dX8_views_21 : decode cX8_views 21 = .ok (.ireturn, 1) := by decide +kernel
theorem dX8_views_22 : decode cX8_views 22 = .ok (.aload_n 0, 1) := by decide +kernel
theorem dX8_views_23 : decode cX8_views 23 = .ok (.iload_n 1, 1) := by decide +kernel
theorem dX8_views_24 : decode cX8_views 24 = .ok (.iload_n 2, 1) := by decide +kernel
theorem dX8_views_25 : decode cX8_views 25 = .ok (.invokevirtual 142, 3) := by decide +kernel
theorem dX8_views_28 : decode cX8_views 28 = .ok (.aload_n 0, 1) := by decide +kernel
theorem dX8_views_29 : decode cX8_views 29 = .ok (.getfield 62, 3) := by decide +kernel
theorem dX8_views_32 : decode cX8_views 32 = .ok (.aload_n 0, 1) := by decide +kernel
theorem dX8_views_33 : decode cX8_views 33 = .ok (.getfield 9, 3) := by decide +kernel
theorem dX8_views_36 : decode cX8_views 36 = .ok (.invokevirtual 203, 3) := by decide +kernel
theorem dX8_views_39 : decode cX8_views 39 = .ok (.ireturn, 1) := by decide +kernel
set_option maxRecDepth 20000 in
theorem ggX8_tall_X8_isStrip : GoodIn wsX8_tall wsX8_isStrip := goodIn_r _ [7] (by decide +kernel) (by decide +kernel)
set_option maxRecDepth 20000 in
theorem gX8_tall_X8_isStrip : GoodIn wsX8_tall (va_wsS RX8 207 yX8_isStrip wsX8_isStrip) := goodIn_app (goodIn_of _ (by decide +kernel)) ggX8_tall_X8_isStrip
set_option maxRecDepth 20000 in
theorem ggX8_tall_X5_lay : GoodIn wsX8_tall wsX5_lay := goodIn_r _ [12, 13, 14, 15, 16, 17, 18, 19, 20, 21, 22, 23, 24, 25, 26, 27, 28, 29, 30, 31, 32, 33, 34, 35, 36, 37, 11, 38, 39, 40, 41, 42, 43, 44, 45, 46, 103, 104, 105, 106, 107, 108, 109, 110, 111, 112, 113, 114, 115, 116, 117, 118, 119] (by decide +kernel) (by decide +kernel)
set_option maxRecDepth 20000 in
theorem gX8_tall_X5_lay : GoodIn wsX8_tall (wsV RX8 211 RX5 yX5_lay wsX5_lay) := goodIn_app (goodIn_of _ (by decide +kernel)) ggX8_tall_X5_lay
set_option maxRecDepth 20000 in
theorem ggX8_tall_X5_ofHeight : GoodIn wsX8_tall wsX5_ofHeight := goodIn_r _ [50, 15, 51, 52, 53, 54, 55, 56, 11, 57, 13, 16, 14, 58, 19, 59, 60, 61, 62, 63, 64, 65, 66, 67, 68, 69, 70, 71, 72, 73, 74, 75, 76, 77, 78, 79, 80, 81, 82, 83, 84, 85, 86, 87, 88, 89, 90, 91, 92, 103, 104, 105, 106, 107, 108, 109, 110, 111, 112, 113, 114, 115, 116, 117, 118] (by decide +kernel) (by decide +kernel)
set_option maxRecDepth 20000 in
theorem gX8_tall_X5_ofHeight : GoodIn wsX8_tall (wsV RX8 212 RX5 yX5_ofHeight wsX5_ofHeight) := goodIn_app (goodIn_of _ (by decide +kernel)) ggX8_tall_X5_ofHeight
theorem dX8_tall_0 : decode cX8_tall 0 = .ok (.iload_n 1, 1) := by decide +kernel
theorem dX8_tall_1 : decode cX8_tall 1 = .ok (.invokestatic 207, 3) := by decide +kernel
theorem dX8_tall_4 : decode cX8_tall 4 = .ok (.ifCond .eq 14, 3) := by decide +kernel
theorem dX8_tall_7 : decode cX8_tall 7 = .ok (.iload_n 2, 1) := by decide +kernel
theorem dX8_tall_8 : decode cX8_tall 8 = .ok (.iconst 1, 1) := by decide +kernel
theorem dX8_tall_9 : decode cX8_tall 9 = .ok (.if_icmp .lt 9, 3) := by decide +kernel
theorem dX8_tall_12 : decode cX8_tall 12 = .ok (.iload_n 2, 1) := by decide +kernel
theorem dX8_tall_13 : decode cX8_tall 13 = .ok (.ldc 210, 2) := by decide +kernel
theorem dX8_tall_15 : decode cX8_tall 15 = .ok (.if_icmp .le 6, 3) := by decide +kernel
theorem dX8_tall_18 : decode cX8_tall 18 = .ok (.bipush (-3), 2) := by decide +kernel
theorem dX8_tall_20 : decode cX8_tall 20 = .ok (.ireturn, 1) := by decide +kernel
theorem dX8_tall_21 : decode cX8_tall 21 = .ok (.aload_n 0, 1) := by decide +kernel
theorem dX8_tall_22 : decode cX8_tall 22 = .ok (.getfield 69, 3) := by decide +kernel
theorem dX8_tall_25 : decode cX8_tall 25 = .ok (.aload_n 0, 1) := by decide +kernel
theorem dX8_tall_26 : decode cX8_tall 26 = .ok (.getfield 77, 3) := by decide +kernel
theorem dX8_tall_29 : decode cX8_tall 29 = .ok (.iload_n 1, 1) := by decide +kernel
theorem dX8_tall_30 : decode cX8_tall 30 = .ok (.invokevirtual 211, 3) := by decide +kernel
theorem dX8_tall_33 : decode cX8_tall 33 = .ok (.aload_n 0, 1) := by decide +kernel
theorem dX8_tall_34 : decode cX8_tall 34 = .ok (.getfield 69, 3) := by decide +kernel
theorem dX8_tall_37 : decode cX8_tall 37 = .ok (.iload_n 2, 1) := by decide +kernel
theorem dX8_tall_38 : decode cX8_tall 38 = .ok (.invokevirtual 212, 3) := by decide +kernel
theorem dX8_tall_41 : decode cX8_tall 41 = .ok (.ireturn, 1) := by decide +kernel
set_option maxRecDepth 20000 in
theorem ggX8_live_X8_isStrip : GoodIn wsX8_live wsX8_isStrip := goodIn_r _ [6] (by decide +kernel) (by decide +kernel)
set_option maxRecDepth 20000 in
theorem gX8_live_X8_isStrip : GoodIn wsX8_live (va_wsS RX8 207 yX8_isStrip wsX8_isStrip) := goodIn_app (goodIn_of _ (by decide +kernel)) ggX8_live_X8_isStrip
set_option maxRecDepth 20000 in
theorem ggX8_live_X5_lay : GoodIn wsX8_live wsX5_lay := goodIn_r _ [11, 12, 13, 14, 15, 16, 17, 18, 19, 20, 21, 22, 23, 24, 25, 26, 27, 28, 29, 30, 31, 32, 33, 34, 35, 36, 10, 37, 38, 39, 40, 41, 42, 43, 44, 45, 83, 84, 85, 86, 87, 88, 89, 90, 91, 92, 93, 94, 95, 96, 97, 98, 99] (by decide +kernel) (by decide +kernel)
set_option maxRecDepth 20000 in
theorem gX8_live_X5_lay : GoodIn wsX8_live (wsV RX8 211 RX5 yX5_lay wsX5_lay) := goodIn_app (goodIn_of _ (by decide +kernel)) ggX8_live_X5_lay
set_option maxRecDepth 20000 in
theorem ggX8_live_X5_used : GoodIn wsX8_live wsX5_used := goodIn_r _ [49, 50, 51, 52, 10, 53, 13, 12, 15, 54, 55, 56, 57, 18, 58, 59, 60, 61, 14, 62, 63, 64, 65, 83, 84, 85, 86, 87, 88, 89, 90, 91, 92, 93, 94, 95, 96, 97, 98] (by decide +kernel) (by decide +kernel)
set_option maxRecDepth 20000 in
theorem gX8_live_X5_used : GoodIn wsX8_live (wsV RX8 215 RX5 yX5_used wsX5_used) := goodIn_app (goodIn_of _ (by decide +kernel)) ggX8_live_X5_used
set_option maxRecDepth 20000 in
theorem ggX8_live_J6_bitCount_0f7a4 : GoodIn wsX8_live wsJ6_bitCount_0f7a4 := goodIn_r _ [69, 70, 71, 72] (by decide +kernel) (by decide +kernel)
set_option maxRecDepth 20000 in
theorem gX8_live_J6_bitCount_0f7a4 : GoodIn wsX8_live (va_wsS RX8 218 yJ6_bitCount_0f7a4 wsJ6_bitCount_0f7a4) := goodIn_app (goodIn_of _ (by decide +kernel)) ggX8_live_J6_bitCount_0f7a4
theorem dX8_live_0 : decode cX8_live 0 = .ok (.iload_n 1, 1) := by decide +kernel
theorem dX8_live_1 : decode cX8_live 1 = .ok (.invokestatic 207, 3) := by decide +kernel
theorem dX8_live_4 : decode cX8_live 4 = .ok (.ifCond .ne 6, 3) := by decide +kernel
theorem dX8_live_7 : decode cX8_live 7 = .ok (.bipush (-3), 2) := by decide +kernel
theorem dX8_live_9 : decode cX8_live 9 = .ok (.ireturn, 1) := by decide +kernel
theorem dX8_live_10 : decode cX8_live 10 = .ok (.aload_n 0, 1) := by decide +kernel
theorem dX8_live_11 : decode cX8_live 11 = .ok (.getfield 69, 3) := by decide +kernel
theorem dX8_live_14 : decode cX8_live 14 = .ok (.aload_n 0, 1) := by decide +kernel
theorem dX8_live_15 : decode cX8_live 15 = .ok (.getfield 77, 3) := by decide +kernel
theorem dX8_live_18 : decode cX8_live 18 = .ok (.iload_n 1, 1) := by decide +kernel
theorem dX8_live_19 : decode cX8_live 19 = .ok (.invokevirtual 211, 3) := by decide +kernel
theorem dX8_live_22 : decode cX8_live 22 = .ok (.aload_n 0, 1) := by decide +kernel
theorem dX8_live_23 : decode cX8_live 23 = .ok (.getfield 69, 3) := by decide +kernel
theorem dX8_live_26 : decode cX8_live 26 = .ok (.invokevirtual 215, 3) := by decide +kernel
theorem dX8_live_29 : decode cX8_live 29 = .ok (.invokestatic 218, 3) := by decide +kernel
theorem dX8_live_32 : decode cX8_live 32 = .ok (.ireturn, 1) := by decide +kernel
set_option maxRecDepth 20000 in
theorem ggX8_endless_X8_isStrip : GoodIn wsX8_endless wsX8_isStrip := goodIn_r _ [6] (by decide +kernel) (by decide +kernel)
set_option maxRecDepth 20000 in
theorem gX8_endless_X8_isStrip : GoodIn wsX8_endless (va_wsS RX8 207 yX8_isStrip wsX8_isStrip) := goodIn_app (goodIn_of _ (by decide +kernel)) ggX8_endless_X8_isStrip
set_option maxRecDepth 20000 in
theorem ggX8_endless_X5_lay : GoodIn wsX8_endless wsX5_lay := goodIn_r _ [11, 12, 13, 14, 15, 16, 17, 18, 19, 20, 21, 22, 23, 24, 25, 26, 27, 28, 29, 30, 31, 32, 33, 34, 35, 36, 10, 37, 38, 39, 40, 41, 42, 43, 44, 45, 80, 81, 82, 83, 84, 85, 86, 87, 88, 89, 90, 91, 92, 93, 94, 95, 96] (by decide +kernel) (by decide +kernel)
set_option maxRecDepth 20000 in
theorem gX8_endless_X5_lay : GoodIn wsX8_endless (wsV RX8 211 RX5 yX5_lay wsX5_lay) := goodIn_app (goodIn_of _ (by decide +kernel)) ggX8_endless_X5_lay
set_option maxRecDepth 20000 in
theorem ggX8_endless_X5_goesOn : GoodIn wsX8_endless wsX5_goesOn := goodIn_r _ [49, 13, 12, 15, 50, 51, 52, 10, 53, 54, 55, 56, 57, 58, 59, 60, 61, 18, 62, 63, 64, 65, 14, 66, 67, 68, 69, 80, 81, 82, 83, 84, 85, 86, 87, 88, 89, 90, 91, 92, 93, 94, 95] (by decide +kernel) (by decide +kernel)
set_option maxRecDepth 20000 in
theorem gX8_endless_X5_goesOn : GoodIn wsX8_endless (wsV RX8 223 RX5 yX5_goesOn wsX5_goesOn) := goodIn_app (goodIn_of _ (by decide +kernel)) ggX8_endless_X5_goesOn
theorem dX8_endless_0 : decode cX8_endless 0 = .ok (.iload_n 1, 1) := by decide +kernel
theorem dX8_endless_1 : decode cX8_endless 1 = .ok (.invokestatic 207, 3) := by decide +kernel
theorem dX8_endless_4 : decode cX8_endless 4 = .ok (.ifCond .ne 6, 3) := by decide +kernel
theorem dX8_endless_7 : decode cX8_endless 7 = .ok (.bipush (-3), 2) := by decide +kernel
theorem dX8_endless_9 : decode cX8_endless 9 = .ok (.ireturn, 1) := by decide +kernel
theorem dX8_endless_10 : decode cX8_endless 10 = .ok (.aload_n 0, 1) := by decide +kernel
theorem dX8_endless_11 : decode cX8_endless 11 = .ok (.getfield 69, 3) := by decide +kernel
theorem dX8_endless_14 : decode cX8_endless 14 = .ok (.aload_n 0, 1) := by decide +kernel
theorem dX8_endless_15 : decode cX8_endless 15 = .ok (.getfield 77, 3) := by decide +kernel
theorem dX8_endless_18 : decode cX8_endless 18 = .ok (.iload_n 1, 1) := by decide +kernel
theorem dX8_endless_19 : decode cX8_endless 19 = .ok (.invokevirtual 211, 3) := by decide +kernel
theorem dX8_endless_22 : decode cX8_endless 22 = .ok (.aload_n 0, 1) := by decide +kernel
theorem dX8_endless_23 : decode cX8_endless 23 = .ok (.getfield 69, 3) := by decide +kernel
theorem dX8_endless_26 : decode cX8_endless 26 = .ok (.invokevirtual 223, 3) := by decide +kernel
theorem dX8_endless_29 : decode cX8_endless 29 = .ok (.ifCond .eq 7, 3) := by decide +kernel
theorem dX8_endless_32 : decode cX8_endless 32 = .ok (.iconst 1, 1) := by decide +kernel
theorem dX8_endless_33 : decode cX8_endless 33 = .ok (.goto 4, 3) := by decide +kernel
theorem dX8_endless_36 : decode cX8_endless 36 = .ok (.iconst 0, 1) := by decide +kernel
theorem dX8_endless_37 : decode cX8_endless 37 = .ok (.ireturn, 1) := by decide +kernel
set_option maxRecDepth 20000 in
theorem ggX8_lowest_X8_isStrip : GoodIn wsX8_lowest wsX8_isStrip := goodIn_r _ [6] (by decide +kernel) (by decide +kernel)
set_option maxRecDepth 20000 in
theorem gX8_lowest_X8_isStrip : GoodIn wsX8_lowest (va_wsS RX8 207 yX8_isStrip wsX8_isStrip) := goodIn_app (goodIn_of _ (by decide +kernel)) ggX8_lowest_X8_isStrip
set_option maxRecDepth 20000 in
theorem ggX8_lowest_X5_lay : GoodIn wsX8_lowest wsX5_lay := goodIn_r _ [11, 12, 13, 14, 15, 16, 17, 18, 19, 20, 21, 22, 23, 24, 25, 26, 27, 28, 29, 30, 31, 32, 33, 34, 35, 36, 10, 37, 38, 39, 40, 41, 42, 43, 44, 45, 64, 65, 66, 67, 68, 69, 70, 71, 72, 73, 74, 75, 76, 77, 78, 79, 80] (by decide +kernel) (by decide +kernel)
set_option maxRecDepth 20000 in
theorem gX8_lowest_X5_lay : GoodIn wsX8_lowest (wsV RX8 211 RX5 yX5_lay wsX5_lay) := goodIn_app (goodIn_of _ (by decide +kernel)) ggX8_lowest_X5_lay
set_option maxRecDepth 20000 in
theorem ggX8_lowest_X5_leastHeight : GoodIn wsX8_lowest wsX5_leastHeight := goodIn_r _ [49, 13, 12, 15, 14, 50, 51, 52, 10, 53, 18, 64, 65, 66, 67, 68, 69, 70, 71, 72, 73, 74, 75, 76, 77, 78, 79] (by decide +kernel) (by decide +kernel)
set_option maxRecDepth 20000 in
theorem gX8_lowest_X5_leastHeight : GoodIn wsX8_lowest (wsV RX8 226 RX5 yX5_leastHeight wsX5_leastHeight) := goodIn_app (goodIn_of _ (by decide +kernel)) ggX8_lowest_X5_leastHeight
theorem dX8_lowest_0 : decode cX8_lowest 0 = .ok (.iload_n 1, 1) := by decide +kernel
theorem dX8_lowest_1 : decode cX8_lowest 1 = .ok (.invokestatic 207, 3) := by decide +kernel
theorem dX8_lowest_4 : decode cX8_lowest 4 = .ok (.ifCond .ne 6, 3) := by decide +kernel
theorem dX8_lowest_7 : decode cX8_lowest 7 = .ok (.bipush (-3), 2) := by decide +kernel
theorem dX8_lowest_9 : decode cX8_lowest 9 = .ok (.ireturn, 1) := by decide +kernel
theorem dX8_lowest_10 : decode cX8_lowest 10 = .ok (.aload_n 0, 1) := by decide +kernel
theorem dX8_lowest_11 : decode cX8_lowest 11 = .ok (.getfield 69, 3) := by decide +kernel
theorem dX8_lowest_14 : decode cX8_lowest 14 = .ok (.aload_n 0, 1) := by decide +kernel
theorem dX8_lowest_15 : decode cX8_lowest 15 = .ok (.getfield 77, 3) := by decide +kernel
theorem dX8_lowest_18 : decode cX8_lowest 18 = .ok (.iload_n 1, 1) := by decide +kernel
theorem dX8_lowest_19 : decode cX8_lowest 19 = .ok (.invokevirtual 211, 3) := by decide +kernel
theorem dX8_lowest_22 : decode cX8_lowest 22 = .ok (.aload_n 0, 1) := by decide +kernel
theorem dX8_lowest_23 : decode cX8_lowest 23 = .ok (.getfield 69, 3) := by decide +kernel
theorem dX8_lowest_26 : decode cX8_lowest 26 = .ok (.invokevirtual 226, 3) := by decide +kernel
theorem dX8_lowest_29 : decode cX8_lowest 29 = .ok (.ireturn, 1) := by decide +kernel
set_option maxRecDepth 20000 in
theorem ggX8_walker_X7_become : GoodIn wsX8_walker wsX7_become := goodIn_r _ [6, 7, 8, 9, 10, 11, 12, 13, 24, 25, 26, 27, 28, 29, 30, 31, 32, 33, 34] (by decide +kernel) (by decide +kernel)
set_option maxRecDepth 20000 in
theorem gX8_walker_X7_become : GoodIn wsX8_walker (wsV RX8 229 RX7 yX7_become wsX7_become) := goodIn_app (goodIn_of _ (by decide +kernel)) ggX8_walker_X7_become
theorem dX8_walker_0 : decode cX8_walker 0 = .ok (.iload_n 1, 1) := by decide +kernel
theorem dX8_walker_1 : decode cX8_walker 1 = .ok (.iconst 1, 1) := by decide +kernel
theorem dX8_walker_2 : decode cX8_walker 2 = .ok (.if_icmp .lt 8, 3) := by decide +kernel
theorem dX8_walker_5 : decode cX8_walker 5 = .ok (.iload_n 1, 1) := by decide +kernel
theorem dX8_walker_6 : decode cX8_walker 6 = .ok (.iconst 5, 1) := by decide +kernel
theorem dX8_walker_7 : decode cX8_walker 7 = .ok (.if_icmp .le 6, 3) := by decide +kernel
theorem dX8_walker_10 : decode cX8_walker 10 = .ok (.bipush (-3), 2) := by decide +kernel
theorem dX8_walker_12 : decode cX8_walker 12 = .ok (.ireturn, 1) := by decide +kernel
theorem dX8_walker_13 : decode cX8_walker 13 = .ok (.aload_n 0, 1) := by decide +kernel
theorem dX8_walker_14 : decode cX8_walker 14 = .ok (.getfield 30, 3) := by decide +kernel
theorem dX8_walker_17 : decode cX8_walker 17 = .ok (.iload_n 1, 1) := by decide +kernel
theorem dX8_walker_18 : decode cX8_walker 18 = .ok (.invokevirtual 229, 3) := by decide +kernel
theorem dX8_walker_21 : decode cX8_walker 21 = .ok (.iconst 1, 1) := by decide +kernel
theorem dX8_walker_22 : decode cX8_walker 22 = .ok (.ireturn, 1) := by decide +kernel
set_option maxRecDepth 20000 in
theorem ggX8_act_X7_hasState : GoodIn wsX8_act wsX7_hasState := goodIn_r _ [6, 7, 24, 25, 26, 27, 28, 29, 30, 31, 32, 33, 34] (by decide +kernel) (by decide +kernel)
set_option maxRecDepth 20000 in
theorem gX8_act_X7_hasState : GoodIn wsX8_act (wsV RX8 232 RX7 yX7_hasState wsX7_hasState) := goodIn_app (goodIn_of _ (by decide +kernel)) ggX8_act_X7_hasState
set_option maxRecDepth 20000 in
theorem ggX8_act_X7_teach : GoodIn wsX8_act wsX7_teach := goodIn_r _ [11, 12, 13, 24, 25, 26, 27, 28, 29, 30, 31, 32, 33, 34] (by decide +kernel) (by decide +kernel)
set_option maxRecDepth 20000 in
theorem gX8_act_X7_teach : GoodIn wsX8_act (wsV RX8 235 RX7 yX7_teach wsX7_teach) := goodIn_app (goodIn_of _ (by decide +kernel)) ggX8_act_X7_teach
theorem dX8_act_0 : decode cX8_act 0 = .ok (.aload_n 0, 1) := by decide +kernel
theorem dX8_act_1 : decode cX8_act 1 = .ok (.getfield 30, 3) := by decide +kernel
theorem dX8_act_4 : decode cX8_act 4 = .ok (.iload_n 1, 1) := by decide +kernel
theorem dX8_act_5 : decode cX8_act 5 = .ok (.invokevirtual 232, 3) := by decide +kernel
theorem dX8_act_8 : decode cX8_act 8 = .ok (.ifCond .eq 15, 3) := by decide +kernel
theorem dX8_act_11 : decode cX8_act 11 = .ok (.aload_n 0, 1) := by decide +kernel
theorem dX8_act_12 : decode cX8_act 12 = .ok (.getfield 30, 3) := by decide +kernel
theorem dX8_act_15 : decode cX8_act 15 = .ok (.iload 4, 2) := by decide +kernel
theorem dX8_act_17 : decode cX8_act 17 = .ok (.invokevirtual 232, 3) := by decide +kernel
theorem dX8_act_20 : decode cX8_act 20 = .ok (.ifCond .ne 6, 3) := by decide +kernel
theorem dX8_act_23 : decode cX8_act 23 = .ok (.bipush (-2), 2) := by decide +kernel
theorem dX8_act_25 : decode cX8_act 25 = .ok (.ireturn, 1) := by decide +kernel
theorem dX8_act_26 : decode cX8_act 26 = .ok (.iload_n 2, 1) := by decide +kernel
theorem dX8_act_27 : decode cX8_act 27 = .ok (.ifCond .lt 17, 3) := by decide +kernel
theorem dX8_act_30 : decode cX8_act 30 = .ok (.iload_n 2, 1) := by decide +kernel
theorem dX8_act_31 : decode cX8_act 31 = .ok (.iconst 4, 1) := by decide +kernel
theorem dX8_act_32 : decode cX8_act 32 = .ok (.if_icmp .ge 12, 3) := by decide +kernel
theorem dX8_act_35 : decode cX8_act 35 = .ok (.iload_n 3, 1) := by decide +kernel
theorem dX8_act_36 : decode cX8_act 36 = .ok (.ifCond .lt 8, 3) := by decide +kernel
theorem dX8_act_39 : decode cX8_act 39 = .ok (.iload_n 3, 1) := by decide +kernel
theorem dX8_act_40 : decode cX8_act 40 = .ok (.iconst 5, 1) := by decide +kernel
theorem dX8_act_41 : decode cX8_act 41 = .ok (.if_icmp .le 6, 3) := by decide +kernel
theorem dX8_act_44 : decode cX8_act 44 = .ok (.bipush (-3), 2) := by decide +kernel
theorem dX8_act_46 : decode cX8_act 46 = .ok (.ireturn, 1) := by decide +kernel
theorem dX8_act_47 : decode cX8_act 47 = .ok (.aload_n 0, 1) := by decide +kernel
theorem dX8_act_48 : decode cX8_act 48 = .ok (.getfield 30, 3) := by decide +kernel
theorem dX8_act_51 : decode cX8_act 51 = .ok (.iload_n 1, 1) := by decide +kernel
theorem dX8_act_52 : decode cX8_act 52 = .ok (.iload_n 2, 1) := by decide +kernel
theorem dX8_act_53 : decode cX8_act 53 = .ok (.iload_n 3, 1) := by decide +kernel
theorem dX8_act_54 : decode cX8_act 54 = .ok (.iload 4, 2) := by decide +kernel
theorem dX8_act_56 : decode cX8_act 56 = .ok (.invokevirtual 235, 3) := by decide +kernel
theorem dX8_act_59 : decode cX8_act 59 = .ok (.iconst 1, 1) := by decide +kernel
theorem dX8_act_60 : decode cX8_act 60 = .ok (.ireturn, 1) := by decide +kernel
set_option maxRecDepth 20000 in
theorem ggX8_walk_X4_gaps : GoodIn wsX8_walk wsX4_gaps := goodIn_r _ [10, 11, 12, 13, 14, 9, 15, 16, 17, 68, 69, 70] (by decide +kernel) (by decide +kernel)
set_option maxRecDepth 20000 in
theorem gX8_walk_X4_gaps : GoodIn wsX8_walk (wsV RX8 117 RX4 yX4_gaps wsX4_gaps) := goodIn_app (goodIn_of _ (by decide +kernel)) ggX8_walk_X4_gaps
set_option maxRecDepth 20000 in
theorem ggX8_walk_X7_go : GoodIn wsX8_walk wsX7_go := goodIn_r _ [22, 23, 24, 25, 26, 27, 28, 29, 30, 31, 32, 21, 33, 34, 35, 36, 37, 38, 39, 40, 41, 42, 43, 44, 45, 9, 46, 16, 17, 11, 57, 58, 59, 60, 61, 62, 63, 64, 65, 66, 67, 68, 69, 70] (by decide +kernel) (by decide +kernel)
set_option maxRecDepth 20000 in
theorem gX8_walk_X7_go : GoodIn wsX8_walk (wsV RX8 239 RX7 yX7_go wsX7_go) := goodIn_app (goodIn_of _ (by decide +kernel)) ggX8_walk_X7_go
theorem dX8_walk_0 : decode cX8_walk 0 = .ok (.iload_n 1, 1) := by decide +kernel
theorem dX8_walk_1 : decode cX8_walk 1 = .ok (.ifCond .lt 8, 3) := by decide +kernel
theorem dX8_walk_4 : decode cX8_walk 4 = .ok (.iload_n 1, 1) := by decide +kernel
theorem dX8_walk_5 : decode cX8_walk 5 = .ok (.iconst 2, 1) := by decide +kernel
theorem dX8_walk_6 : decode cX8_walk 6 = .ok (.if_icmp .le 6, 3) := by decide +kernel
theorem dX8_walk_9 : decode cX8_walk 9 = .ok (.bipush (-3), 2) := by decide +kernel
theorem dX8_walk_11 : decode cX8_walk 11 = .ok (.ireturn, 1) := by decide +kernel
theorem dX8_walk_12 : decode cX8_walk 12 = .ok (.aload_n 0, 1) := by decide +kernel
theorem dX8_walk_13 : decode cX8_walk 13 = .ok (.getfield 23, 3) := by decide +kernel
theorem dX8_walk_16 : decode cX8_walk 16 = .ok (.invokevirtual 117, 3) := by decide +kernel
theorem dX8_walk_19 : decode cX8_walk 19 = .ok (.ifCond .le 6, 3) := by decide +kernel
theorem dX8_walk_22 : decode cX8_walk 22 = .ok (.bipush (-4), 2) := by decide +kernel
theorem dX8_walk_24 : decode cX8_walk 24 = .ok (.ireturn, 1) := by decide +kernel
theorem dX8_walk_25 : decode cX8_walk 25 = .ok (.aload_n 0, 1) := by decide +kernel
theorem dX8_walk_26 : decode cX8_walk 26 = .ok (.getfield 30, 3) := by decide +kernel
theorem dX8_walk_29 : decode cX8_walk 29 = .ok (.aload_n 0, 1) := by decide +kernel
theorem dX8_walk_30 : decode cX8_walk 30 = .ok (.getfield 23, 3) := by decide +kernel
theorem dX8_walk_33 : decode cX8_walk 33 = .ok (.invokevirtual 239, 3) := by decide +kernel
theorem dX8_walk_36 : decode cX8_walk 36 = .ok (.iload_n 1, 1) := by decide +kernel
theorem dX8_walk_37 : decode cX8_walk 37 = .ok (.ifCond .ne 11, 3) := by decide +kernel
theorem dX8_walk_40 : decode cX8_walk 40 = .ok (.aload_n 0, 1) := by decide +kernel
theorem dX8_walk_41 : decode cX8_walk 41 = .ok (.getfield 30, 3) := by decide +kernel
theorem dX8_walk_44 : decode cX8_walk 44 = .ok (.getfield 243, 3) := by decide +kernel
theorem dX8_walk_47 : decode cX8_walk 47 = .ok (.ireturn, 1) := by decide +kernel
theorem dX8_walk_48 : decode cX8_walk 48 = .ok (.iload_n 1, 1) := by decide +kernel
theorem dX8_walk_49 : decode cX8_walk 49 = .ok (.iconst 1, 1) := by decide +kernel
theorem dX8_walk_50 : decode cX8_walk 50 = .ok (.if_icmp .ne 13, 3) := by decide +kernel
theorem dX8_walk_53 : decode cX8_walk 53 = .ok (.aload_n 0, 1) := by decide +kernel
theorem dX8_walk_54 : decode cX8_walk 54 = .ok (.getfield 30, 3) := by decide +kernel
theorem dX8_walk_57 : decode cX8_walk 57 = .ok (.getfield 246, 3) := by decide +kernel
theorem dX8_walk_60 : decode cX8_walk 60 = .ok (.goto 10, 3) := by decide +kernel
theorem dX8_walk_63 : decode cX8_walk 63 = .ok (.aload_n 0, 1) := by decide +kernel
theorem dX8_walk_64 : decode cX8_walk 64 = .ok (.getfield 30, 3) := by decide +kernel
theorem dX8_walk_67 : decode cX8_walk 67 = .ok (.getfield 249, 3) := by decide +kernel
theorem dX8_walk_70 : decode cX8_walk 70 = .ok (.ireturn, 1) := by decide +kernel
set_option maxRecDepth 20000 in
theorem ggX8_walked_X8_isSize : GoodIn wsX8_walked wsX8_isSize := goodIn_r _ [9] (by decide +kernel) (by decide +kernel)
set_option maxRecDepth 20000 in
theorem gX8_walked_X8_isSize : GoodIn wsX8_walked (va_wsS RX8 92 yX8_isSize wsX8_isSize) := goodIn_app (goodIn_of _ (by decide +kernel)) ggX8_walked_X8_isSize
set_option maxRecDepth 20000 in
theorem ggX8_walked_X8_openWhole : GoodIn wsX8_walked wsX8_openWhole := goodIn_r _ [13, 1, 14, 15, 16, 17, 18, 19, 20, 21, 22, 23, 24, 25, 26, 27, 28, 29, 30, 31, 32, 33, 34, 35, 36, 37, 38, 39, 40, 41, 42, 43, 44, 45, 46, 47, 48, 49, 50, 51, 52, 53, 54, 55, 56, 57, 58, 59, 60, 61, 62, 63, 64, 65, 66, 67, 68, 69, 70, 71, 72, 73, 74, 75, 76, 77, 78, 79, 80, 81, 82, 83, 84, 85, 86, 87, 88, 89, 90, 91, 92, 93, 94, 95, 96, 97, 98, 99, 100, 101, 170, 171, 172, 173, 174, 175, 176, 177, 178, 179, 180, 181, 182, 183, 184, 185, 186, 198, 199, 200, 201, 202, 203, 204, 205, 206, 207] (by decide +kernel) (by decide +kernel)
set_option maxRecDepth 20000 in
theorem gX8_walked_X8_openWhole : GoodIn wsX8_walked (wsV RX8 142 RX8 yX8_openWhole wsX8_openWhole) := goodIn_app (goodIn_of _ (by decide +kernel)) ggX8_walked_X8_openWhole
set_option maxRecDepth 20000 in
theorem ggX8_walked_X0_begin : GoodIn wsX8_walked wsX0_begin := goodIn_r _ [105, 106, 107, 108, 109, 18, 110, 21, 55, 111, 112, 113, 114, 20, 56, 115, 116, 117, 118, 59, 58, 119, 120, 121, 122, 61, 57, 60, 70, 71, 72, 73, 74, 75, 123, 124, 125, 126, 127, 66, 67, 68, 26, 69, 32, 29, 180, 181, 182, 183, 184, 185, 186, 204, 205, 206, 198, 199, 200, 201, 202, 203, 207] (by decide +kernel) (by decide +kernel)
set_option maxRecDepth 20000 in
theorem gX8_walked_X0_begin : GoodIn wsX8_walked (wsV RX8 182 RX0 yX0_begin wsX0_begin) := goodIn_app (goodIn_of _ (by decide +kernel)) ggX8_walked_X0_begin
set_option maxRecDepth 20000 in
theorem ggX8_walked_X7_go : GoodIn wsX8_walked wsX7_go := goodIn_r _ [132, 133, 134, 135, 136, 137, 138, 139, 140, 141, 142, 131, 143, 144, 145, 146, 147, 148, 149, 150, 151, 152, 153, 154, 155, 41, 156, 43, 44, 45, 187, 188, 189, 190, 191, 192, 193, 194, 195, 196, 197, 204, 205, 206] (by decide +kernel) (by decide +kernel)
set_option maxRecDepth 20000 in
theorem gX8_walked_X7_go : GoodIn wsX8_walked (wsV RX8 239 RX7 yX7_go wsX7_go) := goodIn_app (goodIn_of _ (by decide +kernel)) ggX8_walked_X7_go
set_option maxRecDepth 20000 in
theorem ggX8_walked_X0_alikeDownTo : GoodIn wsX8_walked wsX0_alikeDownTo := goodIn_r _ [160, 106, 61, 180, 181, 182, 183, 184, 185, 186] (by decide +kernel) (by decide +kernel)
set_option maxRecDepth 20000 in
theorem gX8_walked_X0_alikeDownTo : GoodIn wsX8_walked (wsV RX8 255 RX0 yX0_alikeDownTo wsX0_alikeDownTo) := goodIn_app (goodIn_of _ (by decide +kernel)) ggX8_walked_X0_alikeDownTo
set_option maxRecDepth 20000 in
theorem ggX8_walked_X0_advance : GoodIn wsX8_walked wsX0_advance := goodIn_r _ [110, 21, 55, 106, 111, 112, 113, 18, 114, 20, 56, 115, 116, 117, 118, 59, 58, 119, 120, 121, 122, 61, 57, 60, 70, 71, 72, 73, 74, 75, 123, 124, 125, 126, 127, 66, 67, 68, 26, 69, 32, 29, 180, 181, 182, 183, 184, 185, 186, 204, 205, 206, 198, 199, 200, 201, 202, 203, 207] (by decide +kernel) (by decide +kernel)
set_option maxRecDepth 20000 in
theorem gX8_walked_X0_advance : GoodIn wsX8_walked (wsV RX8 190 RX0 yX0_advance wsX0_advance) := goodIn_app (goodIn_of _ (by decide +kernel)) ggX8_walked_X0_advance
set_option maxRecDepth 20000 in
theorem ggX8_walked_X8_capped : GoodIn wsX8_walked wsX8_capped := goodIn_r _ [164, 165, 166, 167, 168, 169] (by decide +kernel) (by decide +kernel)
set_option maxRecDepth 20000 in
theorem gX8_walked_X8_capped : GoodIn wsX8_walked (va_wsS RX8 149 yX8_capped wsX8_capped) := goodIn_app (goodIn_of _ (by decide +kernel)) ggX8_walked_X8_capped
theorem dX8_walked_0 : decode cX8_walked 0 = .ok (.iload_n 1, 1) := by decide +kernel
theorem dX8_walked_1 : decode cX8_walked 1 = .ok (.iload_n 2, 1) := by decide +kernel
theorem dX8_walked_2 : decode cX8_walked 2 = .ok (.invokestatic 92, 3) := by decide +kernel
theorem dX8_walked_5 : decode cX8_walked 5 = .ok (.ifCond .ne 6, 3) := by decide +kernel
theorem dX8_walked_8 : decode cX8_walked 8 = .ok (.bipush (-3), 2) := by decide +kernel
theorem dX8_walked_10 : decode cX8_walked 10 = .ok (.ireturn, 1) := by decide +kernel
theorem dX8_walked_11 : decode cX8_walked 11 = .ok (.iload_n 1, 1) := by decide +kernel
theorem dX8_walked_12 : decode cX8_walked 12 = .ok (.iload_n 2, 1) := by decide +kernel
theorem dX8_walked_13 : decode cX8_walked 13 = .ok (.imul, 1) := by decide +kernel
theorem dX8_walked_14 : decode cX8_walked 14 = .ok (.bipush 9, 2) := by decide +kernel
theorem dX8_walked_16 : decode cX8_walked 16 = .ok (.if_icmp .le 6, 3) := by decide +kernel
theorem dX8_walked_19 : decode cX8_walked 19 = .ok (.bipush (-4), 2) := by decide +kernel
theorem dX8_walked_21 : decode cX8_walked 21 = .ok (.ireturn, 1) := by decide +kernel
theorem dX8_walked_22 : decode cX8_walked 22 = .ok (.aload_n 0, 1) := by decide +kernel
theorem dX8_walked_23 : decode cX8_walked 23 = .ok (.iload_n 1, 1) := by decide +kernel
theorem dX8_walked_24 : decode cX8_walked 24 = .ok (.iload_n 2, 1) := by decide +kernel
theorem dX8_walked_25 : decode cX8_walked 25 = .ok (.invokevirtual 142, 3) := by decide +kernel
theorem dX8_walked_28 : decode cX8_walked 28 = .ok (.lconst 0, 1) := by decide +kernel
theorem dX8_walked_29 : decode cX8_walked 29 = .ok (.lstore_n 3, 1) := by decide +kernel
theorem dX8_walked_30 : decode cX8_walked 30 = .ok (.aload_n 0, 1) := by decide +kernel
theorem dX8_walked_31 : decode cX8_walked 31 = .ok (.getfield 46, 3) := by decide +kernel
theorem dX8_walked_34 : decode cX8_walked 34 = .ok (.invokevirtual 182, 3) := by decide +kernel
theorem dX8_walked_37 : decode cX8_walked 37 = .ok (.istore 5, 2) := by decide +kernel
theorem dX8_walked_39 : decode cX8_walked 39 = .ok (.iconst 0, 1) := by decide +kernel
theorem dX8_walked_40 : decode cX8_walked 40 = .ok (.istore 6, 2) := by decide +kernel
theorem dX8_walked_42 : decode cX8_walked 42 = .ok (.iload 6, 2) := by decide +kernel
theorem dX8_walked_44 : decode cX8_walked 44 = .ok (.sipush 19683, 3) := by decide +kernel
theorem dX8_walked_47 : decode cX8_walked 47 = .ok (.if_icmp .ge 72, 3) := by decide +kernel
theorem dX8_walked_50 : decode cX8_walked 50 = .ok (.iload 5, 2) := by decide +kernel
theorem dX8_walked_52 : decode cX8_walked 52 = .ok (.ifCond .eq 67, 3) := by decide +kernel
theorem dX8_walked_55 : decode cX8_walked 55 = .ok (.aload_n 0, 1) := by decide +kernel
theorem dX8_walked_56 : decode cX8_walked 56 = .ok (.getfield 30, 3) := by decide +kernel
theorem dX8_walked_59 : decode cX8_walked 59 = .ok (.aload_n 0, 1) := by decide +kernel
theorem dX8_walked_60 : decode cX8_walked 60 = .ok (.getfield 46, 3) := by decide +kernel
theorem dX8_walked_63 : decode cX8_walked 63 = .ok (.getfield 158, 3) := by decide +kernel
theorem dX8_walked_66 : decode cX8_walked 66 = .ok (.invokevirtual 239, 3) := by decide +kernel
theorem dX8_walked_69 : decode cX8_walked 69 = .ok (.aload_n 0, 1) := by decide +kernel
theorem dX8_walked_70 : decode cX8_walked 70 = .ok (.getfield 30, 3) := by decide +kernel
theorem dX8_walked_73 : decode cX8_walked 73 = .ok (.getfield 243, 3) := by decide +kernel
theorem dX8_walked_76 : decode cX8_walked 76 = .ok (.iconst 1, 1) := by decide +kernel
theorem dX8_walked_77 : decode cX8_walked 77 = .ok (.if_icmp .ne 20, 3) := by decide +kernel
theorem dX8_walked_80 : decode cX8_walked 80 = .ok (.lload_n 3, 1) := by decide +kernel
theorem dX8_walked_81 : decode cX8_walked 81 = .ok (.aload_n 0, 1) := by decide +kernel
theorem dX8_walked_82 : decode cX8_walked 82 = .ok (.getfield 46, 3) := by decide +kernel
theorem dX8_walked_85 : decode cX8_walked 85 = .ok (.aload_n 0, 1) := by decide +kernel
theorem dX8_walked_86 : decode cX8_walked 86 = .ok (.getfield 30, 3) := by decide +kernel
theorem dX8_walked_89 : decode cX8_walked 89 = .ok (.getfield 252, 3) := by decide +kernel
theorem dX8_walked_92 : decode cX8_walked 92 = .ok (.invokevirtual 255, 3) := by decide +kernel
theorem dX8_walked_95 : decode cX8_walked 95 = .ok (.ladd, 1) := by decide +kernel
theorem dX8_walked_96 : decode cX8_walked 96 = .ok (.lstore_n 3, 1) := by decide +kernel
theorem dX8_walked_97 : decode cX8_walked 97 = .ok (.aload_n 0, 1) := by decide +kernel
theorem dX8_walked_98 : decode cX8_walked 98 = .ok (.getfield 46, 3) := by decide +kernel
theorem dX8_walked_101 : decode cX8_walked 101 = .ok (.aload_n 0, 1) := by decide +kernel
theorem dX8_walked_102 : decode cX8_walked 102 = .ok (.getfield 30, 3) := by decide +kernel
theorem dX8_walked_105 : decode cX8_walked 105 = .ok (.getfield 252, 3) := by decide +kernel
theorem dX8_walked_108 : decode cX8_walked 108 = .ok (.invokevirtual 190, 3) := by decide +kernel
theorem dX8_walked_111 : decode cX8_walked 111 = .ok (.istore 5, 2) := by decide +kernel
theorem dX8_walked_113 : decode cX8_walked 113 = .ok (.iinc 6 1, 3) := by decide +kernel
theorem dX8_walked_116 : decode cX8_walked 116 = .ok (.goto (-74), 3) := by decide +kernel
theorem dX8_walked_119 : decode cX8_walked 119 = .ok (.lload_n 3, 1) := by decide +kernel
theorem dX8_walked_120 : decode cX8_walked 120 = .ok (.invokestatic 149, 3) := by decide +kernel
theorem dX8_walked_123 : decode cX8_walked 123 = .ok (.ireturn, 1) := by decide +kernel
set_option maxRecDepth 20000 in
theorem ggX8_count_X4_gaps : GoodIn wsX8_count wsX4_gaps := goodIn_r _ [11, 12, 13, 14, 15, 10, 16, 17, 18, 29, 30, 31] (by decide +kernel) (by decide +kernel)
set_option maxRecDepth 20000 in
theorem gX8_count_X4_gaps : GoodIn wsX8_count (wsV RX8 117 RX4 yX4_gaps wsX4_gaps) := goodIn_app (goodIn_of _ (by decide +kernel)) ggX8_count_X4_gaps
theorem dX8_count_0 : decode cX8_count 0 = .ok (.iload_n 1, 1) := by decide +kernel
theorem dX8_count_1 : decode cX8_count 1 = .ok (.tableswitch 72 0 4 #[35, 40, 48, 56, 64], 35) := by decide +kernel
theorem dX8_count_36 : decode cX8_count 36 = .ok (.aload_n 0, 1) := by decide +kernel
theorem dX8_count_37 : decode cX8_count 37 = .ok (.getfield 77, 3) := by decide +kernel
theorem dX8_count_40 : decode cX8_count 40 = .ok (.ireturn, 1) := by decide +kernel
theorem dX8_count_41 : decode cX8_count 41 = .ok (.aload_n 0, 1) := by decide +kernel
theorem dX8_count_42 : decode cX8_count 42 = .ok (.getfield 23, 3) := by decide +kernel
theorem dX8_count_45 : decode cX8_count 45 = .ok (.getfield 121, 3) := by decide +kernel
theorem dX8_count_48 : decode cX8_count 48 = .ok (.ireturn, 1) := by decide +kernel
theorem dX8_count_49 : decode cX8_count 49 = .ok (.aload_n 0, 1) := by decide +kernel
theorem dX8_count_50 : decode cX8_count 50 = .ok (.getfield 23, 3) := by decide +kernel
theorem dX8_count_53 : decode cX8_count 53 = .ok (.getfield 124, 3) := by decide +kernel
theorem dX8_count_56 : decode cX8_count 56 = .ok (.ireturn, 1) := by decide +kernel
theorem dX8_count_57 : decode cX8_count 57 = .ok (.aload_n 0, 1) := by decide +kernel
theorem dX8_count_58 : decode cX8_count 58 = .ok (.getfield 23, 3) := by decide +kernel
theorem dX8_count_61 : decode cX8_count 61 = .ok (.invokevirtual 117, 3) := by decide +kernel
theorem dX8_count_64 : decode cX8_count 64 = .ok (.ireturn, 1) := by decide +kernel
theorem dX8_count_65 : decode cX8_count 65 = .ok (.aload_n 0, 1) := by decide +kernel
theorem dX8_count_66 : decode cX8_count 66 = .ok (.getfield 30, 3) := by decide +kernel
theorem dX8_count_69 : decode cX8_count 69 = .ok (.getfield 258, 3) := by decide +kernel
theorem dX8_count_72 : decode cX8_count 72 = .ok (.ireturn, 1) := by decide +kernel
theorem dX8_count_73 : decode cX8_count 73 = .ok (.bipush (-3), 2) := by decide +kernel
theorem dX8_count_75 : decode cX8_count 75 = .ok (.ireturn, 1) := by decide +kernel
set_option maxRecDepth 20000 in
theorem ggX8_beginAnew_X3_clear : GoodIn wsX8_beginAnew wsX3_clear := goodIn_r _ [10, 11, 12, 13, 14, 15, 44] (by decide +kernel) (by decide +kernel)
set_option maxRecDepth 20000 in
theorem gX8_beginAnew_X3_clear : GoodIn wsX8_beginAnew (wsV RX8 261 RX3 yX3_clear wsX3_clear) := goodIn_app (goodIn_of _ (by decide +kernel)) ggX8_beginAnew_X3_clear
set_option maxRecDepth 20000 in
theorem ggX8_beginAnew_X4_lay : GoodIn wsX8_beginAnew wsX4_lay := goodIn_r _ [20, 21, 22, 23, 24, 13, 14, 15, 45, 46, 47] (by decide +kernel) (by decide +kernel)
set_option maxRecDepth 20000 in
theorem gX8_beginAnew_X4_lay : GoodIn wsX8_beginAnew (wsV RX8 96 RX4 yX4_lay wsX4_lay) := goodIn_app (goodIn_of _ (by decide +kernel)) ggX8_beginAnew_X4_lay
set_option maxRecDepth 20000 in
theorem ggX8_beginAnew_X7_become : GoodIn wsX8_beginAnew wsX7_become := goodIn_r _ [29, 30, 31, 32, 33, 13, 14, 15, 48, 49, 50, 51, 52, 53, 54, 55, 56, 57, 58] (by decide +kernel) (by decide +kernel)
set_option maxRecDepth 20000 in
theorem gX8_beginAnew_X7_become : GoodIn wsX8_beginAnew (wsV RX8 229 RX7 yX7_become wsX7_become) := goodIn_app (goodIn_of _ (by decide +kernel)) ggX8_beginAnew_X7_become
theorem dX8_beginAnew_0 : decode cX8_beginAnew 0 = .ok (.aload_n 0, 1) := by decide +kernel
theorem dX8_beginAnew_1 : decode cX8_beginAnew 1 = .ok (.iload_n 1, 1) := by decide +kernel
theorem dX8_beginAnew_2 : decode cX8_beginAnew 2 = .ok (.putfield 77, 3) := by decide +kernel
theorem dX8_beginAnew_5 : decode cX8_beginAnew 5 = .ok (.aload_n 0, 1) := by decide +kernel
theorem dX8_beginAnew_6 : decode cX8_beginAnew 6 = .ok (.getfield 9, 3) := by decide +kernel
theorem dX8_beginAnew_9 : decode cX8_beginAnew 9 = .ok (.iconst 0, 1) := by decide +kernel
theorem dX8_beginAnew_10 : decode cX8_beginAnew 10 = .ok (.iconst 0, 1) := by decide +kernel
theorem dX8_beginAnew_11 : decode cX8_beginAnew 11 = .ok (.iastore, 1) := by decide +kernel
theorem dX8_beginAnew_12 : decode cX8_beginAnew 12 = .ok (.aload_n 0, 1) := by decide +kernel
theorem dX8_beginAnew_13 : decode cX8_beginAnew 13 = .ok (.getfield 9, 3) := by decide +kernel
theorem dX8_beginAnew_16 : decode cX8_beginAnew 16 = .ok (.iconst 1, 1) := by decide +kernel
theorem dX8_beginAnew_17 : decode cX8_beginAnew 17 = .ok (.iconst 1, 1) := by decide +kernel
theorem dX8_beginAnew_18 : decode cX8_beginAnew 18 = .ok (.iastore, 1) := by decide +kernel
theorem dX8_beginAnew_19 : decode cX8_beginAnew 19 = .ok (.aload_n 0, 1) := by decide +kernel
theorem dX8_beginAnew_20 : decode cX8_beginAnew 20 = .ok (.getfield 9, 3) := by decide +kernel
theorem dX8_beginAnew_23 : decode cX8_beginAnew 23 = .ok (.iconst 2, 1) := by decide +kernel
theorem dX8_beginAnew_24 : decode cX8_beginAnew 24 = .ok (.iconst 0, 1) := by decide +kernel
theorem dX8_beginAnew_25 : decode cX8_beginAnew 25 = .ok (.iastore, 1) := by decide +kernel
theorem dX8_beginAnew_26 : decode cX8_beginAnew 26 = .ok (.aload_n 0, 1) := by decide +kernel
theorem dX8_beginAnew_27 : decode cX8_beginAnew 27 = .ok (.getfield 16, 3) := by decide +kernel
theorem dX8_beginAnew_30 : decode cX8_beginAnew 30 = .ok (.invokevirtual 261, 3) := by decide +kernel
theorem dX8_beginAnew_33 : decode cX8_beginAnew 33 = .ok (.aload_n 0, 1) := by decide +kernel
theorem dX8_beginAnew_34 : decode cX8_beginAnew 34 = .ok (.getfield 23, 3) := by decide +kernel
theorem dX8_beginAnew_37 : decode cX8_beginAnew 37 = .ok (.iconst 1, 1) := by decide +kernel
theorem dX8_beginAnew_38 : decode cX8_beginAnew 38 = .ok (.iconst 1, 1) := by decide +kernel
theorem dX8_beginAnew_39 : decode cX8_beginAnew 39 = .ok (.invokevirtual 96, 3) := by decide +kernel
theorem dX8_beginAnew_42 : decode cX8_beginAnew 42 = .ok (.aload_n 0, 1) := by decide +kernel
theorem dX8_beginAnew_43 : decode cX8_beginAnew 43 = .ok (.getfield 30, 3) := by decide +kernel
theorem dX8_beginAnew_46 : decode cX8_beginAnew 46 = .ok (.iconst 1, 1) := by decide +kernel
theorem dX8_beginAnew_47 : decode cX8_beginAnew 47 = .ok (.invokevirtual 229, 3) := by decide +kernel
theorem dX8_beginAnew_50 : decode cX8_beginAnew 50 = .ok (.return_, 1) := by decide +kernel
theorem dX8_isSize_0 : decode cX8_isSize 0 = .ok (.iload_n 0, 1) := by decide +kernel
theorem dX8_isSize_1 : decode cX8_isSize 1 = .ok (.iconst 1, 1) := by decide +kernel
theorem dX8_isSize_2 : decode cX8_isSize 2 = .ok (.if_icmp .lt 22, 3) := by decide +kernel
theorem dX8_isSize_5 : decode cX8_isSize 5 = .ok (.iload_n 0, 1) := by decide +kernel
theorem dX8_isSize_6 : decode cX8_isSize 6 = .ok (.iconst 5, 1) := by decide +kernel
theorem dX8_isSize_7 : decode cX8_isSize 7 = .ok (.if_icmp .gt 17, 3) := by decide +kernel
theorem dX8_isSize_10 : decode cX8_isSize 10 = .ok (.iload_n 1, 1) := by decide +kernel
theorem dX8_isSize_11 : decode cX8_isSize 11 = .ok (.iconst 1, 1) := by decide +kernel
theorem dX8_isSize_12 : decode cX8_isSize 12 = .ok (.if_icmp .lt 12, 3) := by decide +kernel
theorem dX8_isSize_15 : decode cX8_isSize 15 = .ok (.iload_n 1, 1) := by decide +kernel
theorem dX8_isSize_16 : decode cX8_isSize 16 = .ok (.iconst 5, 1) := by decide +kernel
theorem dX8_isSize_17 : decode cX8_isSize 17 = .ok (.if_icmp .gt 7, 3) := by decide +kernel
theorem dX8_isSize_20 : decode cX8_isSize 20 = .ok (.iconst 1, 1) := by decide +kernel
theorem dX8_isSize_21 : decode cX8_isSize 21 = .ok (.goto 4, 3) := by decide +kernel
theorem dX8_isSize_24 : decode cX8_isSize 24 = .ok (.iconst 0, 1) := by decide +kernel
theorem dX8_isSize_25 : decode cX8_isSize 25 = .ok (.ireturn, 1) := by decide +kernel
theorem dX8_isStrip_0 : decode cX8_isStrip 0 = .ok (.iload_n 0, 1) := by decide +kernel
theorem dX8_isStrip_1 : decode cX8_isStrip 1 = .ok (.iconst 1, 1) := by decide +kernel
theorem dX8_isStrip_2 : decode cX8_isStrip 2 = .ok (.if_icmp .lt 12, 3) := by decide +kernel
theorem dX8_isStrip_5 : decode cX8_isStrip 5 = .ok (.iload_n 0, 1) := by decide +kernel
theorem dX8_isStrip_6 : decode cX8_isStrip 6 = .ok (.iconst 3, 1) := by decide +kernel
theorem dX8_isStrip_7 : decode cX8_isStrip 7 = .ok (.if_icmp .gt 7, 3) := by decide +kernel
theorem dX8_isStrip_10 : decode cX8_isStrip 10 = .ok (.iconst 1, 1) := by decide +kernel
theorem dX8_isStrip_11 : decode cX8_isStrip 11 = .ok (.goto 4, 3) := by decide +kernel
theorem dX8_isStrip_14 : decode cX8_isStrip 14 = .ok (.iconst 0, 1) := by decide +kernel
theorem dX8_isStrip_15 : decode cX8_isStrip 15 = .ok (.ireturn, 1) := by decide +kernel
theorem dX8_isLook_0 : decode cX8_isLook 0 = .ok (.iload_n 0, 1) := by decide +kernel
theorem dX8_isLook_1 : decode cX8_isLook 1 = .ok (.ifCond .lt 13, 3) := by decide +kernel
theorem dX8_isLook_4 : decode cX8_isLook 4 = .ok (.iload_n 0, 1) := by decide +kernel
theorem dX8_isLook_5 : decode cX8_isLook 5 = .ok (.iload_n 1, 1) := by decide +kernel
theorem dX8_isLook_6 : decode cX8_isLook 6 = .ok (.ishr, 1) := by decide +kernel
theorem dX8_isLook_7 : decode cX8_isLook 7 = .ok (.ifCond .ne 7, 3) := by decide +kernel
theorem dX8_isLook_10 : decode cX8_isLook 10 = .ok (.iconst 1, 1) := by decide +kernel
theorem dX8_isLook_11 : decode cX8_isLook 11 = .ok (.goto 4, 3) := by decide +kernel
theorem dX8_isLook_14 : decode cX8_isLook 14 = .ok (.iconst 0, 1) := by decide +kernel
theorem dX8_isLook_15 : decode cX8_isLook 15 = .ok (.ireturn, 1) := by decide +kernel
theorem dX8_isColour_0 : decode cX8_isColour 0 = .ok (.iload_n 1, 1) := by decide +kernel
theorem dX8_isColour_1 : decode cX8_isColour 1 = .ok (.ifCond .lt 15, 3) := by decide +kernel
theorem dX8_isColour_4 : decode cX8_isColour 4 = .ok (.iload_n 1, 1) := by decide +kernel
theorem dX8_isColour_5 : decode cX8_isColour 5 = .ok (.aload_n 0, 1) := by decide +kernel
theorem dX8_isColour_6 : decode cX8_isColour 6 = .ok (.getfield 77, 3) := by decide +kernel
theorem dX8_isColour_9 : decode cX8_isColour 9 = .ok (.if_icmp .ge 7, 3) := by decide +kernel
theorem dX8_isColour_12 : decode cX8_isColour 12 = .ok (.iconst 1, 1) := by decide +kernel
theorem dX8_isColour_13 : decode cX8_isColour 13 = .ok (.goto 4, 3) := by decide +kernel
theorem dX8_isColour_16 : decode cX8_isColour 16 = .ok (.iconst 0, 1) := by decide +kernel
theorem dX8_isColour_17 : decode cX8_isColour 17 = .ok (.ireturn, 1) := by decide +kernel
set_option maxRecDepth 20000 in
theorem ggX8_isBlock_X8_partOf : GoodIn wsX8_isBlock wsX8_partOf := goodIn_r _ [4] (by decide +kernel) (by decide +kernel)
set_option maxRecDepth 20000 in
theorem gX8_isBlock_X8_partOf : GoodIn wsX8_isBlock (va_wsS RX8 113 yX8_partOf wsX8_partOf) := goodIn_app (goodIn_of _ (by decide +kernel)) ggX8_isBlock_X8_partOf
set_option maxRecDepth 20000 in
theorem ggX8_isBlock_X8_isColour : GoodIn wsX8_isBlock wsX8_isColour := goodIn_r _ [8, 9, 10, 11, 12, 13, 14, 15, 16, 17, 18, 19] (by decide +kernel) (by decide +kernel)
set_option maxRecDepth 20000 in
theorem gX8_isBlock_X8_isColour : GoodIn wsX8_isBlock (wsV RX8 103 RX8 yX8_isColour wsX8_isColour) := goodIn_app (goodIn_of _ (by decide +kernel)) ggX8_isBlock_X8_isColour
theorem dX8_isBlock_0 : decode cX8_isBlock 0 = .ok (.iload_n 1, 1) := by decide +kernel
theorem dX8_isBlock_1 : decode cX8_isBlock 1 = .ok (.ifCond .lt 10, 3) := by decide +kernel
theorem dX8_isBlock_4 : decode cX8_isBlock 4 = .ok (.iload_n 1, 1) := by decide +kernel
theorem dX8_isBlock_5 : decode cX8_isBlock 5 = .ok (.sipush 256, 3) := by decide +kernel
theorem dX8_isBlock_8 : decode cX8_isBlock 8 = .ok (.if_icmp .lt 5, 3) := by decide +kernel
theorem dX8_isBlock_11 : decode cX8_isBlock 11 = .ok (.iconst 0, 1) := by decide +kernel
theorem dX8_isBlock_12 : decode cX8_isBlock 12 = .ok (.ireturn, 1) := by decide +kernel
theorem dX8_isBlock_13 : decode cX8_isBlock 13 = .ok (.iconst 0, 1) := by decide +kernel
theorem dX8_isBlock_14 : decode cX8_isBlock 14 = .ok (.istore_n 2, 1) := by decide +kernel
theorem dX8_isBlock_15 : decode cX8_isBlock 15 = .ok (.iload_n 2, 1) := by decide +kernel
theorem dX8_isBlock_16 : decode cX8_isBlock 16 = .ok (.iconst 4, 1) := by decide +kernel
theorem dX8_isBlock_17 : decode cX8_isBlock 17 = .ok (.if_icmp .ge 31, 3) := by decide +kernel
theorem dX8_isBlock_20 : decode cX8_isBlock 20 = .ok (.iload_n 1, 1) := by decide +kernel
theorem dX8_isBlock_21 : decode cX8_isBlock 21 = .ok (.i2l, 1) := by decide +kernel
theorem dX8_isBlock_22 : decode cX8_isBlock 22 = .ok (.iload_n 2, 1) := by decide +kernel
theorem dX8_isBlock_23 : decode cX8_isBlock 23 = .ok (.invokestatic 113, 3) := by decide +kernel
theorem dX8_isBlock_26 : decode cX8_isBlock 26 = .ok (.istore_n 3, 1) := by decide +kernel
theorem dX8_isBlock_27 : decode cX8_isBlock 27 = .ok (.iload_n 3, 1) := by decide +kernel
theorem dX8_isBlock_28 : decode cX8_isBlock 28 = .ok (.iconst 3, 1) := by decide +kernel
theorem dX8_isBlock_29 : decode cX8_isBlock 29 = .ok (.if_icmp .eq 13, 3) := by decide +kernel
theorem dX8_isBlock_32 : decode cX8_isBlock 32 = .ok (.aload_n 0, 1) := by decide +kernel
theorem dX8_isBlock_33 : decode cX8_isBlock 33 = .ok (.iload_n 3, 1) := by decide +kernel
theorem dX8_isBlock_34 : decode cX8_isBlock 34 = .ok (.invokevirtual 103, 3) := by decide +kernel
theorem dX8_isBlock_37 : decode cX8_isBlock 37 = .ok (.ifCond .ne 5, 3) := by decide +kernel
theorem dX8_isBlock_40 : decode cX8_isBlock 40 = .ok (.iconst 0, 1) := by decide +kernel
theorem dX8_isBlock_41 : decode cX8_isBlock 41 = .ok (.ireturn, 1) := by decide +kernel
theorem dX8_isBlock_42 : decode cX8_isBlock 42 = .ok (.iinc 2 1, 3) := by decide +kernel
theorem dX8_isBlock_45 : decode cX8_isBlock 45 = .ok (.goto (-30), 3) := by decide +kernel
theorem dX8_isBlock_48 : decode cX8_isBlock 48 = .ok (.iconst 1, 1) := by decide +kernel
theorem dX8_isBlock_49 : decode cX8_isBlock 49 = .ok (.ireturn, 1) := by decide +kernel
theorem dX8_partOf_0 : decode cX8_partOf 0 = .ok (.lload_n 0, 1) := by decide +kernel
theorem dX8_partOf_1 : decode cX8_partOf 1 = .ok (.iconst 2, 1) := by decide +kernel
theorem dX8_partOf_2 : decode cX8_partOf 2 = .ok (.iload_n 2, 1) := by decide +kernel
theorem dX8_partOf_3 : decode cX8_partOf 3 = .ok (.imul, 1) := by decide +kernel
theorem dX8_partOf_4 : decode cX8_partOf 4 = .ok (.lshr, 1) := by decide +kernel
theorem dX8_partOf_5 : decode cX8_partOf 5 = .ok (.l2i, 1) := by decide +kernel
theorem dX8_partOf_6 : decode cX8_partOf 6 = .ok (.iconst 3, 1) := by decide +kernel
theorem dX8_partOf_7 : decode cX8_partOf 7 = .ok (.iand, 1) := by decide +kernel
theorem dX8_partOf_8 : decode cX8_partOf 8 = .ok (.ireturn, 1) := by decide +kernel
theorem dX8_capped_0 : decode cX8_capped 0 = .ok (.lload_n 0, 1) := by decide +kernel
theorem dX8_capped_1 : decode cX8_capped 1 = .ok (.ldc2_w 262, 3) := by decide +kernel
theorem dX8_capped_4 : decode cX8_capped 4 = .ok (.invokestatic 264, 3) := by decide +kernel
theorem dX8_capped_7 : decode cX8_capped 7 = .ok (.l2i, 1) := by decide +kernel
theorem dX8_capped_8 : decode cX8_capped 8 = .ok (.ireturn, 1) := by decide +kernel
set_option maxRecDepth 20000 in
theorem ggX8_openWhole_X0_open : GoodIn wsX8_openWhole wsX0_open := goodIn_r _ [7, 8, 9, 10, 11, 12, 13, 14, 15, 16, 17, 18, 19, 20, 21, 22, 23, 24, 25, 26, 27, 28, 29, 30, 31, 32, 33, 34, 35, 36, 37, 38, 100, 101, 102, 103, 104, 105, 106, 107, 108, 109, 110, 111, 112, 113, 114, 115] (by decide +kernel) (by decide +kernel)
set_option maxRecDepth 20000 in
theorem gX8_openWhole_X0_open : GoodIn wsX8_openWhole (wsV RX8 270 RX0 yX0_open wsX0_open) := goodIn_app (goodIn_of _ (by decide +kernel)) ggX8_openWhole_X0_open
set_option maxRecDepth 20000 in
theorem ggX8_openWhole_X0_fill : GoodIn wsX8_openWhole wsX0_fill := goodIn_r _ [42, 9, 43, 8, 44, 45, 46, 47, 48, 49, 50, 51, 52, 6, 53, 10, 54, 55, 56, 14, 57, 20, 17, 58, 59, 60, 61, 62, 63, 64, 65, 66, 67, 68, 69, 70, 71, 72, 73, 74, 75, 76, 77, 78, 79, 80, 81, 82, 83, 84, 85, 86, 87, 88, 89, 100, 101, 102, 103, 104, 105, 106, 113, 114, 115, 107, 108, 109, 110, 111, 112, 116] (by decide +kernel) (by decide +kernel)
set_option maxRecDepth 20000 in
theorem gX8_openWhole_X0_fill : GoodIn wsX8_openWhole (wsV RX8 168 RX0 yX0_fill wsX0_fill) := goodIn_app (goodIn_of _ (by decide +kernel)) ggX8_openWhole_X0_fill
theorem dX8_openWhole_0 : decode cX8_openWhole 0 = .ok (.aload_n 0, 1) := by decide +kernel
theorem dX8_openWhole_1 : decode cX8_openWhole 1 = .ok (.getfield 46, 3) := by decide +kernel
theorem dX8_openWhole_4 : decode cX8_openWhole 4 = .ok (.aload_n 0, 1) := by decide +kernel
theorem dX8_openWhole_5 : decode cX8_openWhole 5 = .ok (.getfield 77, 3) := by decide +kernel
theorem dX8_openWhole_8 : decode cX8_openWhole 8 = .ok (.iload_n 1, 1) := by decide +kernel
theorem dX8_openWhole_9 : decode cX8_openWhole 9 = .ok (.iload_n 2, 1) := by decide +kernel
theorem dX8_openWhole_10 : decode cX8_openWhole 10 = .ok (.invokevirtual 270, 3) := by decide +kernel
theorem dX8_openWhole_13 : decode cX8_openWhole 13 = .ok (.aload_n 0, 1) := by decide +kernel
theorem dX8_openWhole_14 : decode cX8_openWhole 14 = .ok (.getfield 46, 3) := by decide +kernel
theorem dX8_openWhole_17 : decode cX8_openWhole 17 = .ok (.invokevirtual 168, 3) := by decide +kernel
theorem dX8_openWhole_20 : decode cX8_openWhole 20 = .ok (.return_, 1) := by decide +kernel
set_option maxRecDepth 20000 in
theorem ggX8_openEndings_X0_open : GoodIn wsX8_openEndings wsX0_open := goodIn_r _ [12, 13, 14, 15, 16, 17, 18, 19, 20, 21, 22, 23, 24, 25, 26, 27, 28, 29, 30, 31, 32, 33, 34, 35, 36, 37, 38, 39, 40, 41, 42, 43, 61, 62, 63, 64, 65, 66, 67, 68, 69, 70, 71, 72, 73, 58, 59, 60] (by decide +kernel) (by decide +kernel)
set_option maxRecDepth 20000 in
theorem gX8_openEndings_X0_open : GoodIn wsX8_openEndings (wsV RX8 270 RX0 yX0_open wsX0_open) := goodIn_app (goodIn_of _ (by decide +kernel)) ggX8_openEndings_X0_open
set_option maxRecDepth 20000 in
theorem ggX8_openEndings_X4_size : GoodIn wsX8_openEndings wsX4_size := goodIn_r _ [47, 36, 37, 58, 59, 60] (by decide +kernel) (by decide +kernel)
set_option maxRecDepth 20000 in
theorem gX8_openEndings_X4_size : GoodIn wsX8_openEndings (wsV RX8 109 RX4 yX4_size wsX4_size) := goodIn_app (goodIn_of _ (by decide +kernel)) ggX8_openEndings_X4_size
theorem dX8_openEndings_0 : decode cX8_openEndings 0 = .ok (.aload_n 0, 1) := by decide +kernel
theorem dX8_openEndings_1 : decode cX8_openEndings 1 = .ok (.getfield 46, 3) := by decide +kernel
theorem dX8_openEndings_4 : decode cX8_openEndings 4 = .ok (.aload_n 0, 1) := by decide +kernel
theorem dX8_openEndings_5 : decode cX8_openEndings 5 = .ok (.getfield 77, 3) := by decide +kernel
theorem dX8_openEndings_8 : decode cX8_openEndings 8 = .ok (.aload_n 0, 1) := by decide +kernel
theorem dX8_openEndings_9 : decode cX8_openEndings 9 = .ok (.getfield 23, 3) := by decide +kernel
theorem dX8_openEndings_12 : decode cX8_openEndings 12 = .ok (.getfield 121, 3) := by decide +kernel
theorem dX8_openEndings_15 : decode cX8_openEndings 15 = .ok (.aload_n 0, 1) := by decide +kernel
theorem dX8_openEndings_16 : decode cX8_openEndings 16 = .ok (.getfield 23, 3) := by decide +kernel
theorem dX8_openEndings_19 : decode cX8_openEndings 19 = .ok (.getfield 124, 3) := by decide +kernel
theorem dX8_openEndings_22 : decode cX8_openEndings 22 = .ok (.invokevirtual 270, 3) := by decide +kernel
theorem dX8_openEndings_25 : decode cX8_openEndings 25 = .ok (.aload_n 0, 1) := by decide +kernel
theorem dX8_openEndings_26 : decode cX8_openEndings 26 = .ok (.getfield 23, 3) := by decide +kernel
theorem dX8_openEndings_29 : decode cX8_openEndings 29 = .ok (.invokevirtual 109, 3) := by decide +kernel
theorem dX8_openEndings_32 : decode cX8_openEndings 32 = .ok (.istore_n 1, 1) := by decide +kernel
theorem dX8_openEndings_33 : decode cX8_openEndings 33 = .ok (.iconst 0, 1) := by decide +kernel
theorem dX8_openEndings_34 : decode cX8_openEndings 34 = .ok (.istore_n 2, 1) := by decide +kernel
theorem dX8_openEndings_35 : decode cX8_openEndings 35 = .ok (.iload_n 2, 1) := by decide +kernel
theorem dX8_openEndings_36 : decode cX8_openEndings 36 = .ok (.iload_n 1, 1) := by decide +kernel
theorem dX8_openEndings_37 : decode cX8_openEndings 37 = .ok (.if_icmp .ge 42, 3) := by decide +kernel
theorem dX8_openEndings_40 : decode cX8_openEndings 40 = .ok (.aload_n 0, 1) := by decide +kernel
theorem dX8_openEndings_41 : decode cX8_openEndings 41 = .ok (.getfield 23, 3) := by decide +kernel
theorem dX8_openEndings_44 : decode cX8_openEndings 44 = .ok (.getfield 106, 3) := by decide +kernel
theorem dX8_openEndings_47 : decode cX8_openEndings 47 = .ok (.iload_n 2, 1) := by decide +kernel
theorem dX8_openEndings_48 : decode cX8_openEndings 48 = .ok (.iaload, 1) := by decide +kernel
theorem dX8_openEndings_49 : decode cX8_openEndings 49 = .ok (.iconst (-1), 1) := by decide +kernel
theorem dX8_openEndings_50 : decode cX8_openEndings 50 = .ok (.if_icmp .eq 23, 3) := by decide +kernel
theorem dX8_openEndings_53 : decode cX8_openEndings 53 = .ok (.aload_n 0, 1) := by decide +kernel
theorem dX8_openEndings_54 : decode cX8_openEndings 54 = .ok (.getfield 46, 3) := by decide +kernel
theorem dX8_openEndings_57 : decode cX8_openEndings 57 = .ok (.getfield 174, 3) := by decide +kernel
theorem dX8_openEndings_60 : decode cX8_openEndings 60 = .ok (.iload_n 2, 1) := by decide +kernel
theorem dX8_openEndings_61 : decode cX8_openEndings 61 = .ok (.iconst 1, 1) := by decide +kernel
theorem dX8_openEndings_62 : decode cX8_openEndings 62 = .ok (.aload_n 0, 1) := by decide +kernel
theorem dX8_openEndings_63 : decode cX8_openEndings 63 = .ok (.getfield 23, 3) := by decide +kernel
theorem dX8_openEndings_66 : decode cX8_openEndings 66 = .ok (.getfield 106, 3) := by decide +kernel
theorem dX8_openEndings_69 : decode cX8_openEndings 69 = .ok (.iload_n 2, 1) := by decide +kernel
theorem dX8_openEndings_70 : decode cX8_openEndings 70 = .ok (.iaload, 1) := by decide +kernel
theorem dX8_openEndings_71 : decode cX8_openEndings 71 = .ok (.ishl, 1) := by decide +kernel
theorem dX8_openEndings_72 : decode cX8_openEndings 72 = .ok (.iastore, 1) := by decide +kernel
theorem dX8_openEndings_73 : decode cX8_openEndings 73 = .ok (.iinc 2 1, 3) := by decide +kernel
theorem dX8_openEndings_76 : decode cX8_openEndings 76 = .ok (.goto (-41), 3) := by decide +kernel
theorem dX8_openEndings_79 : decode cX8_openEndings 79 = .ok (.return_, 1) := by decide +kernel
set_option maxRecDepth 20000 in
theorem ggX8_openLook_X0_open : GoodIn wsX8_openLook wsX0_open := goodIn_r _ [8, 9, 10, 11, 12, 13, 14, 15, 16, 17, 18, 19, 20, 21, 22, 23, 24, 25, 26, 27, 28, 29, 30, 31, 32, 33, 34, 35, 36, 37, 38, 39, 56, 57, 58, 59, 60, 61, 62, 63, 64, 65, 66, 67, 68, 69, 70, 71] (by decide +kernel) (by decide +kernel)
set_option maxRecDepth 20000 in
theorem gX8_openLook_X0_open : GoodIn wsX8_openLook (wsV RX8 270 RX0 yX0_open wsX0_open) := goodIn_app (goodIn_of _ (by decide +kernel)) ggX8_openLook_X0_open
set_option maxRecDepth 20000 in
theorem ggX8_openLook_X8_coloursOf : GoodIn wsX8_openLook wsX8_coloursOf := goodIn_r _ [44, 2, 45, 46, 47, 48, 49, 50, 51, 52, 53, 54, 55] (by decide +kernel) (by decide +kernel)
set_option maxRecDepth 20000 in
theorem gX8_openLook_X8_coloursOf : GoodIn wsX8_openLook (wsV RX8 272 RX8 yX8_coloursOf wsX8_coloursOf) := goodIn_app (goodIn_of _ (by decide +kernel)) ggX8_openLook_X8_coloursOf
theorem dX8_openLook_0 : decode cX8_openLook 0 = .ok (.aload_n 0, 1) := by decide +kernel
theorem dX8_openLook_1 : decode cX8_openLook 1 = .ok (.getfield 46, 3) := by decide +kernel
theorem dX8_openLook_4 : decode cX8_openLook 4 = .ok (.aload_n 0, 1) := by decide +kernel
theorem dX8_openLook_5 : decode cX8_openLook 5 = .ok (.getfield 77, 3) := by decide +kernel
theorem dX8_openLook_8 : decode cX8_openLook 8 = .ok (.iload_n 1, 1) := by decide +kernel
theorem dX8_openLook_9 : decode cX8_openLook 9 = .ok (.iload_n 2, 1) := by decide +kernel
theorem dX8_openLook_10 : decode cX8_openLook 10 = .ok (.invokevirtual 270, 3) := by decide +kernel
theorem dX8_openLook_13 : decode cX8_openLook 13 = .ok (.iconst 0, 1) := by decide +kernel
theorem dX8_openLook_14 : decode cX8_openLook 14 = .ok (.istore 4, 2) := by decide +kernel
theorem dX8_openLook_16 : decode cX8_openLook 16 = .ok (.iload 4, 2) := by decide +kernel
theorem dX8_openLook_18 : decode cX8_openLook 18 = .ok (.iload_n 1, 1) := by decide +kernel
theorem dX8_openLook_19 : decode cX8_openLook 19 = .ok (.iload_n 2, 1) := by decide +kernel
theorem dX8_openLook_20 : decode cX8_openLook 20 = .ok (.imul, 1) := by decide +kernel
theorem dX8_openLook_21 : decode cX8_openLook 21 = .ok (.if_icmp .ge 29, 3) := by decide +kernel
theorem dX8_openLook_24 : decode cX8_openLook 24 = .ok (.aload_n 0, 1) := by decide +kernel
theorem dX8_openLook_25 : decode cX8_openLook 25 = .ok (.getfield 46, 3) := by decide +kernel
theorem dX8_openLook_28 : decode cX8_openLook 28 = .ok (.getfield 174, 3) := by decide +kernel
theorem dX8_openLook_31 : decode cX8_openLook 31 = .ok (.iload 4, 2) := by decide +kernel
theorem dX8_openLook_33 : decode cX8_openLook 33 = .ok (.aload_n 0, 1) := by decide +kernel
theorem dX8_openLook_34 : decode cX8_openLook 34 = .ok (.iload_n 3, 1) := by decide +kernel
theorem dX8_openLook_35 : decode cX8_openLook 35 = .ok (.iload 4, 2) := by decide +kernel
theorem dX8_openLook_37 : decode cX8_openLook 37 = .ok (.ishr, 1) := by decide +kernel
theorem dX8_openLook_38 : decode cX8_openLook 38 = .ok (.iconst 1, 1) := by decide +kernel
theorem dX8_openLook_39 : decode cX8_openLook 39 = .ok (.iand, 1) := by decide +kernel
theorem dX8_openLook_40 : decode cX8_openLook 40 = .ok (.invokevirtual 272, 3) := by decide +kernel
theorem dX8_openLook_43 : decode cX8_openLook 43 = .ok (.iastore, 1) := by decide +kernel
theorem dX8_openLook_44 : decode cX8_openLook 44 = .ok (.iinc 4 1, 3) := by decide +kernel
theorem dX8_openLook_47 : decode cX8_openLook 47 = .ok (.goto (-31), 3) := by decide +kernel
theorem dX8_openLook_50 : decode cX8_openLook 50 = .ok (.return_, 1) := by decide +kernel
theorem dX8_coloursOf_0 : decode cX8_coloursOf 0 = .ok (.iconst 0, 1) := by decide +kernel
theorem dX8_coloursOf_1 : decode cX8_coloursOf 1 = .ok (.istore_n 2, 1) := by decide +kernel
theorem dX8_coloursOf_2 : decode cX8_coloursOf 2 = .ok (.iconst 0, 1) := by decide +kernel
theorem dX8_coloursOf_3 : decode cX8_coloursOf 3 = .ok (.istore_n 3, 1) := by decide +kernel
theorem dX8_coloursOf_4 : decode cX8_coloursOf 4 = .ok (.iload_n 3, 1) := by decide +kernel
theorem dX8_coloursOf_5 : decode cX8_coloursOf 5 = .ok (.aload_n 0, 1) := by decide +kernel
theorem dX8_coloursOf_6 : decode cX8_coloursOf 6 = .ok (.getfield 77, 3) := by decide +kernel
theorem dX8_coloursOf_9 : decode cX8_coloursOf 9 = .ok (.if_icmp .ge 25, 3) := by decide +kernel
theorem dX8_coloursOf_12 : decode cX8_coloursOf 12 = .ok (.aload_n 0, 1) := by decide +kernel
theorem dX8_coloursOf_13 : decode cX8_coloursOf 13 = .ok (.getfield 9, 3) := by decide +kernel
theorem dX8_coloursOf_16 : decode cX8_coloursOf 16 = .ok (.iload_n 3, 1) := by decide +kernel
theorem dX8_coloursOf_17 : decode cX8_coloursOf 17 = .ok (.iaload, 1) := by decide +kernel
theorem dX8_coloursOf_18 : decode cX8_coloursOf 18 = .ok (.iload_n 1, 1) := by decide +kernel
theorem dX8_coloursOf_19 : decode cX8_coloursOf 19 = .ok (.if_icmp .ne 9, 3) := by decide +kernel
theorem dX8_coloursOf_22 : decode cX8_coloursOf 22 = .ok (.iload_n 2, 1) := by decide +kernel
theorem dX8_coloursOf_23 : decode cX8_coloursOf 23 = .ok (.iconst 1, 1) := by decide +kernel
theorem dX8_coloursOf_24 : decode cX8_coloursOf 24 = .ok (.iload_n 3, 1) := by decide +kernel
theorem dX8_coloursOf_25 : decode cX8_coloursOf 25 = .ok (.ishl, 1) := by decide +kernel
theorem dX8_coloursOf_26 : decode cX8_coloursOf 26 = .ok (.ior, 1) := by decide +kernel
theorem dX8_coloursOf_27 : decode cX8_coloursOf 27 = .ok (.istore_n 2, 1) := by decide +kernel
theorem dX8_coloursOf_28 : decode cX8_coloursOf 28 = .ok (.iinc 3 1, 3) := by decide +kernel
theorem dX8_coloursOf_31 : decode cX8_coloursOf 31 = .ok (.goto (-27), 3) := by decide +kernel
theorem dX8_coloursOf_34 : decode cX8_coloursOf 34 = .ok (.iload_n 2, 1) := by decide +kernel
theorem dX8_coloursOf_35 : decode cX8_coloursOf 35 = .ok (.ireturn, 1) := by decide +kernel
set_option maxRecDepth 20000 in
theorem ggX8_firstColour_X0_fill : GoodIn wsX8_firstColour wsX0_fill := goodIn_r _ [8, 9, 10, 11, 12, 13, 14, 15, 16, 17, 18, 19, 20, 7, 21, 22, 23, 24, 25, 26, 27, 28, 29, 30, 31, 32, 33, 34, 35, 36, 37, 38, 39, 40, 41, 42, 43, 44, 45, 46, 47, 48, 49, 50, 51, 52, 53, 54, 55, 56, 57, 58, 59, 60, 61, 98, 99, 100, 101, 102, 103, 104, 105, 106, 107, 108, 109, 110, 111, 112, 113, 114] (by decide +kernel) (by decide +kernel)
set_option maxRecDepth 20000 in
theorem gX8_firstColour_X0_fill : GoodIn wsX8_firstColour (wsV RX8 168 RX0 yX0_fill wsX0_fill) := goodIn_app (goodIn_of _ (by decide +kernel)) ggX8_firstColour_X0_fill
set_option maxRecDepth 20000 in
theorem ggX8_firstColour_X0_begin : GoodIn wsX8_firstColour wsX0_begin := goodIn_r _ [65, 66, 67, 68, 69, 7, 70, 9, 10, 71, 72, 73, 74, 11, 12, 75, 76, 77, 78, 15, 14, 79, 80, 81, 82, 17, 13, 16, 30, 31, 32, 33, 34, 35, 83, 84, 85, 86, 87, 23, 24, 25, 26, 27, 28, 29, 98, 99, 100, 101, 102, 103, 104, 105, 106, 107, 108, 109, 110, 111, 112, 113, 114] (by decide +kernel) (by decide +kernel)
set_option maxRecDepth 20000 in
theorem gX8_firstColour_X0_begin : GoodIn wsX8_firstColour (wsV RX8 182 RX0 yX0_begin wsX0_begin) := goodIn_app (goodIn_of _ (by decide +kernel)) ggX8_firstColour_X0_begin
theorem dX8_firstColour_0 : decode cX8_firstColour 0 = .ok (.aload_n 0, 1) := by decide +kernel
theorem dX8_firstColour_1 : decode cX8_firstColour 1 = .ok (.getfield 46, 3) := by decide +kernel
theorem dX8_firstColour_4 : decode cX8_firstColour 4 = .ok (.invokevirtual 168, 3) := by decide +kernel
theorem dX8_firstColour_7 : decode cX8_firstColour 7 = .ok (.aload_n 0, 1) := by decide +kernel
theorem dX8_firstColour_8 : decode cX8_firstColour 8 = .ok (.getfield 46, 3) := by decide +kernel
theorem dX8_firstColour_11 : decode cX8_firstColour 11 = .ok (.invokevirtual 182, 3) := by decide +kernel
theorem dX8_firstColour_14 : decode cX8_firstColour 14 = .ok (.ifCond .eq 18, 3) := by decide +kernel
theorem dX8_firstColour_17 : decode cX8_firstColour 17 = .ok (.aload_n 0, 1) := by decide +kernel
theorem dX8_firstColour_18 : decode cX8_firstColour 18 = .ok (.getfield 46, 3) := by decide +kernel
theorem dX8_firstColour_21 : decode cX8_firstColour 21 = .ok (.getfield 158, 3) := by decide +kernel
theorem dX8_firstColour_24 : decode cX8_firstColour 24 = .ok (.getfield 106, 3) := by decide +kernel
theorem dX8_firstColour_27 : decode cX8_firstColour 27 = .ok (.iload_n 1, 1) := by decide +kernel
theorem dX8_firstColour_28 : decode cX8_firstColour 28 = .ok (.iaload, 1) := by decide +kernel
theorem dX8_firstColour_29 : decode cX8_firstColour 29 = .ok (.goto 4, 3) := by decide +kernel
theorem dX8_firstColour_32 : decode cX8_firstColour 32 = .ok (.iconst (-1), 1) := by decide +kernel
theorem dX8_firstColour_33 : decode cX8_firstColour 33 = .ok (.ireturn, 1) := by decide +kernel
theorem dX9_init_0 : decode cX9_init 0 = .ok (.aload_n 0, 1) := by decide +kernel
theorem dX9_init_1 : decode cX9_init 1 = .ok (.invokespecial 1, 3) := by decide +kernel
theorem dX9_init_4 : decode cX9_init 4 = .ok (.aload_n 0, 1) := by decide +kernel
theorem dX9_init_5 : decode cX9_init 5 = .ok (.iconst 2, 1) := by decide +kernel
theorem dX9_init_6 : decode cX9_init 6 = .ok (.putfield 7, 3) := by decide +kernel
theorem dX9_init_9 : decode cX9_init 9 = .ok (.aload_n 0, 1) := by decide +kernel
theorem dX9_init_10 : decode cX9_init 10 = .ok (.sipush 256, 3) := by decide +kernel
theorem dX9_init_13 : decode cX9_init 13 = .ok (.newarray .boolean, 2) := by decide +kernel
theorem dX9_init_15 : decode cX9_init 15 = .ok (.putfield 13, 3) := by decide +kernel
theorem dX9_init_18 : decode cX9_init 18 = .ok (.aload_n 0, 1) := by decide +kernel
theorem dX9_init_19 : decode cX9_init 19 = .ok (.iconst 1, 1) := by decide +kernel
theorem dX9_init_20 : decode cX9_init 20 = .ok (.putfield 17, 3) := by decide +kernel
theorem dX9_init_23 : decode cX9_init 23 = .ok (.aload_n 0, 1) := by decide +kernel
theorem dX9_init_24 : decode cX9_init 24 = .ok (.iconst 1, 1) := by decide +kernel
theorem dX9_init_25 : decode cX9_init 25 = .ok (.putfield 20, 3) := by decide +kernel
theorem dX9_init_28 : decode cX9_init 28 = .ok (.aload_n 0, 1) := by decide +kernel
theorem dX9_init_29 : decode cX9_init 29 = .ok (.bipush 25, 2) := by decide +kernel
theorem dX9_init_31 : decode cX9_init 31 = .ok (.newarray .int, 2) := by decide +kernel
theorem dX9_init_33 : decode cX9_init 33 = .ok (.dup, 1) := by decide +kernel
theorem dX9_init_34 : decode cX9_init 34 = .ok (.iconst 0, 1) := by decide +kernel
theorem dX9_init_35 : decode cX9_init 35 = .ok (.iconst (-1), 1) := by decide +kernel
theorem dX9_init_36 : decode cX9_init 36 = .ok (.iastore, 1) := by decide +kernel
theorem dX9_init_37 : decode cX9_init 37 = .ok (.dup, 1) := by decide +kernel
theorem dX9_init_38 : decode cX9_init 38 = .ok (.iconst 1, 1) := by decide +kernel
theorem dX9_init_39 : decode cX9_init 39 = .ok (.iconst (-1), 1) := by decide +kernel
theorem dX9_init_40 : decode cX9_init 40 = .ok (.iastore, 1) := by decide +kernel
theorem dX9_init_41 : decode cX9_init 41 = .ok (.dup, 1) := by decide +kernel
theorem dX9_init_42 : decode cX9_init 42 = .ok (.iconst 2, 1) := by decide +kernel
theorem dX9_init_43 : decode cX9_init 43 = .ok (.iconst (-1), 1) := by decide +kernel
theorem dX9_init_44 : decode cX9_init 44 = .ok (.iastore, 1) := by decide +kernel
theorem dX9_init_45 : decode cX9_init 45 = .ok (.dup, 1) := by decide +kernel
theorem dX9_init_46 : decode cX9_init 46 = .ok (.iconst 3, 1) := by decide +kernel
theorem dX9_init_47 : decode cX9_init 47 = .ok (.iconst (-1), 1) := by decide +kernel
theorem dX9_init_48 : decode cX9_init 48 = .ok (.iastore, 1) := by decide +kernel
theorem dX9_init_49 : decode cX9_init 49 = .ok (.dup, 1) := by decide +kernel
theorem dX9_init_50 : decode cX9_init 50 = .ok (.iconst 4, 1) := by decide +kernel
theorem dX9_init_51 : decode cX9_init 51 = .ok (.iconst (-1), 1) := by decide +kernel
theorem dX9_init_52 : decode cX9_init 52 = .ok (.iastore, 1) := by decide +kernel
theorem dX9_init_53 : decode cX9_init 53 = .ok (.dup, 1) := by decide +kernel
theorem dX9_init_54 : decode cX9_init 54 = .ok (.iconst 5, 1) := by decide +kernel
theorem dX9_init_55 : decode cX9_init 55 = .ok (.iconst (-1), 1) := by decide +kernel
theorem dX9_init_56 : decode cX9_init 56 = .ok (.iastore, 1) := by decide +kernel
theorem dX9_init_57 : decode cX9_init 57 = .ok (.dup, 1) := by decide +kernel
theorem dX9_init_58 : decode cX9_init 58 = .ok (.bipush 6, 2) := by decide +kernel
theorem dX9_init_60 : decode cX9_init 60 = .ok (.iconst (-1), 1) := by decide +kernel
theorem dX9_init_61 : decode cX9_init 61 = .ok (.iastore, 1) := by decide +kernel
theorem dX9_init_62 : decode cX9_init 62 = .ok (.dup, 1) := by decide +kernel
theorem dX9_init_63 : decode cX9_init 63 = .ok (.bipush 7, 2) := by decide +kernel
theorem dX9_init_65 : decode cX9_init 65 = .ok (.iconst (-1), 1) := by decide +kernel
theorem dX9_init_66 : decode cX9_init 66 = .ok (.iastore, 1) := by decide +kernel
theorem dX9_init_67 : decode cX9_init 67 = .ok (.dup, 1) := by decide +kernel
theorem dX9_init_68 : decode cX9_init 68 = .ok (.bipush 8, 2) := by decide +kernel
theorem dX9_init_70 : decode cX9_init 70 = .ok (.iconst (-1), 1) := by decide +kernel
theorem dX9_init_71 : decode cX9_init 71 = .ok (.iastore, 1) := by decide +kernel
theorem dX9_init_72 : decode cX9_init 72 = .ok (.dup, 1) := by decide +kernel
theorem dX9_init_73 : decode cX9_init 73 = .ok (.bipush 9, 2) := by decide +kernel
theorem dX9_init_75 : decode cX9_init 75 = .ok (.iconst (-1), 1) := by decide +kernel
theorem dX9_init_76 : decode cX9_init 76 = .ok (.iastore, 1) := by decide +kernel
theorem dX9_init_77 : decode cX9_init 77 = .ok (.dup, 1) := by decide +kernel
theorem dX9_init_78 : decode cX9_init 78 = .ok (.bipush 10, 2) := by decide +kernel
theorem dX9_init_80 : decode cX9_init 80 = .ok (.iconst (-1), 1) := by decide +kernel
theorem dX9_init_81 : decode cX9_init 81 = .ok (.iastore, 1) := by decide +kernel
theorem dX9_init_82 : decode cX9_init 82 = .ok (.dup, 1) := by decide +kernel
theorem dX9_init_83 : decode cX9_init 83 = .ok (.bipush 11, 2) := by decide +kernel
theorem dX9_init_85 : decode cX9_init 85 = .ok (.iconst (-1), 1) := by decide +kernel
theorem dX9_init_86 : decode cX9_init 86 = .ok (.iastore, 1) := by decide +kernel
theorem dX9_init_87 : decode cX9_init 87 = .ok (.dup, 1) := by decide +kernel
theorem dX9_init_88 : decode cX9_init 88 = .ok (.bipush 12, 2) := by decide +kernel
theorem dX9_init_90 : decode cX9_init 90 = .ok (.iconst (-1), 1) := by decide +kernel
theorem dX9_init_91 : decode cX9_init 91 = .ok (.iastore, 1) := by decide +kernel
theorem dX9_init_92 : decode cX9_init 92 = .ok (.dup, 1) := by decide +kernel
theorem dX9_init_93 : decode cX9_init 93 = .ok (.bipush 13, 2) := by decide +kernel
theorem dX9_init_95 : decode cX9_init 95 = .ok (.iconst (-1), 1) := by decide +kernel
theorem dX9_init_96 : decode cX9_init 96 = .ok (.iastore, 1) := by decide +kernel
theorem dX9_init_97 : decode cX9_init 97 = .ok (.dup, 1) := by decide +kernel
theorem dX9_init_98 : decode cX9_init 98 = .ok (.bipush 14, 2) := by decide +kernel
theorem dX9_init_100 : decode cX9_init 100 = .ok (.iconst (-1), 1) := by decide +kernel
theorem dX9_init_101 : decode cX9_init 101 = .ok (.iastore, 1) := by decide +kernel
theorem dX9_init_102 : decode cX9_init 102 = .ok (.dup, 1) := by decide +kernel
theorem dX9_init_103 : decode cX9_init 103 = .ok (.bipush 15, 2) := by decide +kernel
theorem dX9_init_105 : decode cX9_init 105 = .ok (.iconst (-1), 1) := by decide +kernel
theorem dX9_init_106 : decode cX9_init 106 = .ok (.iastore, 1) := by decide +kernel
theorem dX9_init_107 : decode cX9_init 107 = .ok (.dup, 1) := by decide +kernel
theorem dX9_init_108 : decode cX9_init 108 = .ok (.bipush 16, 2) := by decide +kernel
theorem dX9_init_110 : decode cX9_init 110 = .ok (.iconst (-1), 1) := by decide +kernel
theorem dX9_init_111 : decode cX9_init 111 = .ok (.iastore, 1) := by decide +kernel
theorem dX9_init_112 : decode cX9_init 112 = .ok (.dup, 1) := by decide +kernel
theorem dX9_init_113 : decode cX9_init 113 = .ok (.bipush 17, 2) := by decide +kernel
theorem dX9_init_115 : decode cX9_init 115 = .ok (.iconst (-1), 1) := by decide +kernel
theorem dX9_init_116 : decode cX9_init 116 = .ok (.iastore, 1) := by decide +kernel
theorem dX9_init_117 : decode cX9_init 117 = .ok (.dup, 1) := by decide +kernel
theorem dX9_init_118 : decode cX9_init 118 = .ok (.bipush 18, 2) := by decide +kernel
theorem dX9_init_120 : decode cX9_init 120 = .ok (.iconst (-1), 1) := by decide +kernel
theorem dX9_init_121 : decode cX9_init 121 = .ok (.iastore, 1) := by decide +kernel
theorem dX9_init_122 : decode cX9_init 122 = .ok (.dup, 1) := by decide +kernel
theorem dX9_init_123 : decode cX9_init 123 = .ok (.bipush 19, 2) := by decide +kernel
theorem dX9_init_125 : decode cX9_init 125 = .ok (.iconst (-1), 1) := by decide +kernel
theorem dX9_init_126 : decode cX9_init 126 = .ok (.iastore, 1) := by decide +kernel
theorem dX9_init_127 : decode cX9_init 127 = .ok (.dup, 1) := by decide +kernel
theorem dX9_init_128 : decode cX9_init 128 = .ok (.bipush 20, 2) := by decide +kernel
theorem dX9_init_130 : decode cX9_init 130 = .ok (.iconst (-1), 1) := by decide +kernel
theorem dX9_init_131 : decode cX9_init 131 = .ok (.iastore, 1) := by decide +kernel
theorem dX9_init_132 : decode cX9_init 132 = .ok (.dup, 1) := by decide +kernel
theorem dX9_init_133 : decode cX9_init 133 = .ok (.bipush 21, 2) := by decide +kernel
theorem dX9_init_135 : decode cX9_init 135 = .ok (.iconst (-1), 1) := by decide +kernel
theorem dX9_init_136 : decode cX9_init 136 = .ok (.iastore, 1) := by decide +kernel
theorem dX9_init_137 : decode cX9_init 137 = .ok (.dup, 1) := by decide +kernel
theorem dX9_init_138 : decode cX9_init 138 = .ok (.bipush 22, 2) := by decide +kernel
theorem dX9_init_140 : decode cX9_init 140 = .ok (.iconst (-1), 1) := by decide +kernel
theorem dX9_init_141 : decode cX9_init 141 = .ok (.iastore, 1) := by decide +kernel
theorem dX9_init_142 : decode cX9_init 142 = .ok (.dup, 1) := by decide +kernel
theorem dX9_init_143 : decode cX9_init 143 = .ok (.bipush 23, 2) := by decide +kernel
theorem dX9_init_145 : decode cX9_init 145 = .ok (.iconst (-1), 1) := by decide +kernel
theorem dX9_init_146 : decode cX9_init 146 = .ok (.iastore, 1) := by decide +kernel
theorem dX9_init_147 : decode cX9_init 147 = .ok (.dup, 1) := by decide +kernel
theorem dX9_init_148 : decode cX9_init 148 = .ok (.bipush 24, 2) := by decide +kernel
theorem dX9_init_150 : decode cX9_init 150 = .ok (.iconst (-1), 1) := by decide +kernel
theorem dX9_init_151 : decode cX9_init 151 = .ok (.iastore, 1) := by decide +kernel
theorem dX9_init_152 : decode cX9_init 152 = .ok (.putfield 23, 3) := by decide +kernel
theorem dX9_init_155 : decode cX9_init 155 = .ok (.aload_n 0, 1) := by decide +kernel
theorem dX9_init_156 : decode cX9_init 156 = .ok (.iconst 3, 1) := by decide +kernel
theorem dX9_init_157 : decode cX9_init 157 = .ok (.newarray .int, 2) := by decide +kernel
theorem dX9_init_159 : decode cX9_init 159 = .ok (.dup, 1) := by decide +kernel
theorem dX9_init_160 : decode cX9_init 160 = .ok (.iconst 0, 1) := by decide +kernel
theorem dX9_init_161 : decode cX9_init 161 = .ok (.iconst 0, 1) := by decide +kernel
theorem dX9_init_162 : decode cX9_init 162 = .ok (.iastore, 1) := by decide +kernel
theorem dX9_init_163 : decode cX9_init 163 = .ok (.dup, 1) := by decide +kernel
theorem dX9_init_164 : decode cX9_init 164 = .ok (.iconst 1, 1) := by decide +kernel
theorem dX9_init_165 : decode cX9_init 165 = .ok (.iconst 1, 1) := by decide +kernel
theorem dX9_init_166 : decode cX9_init 166 = .ok (.iastore, 1) := by decide +kernel
theorem dX9_init_167 : decode cX9_init 167 = .ok (.dup, 1) := by decide +kernel
theorem dX9_init_168 : decode cX9_init 168 = .ok (.iconst 2, 1) := by decide +kernel
theorem dX9_init_169 : decode cX9_init 169 = .ok (.iconst 0, 1) := by decide +kernel
theorem dX9_init_170 : decode cX9_init 170 = .ok (.iastore, 1) := by decide +kernel
theorem dX9_init_171 : decode cX9_init 171 = .ok (.putfield 27, 3) := by decide +kernel
theorem dX9_init_174 : decode cX9_init 174 = .ok (.aload_n 0, 1) := by decide +kernel
theorem dX9_init_175 : decode cX9_init 175 = .ok (.iconst 1, 1) := by decide +kernel
theorem dX9_init_176 : decode cX9_init 176 = .ok (.putfield 30, 3) := by decide +kernel
theorem dX9_init_179 : decode cX9_init 179 = .ok (.aload_n 0, 1) := by decide +kernel
theorem dX9_init_180 : decode cX9_init 180 = .ok (.bipush 20, 2) := by decide +kernel
theorem dX9_init_182 : decode cX9_init 182 = .ok (.newarray .int, 2) := by decide +kernel
theorem dX9_init_184 : decode cX9_init 184 = .ok (.dup, 1) := by decide +kernel
theorem dX9_init_185 : decode cX9_init 185 = .ok (.iconst 0, 1) := by decide +kernel
theorem dX9_init_186 : decode cX9_init 186 = .ok (.iconst 5, 1) := by decide +kernel
theorem dX9_init_187 : decode cX9_init 187 = .ok (.iastore, 1) := by decide +kernel
theorem dX9_init_188 : decode cX9_init 188 = .ok (.dup, 1) := by decide +kernel
theorem dX9_init_189 : decode cX9_init 189 = .ok (.iconst 1, 1) := by decide +kernel
theorem dX9_init_190 : decode cX9_init 190 = .ok (.iconst 5, 1) := by decide +kernel
theorem dX9_init_191 : decode cX9_init 191 = .ok (.iastore, 1) := by decide +kernel
theorem dX9_init_192 : decode cX9_init 192 = .ok (.dup, 1) := by decide +kernel
theorem dX9_init_193 : decode cX9_init 193 = .ok (.iconst 2, 1) := by decide +kernel
theorem dX9_init_194 : decode cX9_init 194 = .ok (.iconst 5, 1) := by decide +kernel
theorem dX9_init_195 : decode cX9_init 195 = .ok (.iastore, 1) := by decide +kernel
theorem dX9_init_196 : decode cX9_init 196 = .ok (.dup, 1) := by decide +kernel
theorem dX9_init_197 : decode cX9_init 197 = .ok (.iconst 3, 1) := by decide +kernel
theorem dX9_init_198 : decode cX9_init 198 = .ok (.iconst 5, 1) := by decide +kernel
theorem dX9_init_199 : decode cX9_init 199 = .ok (.iastore, 1) := by decide +kernel
theorem dX9_init_200 : decode cX9_init 200 = .ok (.dup, 1) := by decide +kernel
theorem dX9_init_201 : decode cX9_init 201 = .ok (.iconst 4, 1) := by decide +kernel
theorem dX9_init_202 : decode cX9_init 202 = .ok (.iconst 5, 1) := by decide +kernel
theorem dX9_init_203 : decode cX9_init 203 = .ok (.iastore, 1) := by decide +kernel
theorem dX9_init_204 : decode cX9_init 204 = .ok (.dup, 1) := by decide +kernel
theorem dX9_init_205 : decode cX9_init 205 = .ok (.iconst 5, 1) := by decide +kernel
theorem dX9_init_206 : decode cX9_init 206 = .ok (.iconst 5, 1) := by decide +kernel
theorem dX9_init_207 : decode cX9_init 207 = .ok (.iastore, 1) := by decide +kernel
theorem dX9_init_208 : decode cX9_init 208 = .ok (.dup, 1) := by decide +kernel
theorem dX9_init_209 : decode cX9_init 209 = .ok (.bipush 6, 2) := by decide +kernel
theorem dX9_init_211 : decode cX9_init 211 = .ok (.iconst 5, 1) := by decide +kernel
theorem dX9_init_212 : decode cX9_init 212 = .ok (.iastore, 1) := by decide +kernel
theorem dX9_init_213 : decode cX9_init 213 = .ok (.dup, 1) := by decide +kernel
theorem dX9_init_214 : decode cX9_init 214 = .ok (.bipush 7, 2) := by decide +kernel
theorem dX9_init_216 : decode cX9_init 216 = .ok (.iconst 5, 1) := by decide +kernel
theorem dX9_init_217 : decode cX9_init 217 = .ok (.iastore, 1) := by decide +kernel
theorem dX9_init_218 : decode cX9_init 218 = .ok (.dup, 1) := by decide +kernel
theorem dX9_init_219 : decode cX9_init 219 = .ok (.bipush 8, 2) := by decide +kernel
theorem dX9_init_221 : decode cX9_init 221 = .ok (.iconst 5, 1) := by decide +kernel
theorem dX9_init_222 : decode cX9_init 222 = .ok (.iastore, 1) := by decide +kernel
theorem dX9_init_223 : decode cX9_init 223 = .ok (.dup, 1) := by decide +kernel
theorem dX9_init_224 : decode cX9_init 224 = .ok (.bipush 9, 2) := by decide +kernel
theorem dX9_init_226 : decode cX9_init 226 = .ok (.iconst 5, 1) := by decide +kernel
theorem dX9_init_227 : decode cX9_init 227 = .ok (.iastore, 1) := by decide +kernel
theorem dX9_init_228 : decode cX9_init 228 = .ok (.dup, 1) := by decide +kernel
theorem dX9_init_229 : decode cX9_init 229 = .ok (.bipush 10, 2) := by decide +kernel
theorem dX9_init_231 : decode cX9_init 231 = .ok (.iconst 5, 1) := by decide +kernel
theorem dX9_init_232 : decode cX9_init 232 = .ok (.iastore, 1) := by decide +kernel
theorem dX9_init_233 : decode cX9_init 233 = .ok (.dup, 1) := by decide +kernel
theorem dX9_init_234 : decode cX9_init 234 = .ok (.bipush 11, 2) := by decide +kernel
theorem dX9_init_236 : decode cX9_init 236 = .ok (.iconst 5, 1) := by decide +kernel
theorem dX9_init_237 : decode cX9_init 237 = .ok (.iastore, 1) := by decide +kernel
theorem dX9_init_238 : decode cX9_init 238 = .ok (.dup, 1) := by decide +kernel
theorem dX9_init_239 : decode cX9_init 239 = .ok (.bipush 12, 2) := by decide +kernel
theorem dX9_init_241 : decode cX9_init 241 = .ok (.iconst 5, 1) := by decide +kernel
theorem dX9_init_242 : decode cX9_init 242 = .ok (.iastore, 1) := by decide +kernel
theorem dX9_init_243 : decode cX9_init 243 = .ok (.dup, 1) := by decide +kernel
theorem dX9_init_244 : decode cX9_init 244 = .ok (.bipush 13, 2) := by decide +kernel
theorem dX9_init_246 : decode cX9_init 246 = .ok (.iconst 5, 1) := by decide +kernel
theorem dX9_init_247 : decode cX9_init 247 = .ok (.iastore, 1) := by decide +kernel
theorem dX9_init_248 : decode cX9_init 248 = .ok (.dup, 1) := by decide +kernel
theorem dX9_init_249 : decode cX9_init 249 = .ok (.bipush 14, 2) := by decide +kernel
theorem dX9_init_251 : decode cX9_init 251 = .ok (.iconst 5, 1) := by decide +kernel
theorem dX9_init_252 : decode cX9_init 252 = .ok (.iastore, 1) := by decide +kernel
theorem dX9_init_253 : decode cX9_init 253 = .ok (.dup, 1) := by decide +kernel
theorem dX9_init_254 : decode cX9_init 254 = .ok (.bipush 15, 2) := by decide +kernel
theorem dX9_init_256 : decode cX9_init 256 = .ok (.iconst 5, 1) := by decide +kernel
theorem dX9_init_257 : decode cX9_init 257 = .ok (.iastore, 1) := by decide +kernel
theorem dX9_init_258 : decode cX9_init 258 = .ok (.dup, 1) := by decide +kernel
theorem dX9_init_259 : decode cX9_init 259 = .ok (.bipush 16, 2) := by decide +kernel
theorem dX9_init_261 : decode cX9_init 261 = .ok (.iconst 5, 1) := by decide +kernel
theorem dX9_init_262 : decode cX9_init 262 = .ok (.iastore, 1) := by decide +kernel
theorem dX9_init_263 : decode cX9_init 263 = .ok (.dup, 1) := by decide +kernel
theorem dX9_init_264 : decode cX9_init 264 = .ok (.bipush 17, 2) := by decide +kernel
theorem dX9_init_266 : decode cX9_init 266 = .ok (.iconst 5, 1) := by decide +kernel
theorem dX9_init_267 : decode cX9_init 267 = .ok (.iastore, 1) := by decide +kernel
theorem dX9_init_268 : decode cX9_init 268 = .ok (.dup, 1) := by decide +kernel
theorem dX9_init_269 : decode cX9_init 269 = .ok (.bipush 18, 2) := by decide +kernel
theorem dX9_init_271 : decode cX9_init 271 = .ok (.iconst 5, 1) := by decide +kernel
theorem dX9_init_272 : decode cX9_init 272 = .ok (.iastore, 1) := by decide +kernel
theorem dX9_init_273 : decode cX9_init 273 = .ok (.dup, 1) := by decide +kernel
theorem dX9_init_274 : decode cX9_init 274 = .ok (.bipush 19, 2) := by decide +kernel
theorem dX9_init_276 : decode cX9_init 276 = .ok (.iconst 5, 1) := by decide +kernel
theorem dX9_init_277 : decode cX9_init 277 = .ok (.iastore, 1) := by decide +kernel
theorem dX9_init_278 : decode cX9_init 278 = .ok (.putfield 33, 3) := by decide +kernel
theorem dX9_init_281 : decode cX9_init 281 = .ok (.aload_n 0, 1) := by decide +kernel
theorem dX9_init_282 : decode cX9_init 282 = .ok (.bipush 20, 2) := by decide +kernel
theorem dX9_init_284 : decode cX9_init 284 = .ok (.newarray .int, 2) := by decide +kernel
theorem dX9_init_286 : decode cX9_init 286 = .ok (.putfield 36, 3) := by decide +kernel
theorem dX9_init_289 : decode cX9_init 289 = .ok (.aload_n 0, 1) := by decide +kernel
theorem dX9_init_290 : decode cX9_init 290 = .ok (.ldc 39, 2) := by decide +kernel
theorem dX9_init_292 : decode cX9_init 292 = .ok (.newarray .boolean, 2) := by decide +kernel
theorem dX9_init_294 : decode cX9_init 294 = .ok (.putfield 40, 3) := by decide +kernel
theorem dX9_init_297 : decode cX9_init 297 = .ok (.aload_n 0, 1) := by decide +kernel
theorem dX9_init_298 : decode cX9_init 298 = .ok (.sipush 243, 3) := by decide +kernel
theorem dX9_init_301 : decode cX9_init 301 = .ok (.newarray .boolean, 2) := by decide +kernel
theorem dX9_init_303 : decode cX9_init 303 = .ok (.putfield 43, 3) := by decide +kernel
theorem dX9_init_306 : decode cX9_init 306 = .ok (.aload_n 0, 1) := by decide +kernel
theorem dX9_init_307 : decode cX9_init 307 = .ok (.sipush 243, 3) := by decide +kernel
theorem dX9_init_310 : decode cX9_init 310 = .ok (.newarray .boolean, 2) := by decide +kernel
theorem dX9_init_312 : decode cX9_init 312 = .ok (.putfield 46, 3) := by decide +kernel
theorem dX9_init_315 : decode cX9_init 315 = .ok (.aload_n 0, 1) := by decide +kernel
theorem dX9_init_316 : decode cX9_init 316 = .ok (.sipush 1215, 3) := by decide +kernel
theorem dX9_init_319 : decode cX9_init 319 = .ok (.newarray .boolean, 2) := by decide +kernel
theorem dX9_init_321 : decode cX9_init 321 = .ok (.putfield 49, 3) := by decide +kernel
theorem dX9_init_324 : decode cX9_init 324 = .ok (.aload_n 0, 1) := by decide +kernel
theorem dX9_init_325 : decode cX9_init 325 = .ok (.sipush 1215, 3) := by decide +kernel
theorem dX9_init_328 : decode cX9_init 328 = .ok (.newarray .long, 2) := by decide +kernel
theorem dX9_init_330 : decode cX9_init 330 = .ok (.putfield 52, 3) := by decide +kernel
theorem dX9_init_333 : decode cX9_init 333 = .ok (.aload_n 0, 1) := by decide +kernel
theorem dX9_init_334 : decode cX9_init 334 = .ok (.iconst 5, 1) := by decide +kernel
theorem dX9_init_335 : decode cX9_init 335 = .ok (.newarray .int, 2) := by decide +kernel
theorem dX9_init_337 : decode cX9_init 337 = .ok (.putfield 56, 3) := by decide +kernel
theorem dX9_init_340 : decode cX9_init 340 = .ok (.aload_n 0, 1) := by decide +kernel
theorem dX9_init_341 : decode cX9_init 341 = .ok (.sipush 300, 3) := by decide +kernel
theorem dX9_init_344 : decode cX9_init 344 = .ok (.newarray .int, 2) := by decide +kernel
theorem dX9_init_346 : decode cX9_init 346 = .ok (.putfield 59, 3) := by decide +kernel
theorem dX9_init_349 : decode cX9_init 349 = .ok (.aload_n 0, 1) := by decide +kernel
theorem dX9_init_350 : decode cX9_init 350 = .ok (.ldc 62, 2) := by decide +kernel
theorem dX9_init_352 : decode cX9_init 352 = .ok (.newarray .boolean, 2) := by decide +kernel
theorem dX9_init_354 : decode cX9_init 354 = .ok (.putfield 63, 3) := by decide +kernel
theorem dX9_init_357 : decode cX9_init 357 = .ok (.aload_n 0, 1) := by decide +kernel
theorem dX9_init_358 : decode cX9_init 358 = .ok (.ldc 62, 2) := by decide +kernel
theorem dX9_init_360 : decode cX9_init 360 = .ok (.newarray .boolean, 2) := by decide +kernel
theorem dX9_init_362 : decode cX9_init 362 = .ok (.putfield 66, 3) := by decide +kernel
theorem dX9_init_365 : decode cX9_init 365 = .ok (.aload_n 0, 1) := by decide +kernel
theorem dX9_init_366 : decode cX9_init 366 = .ok (.sipush 729, 3) := by decide +kernel
theorem dX9_init_369 : decode cX9_init 369 = .ok (.newarray .long, 2) := by decide +kernel
theorem dX9_init_371 : decode cX9_init 371 = .ok (.putfield 69, 3) := by decide +kernel
theorem dX9_init_374 : decode cX9_init 374 = .ok (.aload_n 0, 1) := by decide +kernel
theorem dX9_init_375 : decode cX9_init 375 = .ok (.sipush 729, 3) := by decide +kernel
theorem dX9_init_378 : decode cX9_init 378 = .ok (.newarray .long, 2) := by decide +kernel
theorem dX9_init_380 : decode cX9_init 380 = .ok (.putfield 72, 3) := by decide +kernel
theorem dX9_init_383 : decode cX9_init 383 = .ok (.aload_n 0, 1) := by decide +kernel
theorem dX9_init_384 : decode cX9_init 384 = .ok (.sipush 729, 3) := by decide +kernel
theorem dX9_init_387 : decode cX9_init 387 = .ok (.newarray .long, 2) := by decide +kernel
theorem dX9_init_389 : decode cX9_init 389 = .ok (.putfield 75, 3) := by decide +kernel
theorem dX9_init_392 : decode cX9_init 392 = .ok (.aload_n 0, 1) := by decide +kernel
theorem dX9_init_393 : decode cX9_init 393 = .ok (.bipush 27, 2) := by decide +kernel
theorem dX9_init_395 : decode cX9_init 395 = .ok (.newarray .boolean, 2) := by decide +kernel
theorem dX9_init_397 : decode cX9_init 397 = .ok (.putfield 78, 3) := by decide +kernel
theorem dX9_init_400 : decode cX9_init 400 = .ok (.aload_n 0, 1) := by decide +kernel
theorem dX9_init_401 : decode cX9_init 401 = .ok (.bipush 27, 2) := by decide +kernel
theorem dX9_init_403 : decode cX9_init 403 = .ok (.newarray .boolean, 2) := by decide +kernel
theorem dX9_init_405 : decode cX9_init 405 = .ok (.putfield 81, 3) := by decide +kernel
theorem dX9_init_408 : decode cX9_init 408 = .ok (.aload_n 0, 1) := by decide +kernel
theorem dX9_init_409 : decode cX9_init 409 = .ok (.bipush 27, 2) := by decide +kernel
theorem dX9_init_411 : decode cX9_init 411 = .ok (.newarray .boolean, 2) := by decide +kernel
theorem dX9_init_413 : decode cX9_init 413 = .ok (.putfield 84, 3) := by decide +kernel
theorem dX9_init_416 : decode cX9_init 416 = .ok (.aload_n 0, 1) := by decide +kernel
theorem dX9_init_417 : decode cX9_init 417 = .ok (.bipush 25, 2) := by decide +kernel
theorem dX9_init_419 : decode cX9_init 419 = .ok (.newarray .int, 2) := by decide +kernel
theorem dX9_init_421 : decode cX9_init 421 = .ok (.putfield 87, 3) := by decide +kernel
theorem dX9_init_424 : decode cX9_init 424 = .ok (.aload_n 0, 1) := by decide +kernel
theorem dX9_init_425 : decode cX9_init 425 = .ok (.sipush 245, 3) := by decide +kernel
theorem dX9_init_428 : decode cX9_init 428 = .ok (.newarray .boolean, 2) := by decide +kernel
theorem dX9_init_430 : decode cX9_init 430 = .ok (.putfield 90, 3) := by decide +kernel
theorem dX9_init_433 : decode cX9_init 433 = .ok (.return_, 1) := by decide +kernel
theorem dX9_in_0 : decode cX9_in 0 = .ok (.lload_n 0, 1) := by decide +kernel
theorem dX9_in_1 : decode cX9_in 1 = .ok (.lload_n 2, 1) := by decide +kernel
theorem dX9_in_2 : decode cX9_in 2 = .ok (.lcmp, 1) := by decide +kernel
theorem dX9_in_3 : decode cX9_in 3 = .ok (.ifCond .lt 14, 3) := by decide +kernel
theorem dX9_in_6 : decode cX9_in 6 = .ok (.lload_n 0, 1) := by decide +kernel
theorem dX9_in_7 : decode cX9_in 7 = .ok (.lload 4, 2) := by decide +kernel
theorem dX9_in_9 : decode cX9_in 9 = .ok (.lcmp, 1) := by decide +kernel
theorem dX9_in_10 : decode cX9_in 10 = .ok (.ifCond .gt 7, 3) := by decide +kernel
theorem dX9_in_13 : decode cX9_in 13 = .ok (.iconst 1, 1) := by decide +kernel
theorem dX9_in_14 : decode cX9_in 14 = .ok (.goto 4, 3) := by decide +kernel
theorem dX9_in_17 : decode cX9_in 17 = .ok (.iconst 0, 1) := by decide +kernel
theorem dX9_in_18 : decode cX9_in 18 = .ok (.ireturn, 1) := by decide +kernel
set_option maxRecDepth 20000 in
theorem ggX9_isSize_X9_in : GoodIn wsX9_isSize wsX9_in := goodIn_r _ [5] (by decide +kernel) (by decide +kernel)
set_option maxRecDepth 20000 in
theorem gX9_isSize_X9_in : GoodIn wsX9_isSize (va_wsS RX9 95 yX9_in wsX9_in) := goodIn_app (goodIn_of _ (by decide +kernel)) ggX9_isSize_X9_in
theorem dX9_isSize_0 : decode cX9_isSize 0 = .ok (.iload_n 0, 1) := by decide +kernel
theorem dX9_isSize_1 : decode cX9_isSize 1 = .ok (.i2l, 1) := by decide +kernel
theorem dX9_isSize_2 : decode cX9_isSize 2 = .ok (.lconst 1, 1) := by decide +kernel
theorem dX9_isSize_3 : decode cX9_isSize 3 = .ok (.ldc2_w 93, 3) := by decide +kernel
theorem dX9_isSize_6 : decode cX9_isSize 6 = .ok (.invokestatic 95, 3) := by decide +kernel
theorem dX9_isSize_9 : decode cX9_isSize 9 = .ok (.ifCond .eq 19, 3) := by decide +kernel
theorem dX9_isSize_12 : decode cX9_isSize 12 = .ok (.iload_n 1, 1) := by decide +kernel
theorem dX9_isSize_13 : decode cX9_isSize 13 = .ok (.i2l, 1) := by decide +kernel
theorem dX9_isSize_14 : decode cX9_isSize 14 = .ok (.lconst 1, 1) := by decide +kernel
theorem dX9_isSize_15 : decode cX9_isSize 15 = .ok (.ldc2_w 93, 3) := by decide +kernel
theorem dX9_isSize_18 : decode cX9_isSize 18 = .ok (.invokestatic 95, 3) := by decide +kernel
theorem dX9_isSize_21 : decode cX9_isSize 21 = .ok (.ifCond .eq 7, 3) := by decide +kernel
theorem dX9_isSize_24 : decode cX9_isSize 24 = .ok (.iconst 1, 1) := by decide +kernel
theorem dX9_isSize_25 : decode cX9_isSize 25 = .ok (.goto 4, 3) := by decide +kernel
theorem dX9_isSize_28 : decode cX9_isSize 28 = .ok (.iconst 0, 1) := by decide +kernel
theorem dX9_isSize_29 : decode cX9_isSize 29 = .ok (.ireturn, 1) := by decide +kernel
set_option maxRecDepth 20000 in
theorem ggX9_colours_X9_in : GoodIn wsX9_colours wsX9_in := goodIn_r _ [12] (by decide +kernel) (by decide +kernel)
set_option maxRecDepth 20000 in
theorem gX9_colours_X9_in : GoodIn wsX9_colours (va_wsS RX9 95 yX9_in wsX9_in) := goodIn_app (goodIn_of _ (by decide +kernel)) ggX9_colours_X9_in
set_option maxRecDepth 20000 in
theorem ggX9_colours_X9_clearWalker : GoodIn wsX9_colours wsX9_clearWalker := goodIn_r _ [16, 17, 18, 19, 20, 21, 22, 23, 24, 25, 26, 27, 28, 29, 30, 31, 32, 33, 34, 35, 36, 37, 38, 39, 40, 41, 42, 43, 44, 45, 46, 47, 48, 49] (by decide +kernel) (by decide +kernel)
set_option maxRecDepth 20000 in
theorem gX9_colours_X9_clearWalker : GoodIn wsX9_colours (wsV RX9 103 RX9 yX9_clearWalker wsX9_clearWalker) := goodIn_app (goodIn_of _ (by decide +kernel)) ggX9_colours_X9_clearWalker
theorem dX9_colours_0 : decode cX9_colours 0 = .ok (.iload_n 1, 1) := by decide +kernel
theorem dX9_colours_1 : decode cX9_colours 1 = .ok (.i2l, 1) := by decide +kernel
theorem dX9_colours_2 : decode cX9_colours 2 = .ok (.ldc2_w 99, 3) := by decide +kernel
theorem dX9_colours_5 : decode cX9_colours 5 = .ok (.ldc2_w 101, 3) := by decide +kernel
theorem dX9_colours_8 : decode cX9_colours 8 = .ok (.invokestatic 95, 3) := by decide +kernel
theorem dX9_colours_11 : decode cX9_colours 11 = .ok (.ifCond .ne 6, 3) := by decide +kernel
theorem dX9_colours_14 : decode cX9_colours 14 = .ok (.bipush (-3), 2) := by decide +kernel
theorem dX9_colours_16 : decode cX9_colours 16 = .ok (.ireturn, 1) := by decide +kernel
theorem dX9_colours_17 : decode cX9_colours 17 = .ok (.aload_n 0, 1) := by decide +kernel
theorem dX9_colours_18 : decode cX9_colours 18 = .ok (.getfield 7, 3) := by decide +kernel
theorem dX9_colours_21 : decode cX9_colours 21 = .ok (.istore_n 2, 1) := by decide +kernel
theorem dX9_colours_22 : decode cX9_colours 22 = .ok (.aload_n 0, 1) := by decide +kernel
theorem dX9_colours_23 : decode cX9_colours 23 = .ok (.iload_n 1, 1) := by decide +kernel
theorem dX9_colours_24 : decode cX9_colours 24 = .ok (.putfield 7, 3) := by decide +kernel
theorem dX9_colours_27 : decode cX9_colours 27 = .ok (.iconst 0, 1) := by decide +kernel
theorem dX9_colours_28 : decode cX9_colours 28 = .ok (.istore_n 3, 1) := by decide +kernel
theorem dX9_colours_29 : decode cX9_colours 29 = .ok (.iload_n 3, 1) := by decide +kernel
theorem dX9_colours_30 : decode cX9_colours 30 = .ok (.sipush 256, 3) := by decide +kernel
theorem dX9_colours_33 : decode cX9_colours 33 = .ok (.if_icmp .ge 16, 3) := by decide +kernel
theorem dX9_colours_36 : decode cX9_colours 36 = .ok (.aload_n 0, 1) := by decide +kernel
theorem dX9_colours_37 : decode cX9_colours 37 = .ok (.getfield 13, 3) := by decide +kernel
theorem dX9_colours_40 : decode cX9_colours 40 = .ok (.iload_n 3, 1) := by decide +kernel
theorem dX9_colours_41 : decode cX9_colours 41 = .ok (.iconst 0, 1) := by decide +kernel
theorem dX9_colours_42 : decode cX9_colours 42 = .ok (.bastore, 1) := by decide +kernel
theorem dX9_colours_43 : decode cX9_colours 43 = .ok (.iinc 3 1, 3) := by decide +kernel
theorem dX9_colours_46 : decode cX9_colours 46 = .ok (.goto (-17), 3) := by decide +kernel
theorem dX9_colours_49 : decode cX9_colours 49 = .ok (.aload_n 0, 1) := by decide +kernel
theorem dX9_colours_50 : decode cX9_colours 50 = .ok (.iconst 1, 1) := by decide +kernel
theorem dX9_colours_51 : decode cX9_colours 51 = .ok (.putfield 17, 3) := by decide +kernel
theorem dX9_colours_54 : decode cX9_colours 54 = .ok (.aload_n 0, 1) := by decide +kernel
theorem dX9_colours_55 : decode cX9_colours 55 = .ok (.iconst 1, 1) := by decide +kernel
theorem dX9_colours_56 : decode cX9_colours 56 = .ok (.putfield 20, 3) := by decide +kernel
theorem dX9_colours_59 : decode cX9_colours 59 = .ok (.iconst 0, 1) := by decide +kernel
theorem dX9_colours_60 : decode cX9_colours 60 = .ok (.istore_n 3, 1) := by decide +kernel
theorem dX9_colours_61 : decode cX9_colours 61 = .ok (.iload_n 3, 1) := by decide +kernel
theorem dX9_colours_62 : decode cX9_colours 62 = .ok (.bipush 25, 2) := by decide +kernel
theorem dX9_colours_64 : decode cX9_colours 64 = .ok (.if_icmp .ge 16, 3) := by decide +kernel
theorem dX9_colours_67 : decode cX9_colours 67 = .ok (.aload_n 0, 1) := by decide +kernel
theorem dX9_colours_68 : decode cX9_colours 68 = .ok (.getfield 23, 3) := by decide +kernel
theorem dX9_colours_71 : decode cX9_colours 71 = .ok (.iload_n 3, 1) := by decide +kernel
theorem dX9_colours_72 : decode cX9_colours 72 = .ok (.iconst (-1), 1) := by decide +kernel
theorem dX9_colours_73 : decode cX9_colours 73 = .ok (.iastore, 1) := by decide +kernel
theorem dX9_colours_74 : decode cX9_colours 74 = .ok (.iinc 3 1, 3) := by decide +kernel
theorem dX9_colours_77 : decode cX9_colours 77 = .ok (.goto (-16), 3) := by decide +kernel
theorem dX9_colours_80 : decode cX9_colours 80 = .ok (.aload_n 0, 1) := by decide +kernel
theorem dX9_colours_81 : decode cX9_colours 81 = .ok (.getfield 27, 3) := by decide +kernel
theorem dX9_colours_84 : decode cX9_colours 84 = .ok (.iconst 0, 1) := by decide +kernel
theorem dX9_colours_85 : decode cX9_colours 85 = .ok (.iconst 0, 1) := by decide +kernel
theorem dX9_colours_86 : decode cX9_colours 86 = .ok (.iastore, 1) := by decide +kernel
theorem dX9_colours_87 : decode cX9_colours 87 = .ok (.aload_n 0, 1) := by decide +kernel
theorem dX9_colours_88 : decode cX9_colours 88 = .ok (.getfield 27, 3) := by decide +kernel
theorem dX9_colours_91 : decode cX9_colours 91 = .ok (.iconst 1, 1) := by decide +kernel
theorem dX9_colours_92 : decode cX9_colours 92 = .ok (.iconst 1, 1) := by decide +kernel
theorem dX9_colours_93 : decode cX9_colours 93 = .ok (.iastore, 1) := by decide +kernel
theorem dX9_colours_94 : decode cX9_colours 94 = .ok (.aload_n 0, 1) := by decide +kernel
theorem dX9_colours_95 : decode cX9_colours 95 = .ok (.getfield 27, 3) := by decide +kernel
theorem dX9_colours_98 : decode cX9_colours 98 = .ok (.iconst 2, 1) := by decide +kernel
theorem dX9_colours_99 : decode cX9_colours 99 = .ok (.iconst 0, 1) := by decide +kernel
theorem dX9_colours_100 : decode cX9_colours 100 = .ok (.iastore, 1) := by decide +kernel
theorem dX9_colours_101 : decode cX9_colours 101 = .ok (.aload_n 0, 1) := by decide +kernel
theorem dX9_colours_102 : decode cX9_colours 102 = .ok (.iconst 1, 1) := by decide +kernel
theorem dX9_colours_103 : decode cX9_colours 103 = .ok (.invokevirtual 103, 3) := by decide +kernel
theorem dX9_colours_106 : decode cX9_colours 106 = .ok (.iload_n 2, 1) := by decide +kernel
theorem dX9_colours_107 : decode cX9_colours 107 = .ok (.ireturn, 1) := by decide +kernel
theorem dX9_isPart_0 : decode cX9_isPart 0 = .ok (.iload_n 1, 1) := by decide +kernel
theorem dX9_isPart_1 : decode cX9_isPart 1 = .ok (.aload_n 0, 1) := by decide +kernel
theorem dX9_isPart_2 : decode cX9_isPart 2 = .ok (.getfield 7, 3) := by decide +kernel
theorem dX9_isPart_5 : decode cX9_isPart 5 = .ok (.if_icmp .lt 8, 3) := by decide +kernel
theorem dX9_isPart_8 : decode cX9_isPart 8 = .ok (.iload_n 1, 1) := by decide +kernel
theorem dX9_isPart_9 : decode cX9_isPart 9 = .ok (.iconst 3, 1) := by decide +kernel
theorem dX9_isPart_10 : decode cX9_isPart 10 = .ok (.if_icmp .ne 7, 3) := by decide +kernel
theorem dX9_isPart_13 : decode cX9_isPart 13 = .ok (.iconst 1, 1) := by decide +kernel
theorem dX9_isPart_14 : decode cX9_isPart 14 = .ok (.goto 4, 3) := by decide +kernel
theorem dX9_isPart_17 : decode cX9_isPart 17 = .ok (.iconst 0, 1) := by decide +kernel
theorem dX9_isPart_18 : decode cX9_isPart 18 = .ok (.ireturn, 1) := by decide +kernel
set_option maxRecDepth 20000 in
theorem ggX9_isBlock_X9_in : GoodIn wsX9_isBlock wsX9_in := goodIn_r _ [5] (by decide +kernel) (by decide +kernel)
set_option maxRecDepth 20000 in
theorem gX9_isBlock_X9_in : GoodIn wsX9_isBlock (va_wsS RX9 95 yX9_in wsX9_in) := goodIn_app (goodIn_of _ (by decide +kernel)) ggX9_isBlock_X9_in
set_option maxRecDepth 20000 in
theorem ggX9_isBlock_X9_isPart : GoodIn wsX9_isBlock wsX9_isPart := goodIn_r _ [9, 10, 11, 12, 13, 14, 15, 16, 17, 18, 19, 20, 21, 22, 23, 24, 25, 26, 27, 28, 29, 30, 31, 32, 33, 34, 35, 36, 37, 38, 39, 40] (by decide +kernel) (by decide +kernel)
set_option maxRecDepth 20000 in
theorem gX9_isBlock_X9_isPart : GoodIn wsX9_isBlock (wsV RX9 109 RX9 yX9_isPart wsX9_isPart) := goodIn_app (goodIn_of _ (by decide +kernel)) ggX9_isBlock_X9_isPart
theorem dX9_isBlock_0 : decode cX9_isBlock 0 = .ok (.iload_n 1, 1) := by decide +kernel
theorem dX9_isBlock_1 : decode cX9_isBlock 1 = .ok (.i2l, 1) := by decide +kernel
theorem dX9_isBlock_2 : decode cX9_isBlock 2 = .ok (.lconst 0, 1) := by decide +kernel
theorem dX9_isBlock_3 : decode cX9_isBlock 3 = .ok (.ldc2_w 107, 3) := by decide +kernel
theorem dX9_isBlock_6 : decode cX9_isBlock 6 = .ok (.invokestatic 95, 3) := by decide +kernel
theorem dX9_isBlock_9 : decode cX9_isBlock 9 = .ok (.ifCond .eq 54, 3) := by decide +kernel
theorem dX9_isBlock_12 : decode cX9_isBlock 12 = .ok (.aload_n 0, 1) := by decide +kernel
theorem dX9_isBlock_13 : decode cX9_isBlock 13 = .ok (.iload_n 1, 1) := by decide +kernel
theorem dX9_isBlock_14 : decode cX9_isBlock 14 = .ok (.bipush 6, 2) := by decide +kernel
theorem dX9_isBlock_16 : decode cX9_isBlock 16 = .ok (.ishr, 1) := by decide +kernel
theorem dX9_isBlock_17 : decode cX9_isBlock 17 = .ok (.iconst 3, 1) := by decide +kernel
theorem dX9_isBlock_18 : decode cX9_isBlock 18 = .ok (.iand, 1) := by decide +kernel
theorem dX9_isBlock_19 : decode cX9_isBlock 19 = .ok (.invokevirtual 109, 3) := by decide +kernel
theorem dX9_isBlock_22 : decode cX9_isBlock 22 = .ok (.ifCond .eq 41, 3) := by decide +kernel
theorem dX9_isBlock_25 : decode cX9_isBlock 25 = .ok (.aload_n 0, 1) := by decide +kernel
theorem dX9_isBlock_26 : decode cX9_isBlock 26 = .ok (.iload_n 1, 1) := by decide +kernel
theorem dX9_isBlock_27 : decode cX9_isBlock 27 = .ok (.iconst 4, 1) := by decide +kernel
theorem dX9_isBlock_28 : decode cX9_isBlock 28 = .ok (.ishr, 1) := by decide +kernel
theorem dX9_isBlock_29 : decode cX9_isBlock 29 = .ok (.iconst 3, 1) := by decide +kernel
theorem dX9_isBlock_30 : decode cX9_isBlock 30 = .ok (.iand, 1) := by decide +kernel
theorem dX9_isBlock_31 : decode cX9_isBlock 31 = .ok (.invokevirtual 109, 3) := by decide +kernel
theorem dX9_isBlock_34 : decode cX9_isBlock 34 = .ok (.ifCond .eq 29, 3) := by decide +kernel
theorem dX9_isBlock_37 : decode cX9_isBlock 37 = .ok (.aload_n 0, 1) := by decide +kernel
theorem dX9_isBlock_38 : decode cX9_isBlock 38 = .ok (.iload_n 1, 1) := by decide +kernel
theorem dX9_isBlock_39 : decode cX9_isBlock 39 = .ok (.iconst 2, 1) := by decide +kernel
theorem dX9_isBlock_40 : decode cX9_isBlock 40 = .ok (.ishr, 1) := by decide +kernel
theorem dX9_isBlock_41 : decode cX9_isBlock 41 = .ok (.iconst 3, 1) := by decide +kernel
theorem dX9_isBlock_42 : decode cX9_isBlock 42 = .ok (.iand, 1) := by decide +kernel
theorem dX9_isBlock_43 : decode cX9_isBlock 43 = .ok (.invokevirtual 109, 3) := by decide +kernel
theorem dX9_isBlock_46 : decode cX9_isBlock 46 = .ok (.ifCond .eq 17, 3) := by decide +kernel
theorem dX9_isBlock_49 : decode cX9_isBlock 49 = .ok (.aload_n 0, 1) := by decide +kernel
theorem dX9_isBlock_50 : decode cX9_isBlock 50 = .ok (.iload_n 1, 1) := by decide +kernel
theorem dX9_isBlock_51 : decode cX9_isBlock 51 = .ok (.iconst 3, 1) := by decide +kernel
theorem dX9_isBlock_52 : decode cX9_isBlock 52 = .ok (.iand, 1) := by decide +kernel
theorem dX9_isBlock_53 : decode cX9_isBlock 53 = .ok (.invokevirtual 109, 3) := by decide +kernel
theorem dX9_isBlock_56 : decode cX9_isBlock 56 = .ok (.ifCond .eq 7, 3) := by decide +kernel
theorem dX9_isBlock_59 : decode cX9_isBlock 59 = .ok (.iconst 1, 1) := by decide +kernel
theorem dX9_isBlock_60 : decode cX9_isBlock 60 = .ok (.goto 4, 3) := by decide +kernel
theorem dX9_isBlock_63 : decode cX9_isBlock 63 = .ok (.iconst 0, 1) := by decide +kernel
theorem dX9_isBlock_64 : decode cX9_isBlock 64 = .ok (.ireturn, 1) := by decide +kernel
set_option maxRecDepth 20000 in
theorem ggX9_allow_X9_isBlock : GoodIn wsX9_allow wsX9_isBlock := goodIn_r _ [6, 7, 8, 9, 5, 10, 11, 12, 13, 14, 15, 16, 17, 18, 19, 20, 21, 22, 23, 24, 25, 26, 27, 28, 29, 30, 31, 32, 33, 34, 35, 36, 37, 38, 39, 40, 41, 42, 43, 44, 45] (by decide +kernel) (by decide +kernel)
set_option maxRecDepth 20000 in
theorem gX9_allow_X9_isBlock : GoodIn wsX9_allow (wsV RX9 113 RX9 yX9_isBlock wsX9_isBlock) := goodIn_app (goodIn_of _ (by decide +kernel)) ggX9_allow_X9_isBlock
theorem dX9_allow_0 : decode cX9_allow 0 = .ok (.aload_n 0, 1) := by decide +kernel
theorem dX9_allow_1 : decode cX9_allow 1 = .ok (.iload_n 1, 1) := by decide +kernel
theorem dX9_allow_2 : decode cX9_allow 2 = .ok (.invokevirtual 113, 3) := by decide +kernel
theorem dX9_allow_5 : decode cX9_allow 5 = .ok (.ifCond .ne 6, 3) := by decide +kernel
theorem dX9_allow_8 : decode cX9_allow 8 = .ok (.bipush (-3), 2) := by decide +kernel
theorem dX9_allow_10 : decode cX9_allow 10 = .ok (.ireturn, 1) := by decide +kernel
theorem dX9_allow_11 : decode cX9_allow 11 = .ok (.aload_n 0, 1) := by decide +kernel
theorem dX9_allow_12 : decode cX9_allow 12 = .ok (.getfield 13, 3) := by decide +kernel
theorem dX9_allow_15 : decode cX9_allow 15 = .ok (.iload_n 1, 1) := by decide +kernel
theorem dX9_allow_16 : decode cX9_allow 16 = .ok (.baload, 1) := by decide +kernel
theorem dX9_allow_17 : decode cX9_allow 17 = .ok (.ifCond .eq 7, 3) := by decide +kernel
theorem dX9_allow_20 : decode cX9_allow 20 = .ok (.iconst 1, 1) := by decide +kernel
theorem dX9_allow_21 : decode cX9_allow 21 = .ok (.goto 4, 3) := by decide +kernel
theorem dX9_allow_24 : decode cX9_allow 24 = .ok (.iconst 0, 1) := by decide +kernel
theorem dX9_allow_25 : decode cX9_allow 25 = .ok (.istore_n 3, 1) := by decide +kernel
theorem dX9_allow_26 : decode cX9_allow 26 = .ok (.aload_n 0, 1) := by decide +kernel
theorem dX9_allow_27 : decode cX9_allow 27 = .ok (.getfield 13, 3) := by decide +kernel
theorem dX9_allow_30 : decode cX9_allow 30 = .ok (.iload_n 1, 1) := by decide +kernel
theorem dX9_allow_31 : decode cX9_allow 31 = .ok (.iload_n 2, 1) := by decide +kernel
theorem dX9_allow_32 : decode cX9_allow 32 = .ok (.bastore, 1) := by decide +kernel
theorem dX9_allow_33 : decode cX9_allow 33 = .ok (.iload_n 3, 1) := by decide +kernel
theorem dX9_allow_34 : decode cX9_allow 34 = .ok (.ireturn, 1) := by decide +kernel
set_option maxRecDepth 20000 in
theorem ggX9_desk_X9_isSize : GoodIn wsX9_desk wsX9_isSize := goodIn_r _ [7, 8, 9, 10, 6, 11] (by decide +kernel) (by decide +kernel)
set_option maxRecDepth 20000 in
theorem gX9_desk_X9_isSize : GoodIn wsX9_desk (va_wsS RX9 116 yX9_isSize wsX9_isSize) := goodIn_app (goodIn_of _ (by decide +kernel)) ggX9_desk_X9_isSize
theorem dX9_desk_0 : decode cX9_desk 0 = .ok (.iload_n 1, 1) := by decide +kernel
theorem dX9_desk_1 : decode cX9_desk 1 = .ok (.iload_n 2, 1) := by decide +kernel
theorem dX9_desk_2 : decode cX9_desk 2 = .ok (.invokestatic 116, 3) := by decide +kernel
theorem dX9_desk_5 : decode cX9_desk 5 = .ok (.ifCond .ne 6, 3) := by decide +kernel
theorem dX9_desk_8 : decode cX9_desk 8 = .ok (.bipush (-3), 2) := by decide +kernel
theorem dX9_desk_10 : decode cX9_desk 10 = .ok (.ireturn, 1) := by decide +kernel
theorem dX9_desk_11 : decode cX9_desk 11 = .ok (.aload_n 0, 1) := by decide +kernel
theorem dX9_desk_12 : decode cX9_desk 12 = .ok (.iload_n 1, 1) := by decide +kernel
theorem dX9_desk_13 : decode cX9_desk 13 = .ok (.putfield 17, 3) := by decide +kernel
theorem dX9_desk_16 : decode cX9_desk 16 = .ok (.aload_n 0, 1) := by decide +kernel
theorem dX9_desk_17 : decode cX9_desk 17 = .ok (.iload_n 2, 1) := by decide +kernel
theorem dX9_desk_18 : decode cX9_desk 18 = .ok (.putfield 20, 3) := by decide +kernel
theorem dX9_desk_21 : decode cX9_desk 21 = .ok (.iconst 0, 1) := by decide +kernel
theorem dX9_desk_22 : decode cX9_desk 22 = .ok (.istore_n 3, 1) := by decide +kernel
theorem dX9_desk_23 : decode cX9_desk 23 = .ok (.iload_n 3, 1) := by decide +kernel
theorem dX9_desk_24 : decode cX9_desk 24 = .ok (.bipush 25, 2) := by decide +kernel
theorem dX9_desk_26 : decode cX9_desk 26 = .ok (.if_icmp .ge 16, 3) := by decide +kernel
theorem dX9_desk_29 : decode cX9_desk 29 = .ok (.aload_n 0, 1) := by decide +kernel
theorem dX9_desk_30 : decode cX9_desk 30 = .ok (.getfield 23, 3) := by decide +kernel
theorem dX9_desk_33 : decode cX9_desk 33 = .ok (.iload_n 3, 1) := by decide +kernel
theorem dX9_desk_34 : decode cX9_desk 34 = .ok (.iconst (-1), 1) := by decide +kernel
theorem dX9_desk_35 : decode cX9_desk 35 = .ok (.iastore, 1) := by decide +kernel
theorem dX9_desk_36 : decode cX9_desk 36 = .ok (.iinc 3 1, 3) := by decide +kernel
theorem dX9_desk_39 : decode cX9_desk 39 = .ok (.goto (-16), 3) := by decide +kernel
theorem dX9_desk_42 : decode cX9_desk 42 = .ok (.iconst 1, 1) := by decide +kernel
theorem dX9_desk_43 : decode cX9_desk 43 = .ok (.ireturn, 1) := by decide +kernel
set_option maxRecDepth 20000 in
theorem ggX9_isCell_X9_in : GoodIn wsX9_isCell wsX9_in := goodIn_r _ [6] (by decide +kernel) (by decide +kernel)
set_option maxRecDepth 20000 in
theorem gX9_isCell_X9_in : GoodIn wsX9_isCell (va_wsS RX9 95 yX9_in wsX9_in) := goodIn_app (goodIn_of _ (by decide +kernel)) ggX9_isCell_X9_in
theorem dX9_isCell_0 : decode cX9_isCell 0 = .ok (.iload_n 1, 1) := by decide +kernel
theorem dX9_isCell_1 : decode cX9_isCell 1 = .ok (.i2l, 1) := by decide +kernel
theorem dX9_isCell_2 : decode cX9_isCell 2 = .ok (.lconst 0, 1) := by decide +kernel
theorem dX9_isCell_3 : decode cX9_isCell 3 = .ok (.aload_n 0, 1) := by decide +kernel
