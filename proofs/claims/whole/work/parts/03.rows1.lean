set_option maxRecDepth 20000 in
theorem ggX0_init_X4_init : GoodIn wsX0_init wsX4_init := goodIn_r _ [17, 18, 2, 3, 19, 20, 4, 21, 29, 30, 31] (by decide +kernel) (by decide +kernel)
set_option maxRecDepth 20000 in
theorem gX0_init_X4_init_n27 : GoodIn wsX0_init (wsX4_init) := ggX0_init_X4_init
theorem dX0_init_0 : decode cX0_init 0 = .ok (.aload_n 0, 1) := by decide +kernel
theorem dX0_init_1 : decode cX0_init 1 = .ok (.invokespecial 3, 3) := by decide +kernel
theorem dX0_init_4 : decode cX0_init 4 = .ok (.aload_n 0, 1) := by decide +kernel
theorem dX0_init_5 : decode cX0_init 5 = .ok (.bipush 25, 2) := by decide +kernel
theorem dX0_init_7 : decode cX0_init 7 = .ok (.newarray .int, 2) := by decide +kernel
theorem dX0_init_9 : decode cX0_init 9 = .ok (.putfield 9, 3) := by decide +kernel
theorem dX0_init_12 : decode cX0_init 12 = .ok (.aload_n 0, 1) := by decide +kernel
theorem dX0_init_13 : decode cX0_init 13 = .ok (.sipush 1215, 3) := by decide +kernel
theorem dX0_init_16 : decode cX0_init 16 = .ok (.newarray .long, 2) := by decide +kernel
theorem dX0_init_18 : decode cX0_init 18 = .ok (.putfield 15, 3) := by decide +kernel
theorem dX0_init_21 : decode cX0_init 21 = .ok (.aload_n 0, 1) := by decide +kernel
theorem dX0_init_22 : decode cX0_init 22 = .ok (.sipush 729, 3) := by decide +kernel
theorem dX0_init_25 : decode cX0_init 25 = .ok (.newarray .long, 2) := by decide +kernel
theorem dX0_init_27 : decode cX0_init 27 = .ok (.putfield 19, 3) := by decide +kernel
theorem dX0_init_30 : decode cX0_init 30 = .ok (.aload_n 0, 1) := by decide +kernel
theorem dX0_init_31 : decode cX0_init 31 = .ok (.iconst 5, 1) := by decide +kernel
theorem dX0_init_32 : decode cX0_init 32 = .ok (.newarray .int, 2) := by decide +kernel
theorem dX0_init_34 : decode cX0_init 34 = .ok (.putfield 22, 3) := by decide +kernel
theorem dX0_init_37 : decode cX0_init 37 = .ok (.aload_n 0, 1) := by decide +kernel
theorem dX0_init_38 : decode cX0_init 38 = .ok (.new 25, 3) := by decide +kernel
theorem dX0_init_41 : decode cX0_init 41 = .ok (.dup, 1) := by decide +kernel
theorem dX0_init_42 : decode cX0_init 42 = .ok (.invokespecial 27, 3) := by decide +kernel
theorem dX0_init_45 : decode cX0_init 45 = .ok (.putfield 28, 3) := by decide +kernel
theorem dX0_init_48 : decode cX0_init 48 = .ok (.aload_n 0, 1) := by decide +kernel
theorem dX0_init_49 : decode cX0_init 49 = .ok (.aload_n 1, 1) := by decide +kernel
theorem dX0_init_50 : decode cX0_init 50 = .ok (.putfield 32, 3) := by decide +kernel
theorem dX0_init_53 : decode cX0_init 53 = .ok (.aload_n 0, 1) := by decide +kernel
theorem dX0_init_54 : decode cX0_init 54 = .ok (.aload_n 2, 1) := by decide +kernel
theorem dX0_init_55 : decode cX0_init 55 = .ok (.putfield 36, 3) := by decide +kernel
theorem dX0_init_58 : decode cX0_init 58 = .ok (.return_, 1) := by decide +kernel
set_option maxRecDepth 20000 in
theorem ggX0_open_X2_list : GoodIn wsX0_open wsX2_list := goodIn_r _ [8, 9, 10, 11, 12, 13, 14, 15, 16, 17, 7, 18, 39, 40, 41, 42, 43, 44] (by decide +kernel) (by decide +kernel)
set_option maxRecDepth 20000 in
theorem gX0_open_X2_list : GoodIn wsX0_open (wsV RX0 40 RX2 yX2_list wsX2_list) := goodIn_app (goodIn_of _ (by decide +kernel)) ggX0_open_X2_list
set_option maxRecDepth 20000 in
theorem ggX0_open_X4_lay : GoodIn wsX0_open wsX4_lay := goodIn_r _ [23, 24, 25, 26, 27, 28, 29, 30, 45, 46, 47] (by decide +kernel) (by decide +kernel)
set_option maxRecDepth 20000 in
theorem gX0_open_X4_lay : GoodIn wsX0_open (wsV RX0 46 RX4 yX4_lay wsX4_lay) := goodIn_app (goodIn_of _ (by decide +kernel)) ggX0_open_X4_lay
set_option maxRecDepth 20000 in
theorem ggX0_open_J7_fill_53178 : GoodIn wsX0_open wsJ7_fill_53178 := goodIn_r _ [30] (by decide +kernel) (by decide +kernel)
set_option maxRecDepth 20000 in
theorem gX0_open_J7_fill_53178 : GoodIn wsX0_open (va_wsS RX0 49 yJ7_fill_53178 wsJ7_fill_53178) := goodIn_app (goodIn_of _ (by decide +kernel)) ggX0_open_J7_fill_53178
theorem dX0_open_0 : decode cX0_open 0 = .ok (.aload_n 0, 1) := by decide +kernel
theorem dX0_open_1 : decode cX0_open 1 = .ok (.getfield 36, 3) := by decide +kernel
theorem dX0_open_4 : decode cX0_open 4 = .ok (.iload_n 1, 1) := by decide +kernel
theorem dX0_open_5 : decode cX0_open 5 = .ok (.iload_n 3, 1) := by decide +kernel
theorem dX0_open_6 : decode cX0_open 6 = .ok (.invokevirtual 40, 3) := by decide +kernel
theorem dX0_open_9 : decode cX0_open 9 = .ok (.aload_n 0, 1) := by decide +kernel
theorem dX0_open_10 : decode cX0_open 10 = .ok (.getfield 28, 3) := by decide +kernel
theorem dX0_open_13 : decode cX0_open 13 = .ok (.iload_n 2, 1) := by decide +kernel
theorem dX0_open_14 : decode cX0_open 14 = .ok (.iload_n 3, 1) := by decide +kernel
theorem dX0_open_15 : decode cX0_open 15 = .ok (.invokevirtual 46, 3) := by decide +kernel
theorem dX0_open_18 : decode cX0_open 18 = .ok (.aload_n 0, 1) := by decide +kernel
theorem dX0_open_19 : decode cX0_open 19 = .ok (.getfield 9, 3) := by decide +kernel
theorem dX0_open_22 : decode cX0_open 22 = .ok (.iconst 1, 1) := by decide +kernel
theorem dX0_open_23 : decode cX0_open 23 = .ok (.iload_n 1, 1) := by decide +kernel
theorem dX0_open_24 : decode cX0_open 24 = .ok (.ishl, 1) := by decide +kernel
theorem dX0_open_25 : decode cX0_open 25 = .ok (.iconst 1, 1) := by decide +kernel
theorem dX0_open_26 : decode cX0_open 26 = .ok (.isub, 1) := by decide +kernel
theorem dX0_open_27 : decode cX0_open 27 = .ok (.invokestatic 49, 3) := by decide +kernel
theorem dX0_open_30 : decode cX0_open 30 = .ok (.return_, 1) := by decide +kernel
set_option maxRecDepth 20000 in
theorem ggX0_fill_X0_isWished : GoodIn wsX0_fill wsX0_isWished := goodIn_r _ [14, 3, 8, 15, 16, 17, 18, 19, 20, 21, 22, 55, 56, 57, 58, 59, 60, 61, 65, 66, 67, 68, 69, 70] (by decide +kernel) (by decide +kernel)
set_option maxRecDepth 20000 in
theorem gX0_fill_X0_isWished : GoodIn wsX0_fill (wsV RX0 62 RX0 yX0_isWished wsX0_isWished) := goodIn_app (goodIn_of _ (by decide +kernel)) ggX0_fill_X0_isWished
set_option maxRecDepth 20000 in
theorem ggX0_fill_X3_joins : GoodIn wsX0_fill wsX3_joins := goodIn_r _ [27, 28, 71] (by decide +kernel) (by decide +kernel)
set_option maxRecDepth 20000 in
theorem gX0_fill_X3_joins : GoodIn wsX0_fill (wsV RX0 75 RX3 yX3_joins wsX3_joins) := goodIn_app (goodIn_of _ (by decide +kernel)) ggX0_fill_X3_joins
set_option maxRecDepth 20000 in
theorem ggX0_fill_X0_closeRight : GoodIn wsX0_fill wsX0_closeRight := goodIn_r _ [32, 3, 33, 4, 9, 8, 5, 34, 16, 17, 18, 19, 20, 21, 22, 35, 36, 37, 26, 38, 28, 55, 56, 57, 58, 59, 60, 61, 65, 66, 67, 68, 69, 70, 71] (by decide +kernel) (by decide +kernel)
set_option maxRecDepth 20000 in
theorem gX0_fill_X0_closeRight : GoodIn wsX0_fill (wsV RX0 81 RX0 yX0_closeRight wsX0_closeRight) := goodIn_app (goodIn_of _ (by decide +kernel)) ggX0_fill_X0_closeRight
set_option maxRecDepth 20000 in
theorem ggX0_fill_X0_moveLeft : GoodIn wsX0_fill wsX0_moveLeft := goodIn_r _ [42, 3, 33, 43, 8, 5, 35, 36, 37, 26, 38, 28, 44, 45, 46, 13, 47, 34, 48, 49, 50, 55, 56, 57, 58, 59, 60, 61, 65, 66, 67, 68, 69, 70, 71] (by decide +kernel) (by decide +kernel)
set_option maxRecDepth 20000 in
theorem gX0_fill_X0_moveLeft : GoodIn wsX0_fill (wsV RX0 85 RX0 yX0_moveLeft wsX0_moveLeft) := goodIn_app (goodIn_of _ (by decide +kernel)) ggX0_fill_X0_moveLeft
set_option maxRecDepth 20000 in
theorem ggX0_fill_X0_openLeft : GoodIn wsX0_fill wsX0_openLeft := goodIn_r _ [54, 3, 4, 5, 33, 34, 9, 10, 11, 12, 13, 14, 8, 15, 16, 17, 18, 19, 20, 21, 22, 35, 36, 37, 26, 38, 28, 55, 56, 57, 58, 59, 60, 61, 65, 66, 67, 68, 69, 70, 71] (by decide +kernel) (by decide +kernel)
set_option maxRecDepth 20000 in
theorem gX0_fill_X0_openLeft : GoodIn wsX0_fill (wsV RX0 88 RX0 yX0_openLeft wsX0_openLeft) := goodIn_app (goodIn_of _ (by decide +kernel)) ggX0_fill_X0_openLeft
theorem dX0_fill_0 : decode cX0_fill 0 = .ok (.aload_n 0, 1) := by decide +kernel
theorem dX0_fill_1 : decode cX0_fill 1 = .ok (.getfield 28, 3) := by decide +kernel
theorem dX0_fill_4 : decode cX0_fill 4 = .ok (.getfield 55, 3) := by decide +kernel
theorem dX0_fill_7 : decode cX0_fill 7 = .ok (.iconst 1, 1) := by decide +kernel
theorem dX0_fill_8 : decode cX0_fill 8 = .ok (.isub, 1) := by decide +kernel
theorem dX0_fill_9 : decode cX0_fill 9 = .ok (.istore_n 1, 1) := by decide +kernel
theorem dX0_fill_10 : decode cX0_fill 10 = .ok (.iconst 0, 1) := by decide +kernel
theorem dX0_fill_11 : decode cX0_fill 11 = .ok (.istore_n 2, 1) := by decide +kernel
theorem dX0_fill_12 : decode cX0_fill 12 = .ok (.iload_n 2, 1) := by decide +kernel
theorem dX0_fill_13 : decode cX0_fill 13 = .ok (.aload_n 0, 1) := by decide +kernel
theorem dX0_fill_14 : decode cX0_fill 14 = .ok (.getfield 36, 3) := by decide +kernel
theorem dX0_fill_17 : decode cX0_fill 17 = .ok (.getfield 59, 3) := by decide +kernel
theorem dX0_fill_20 : decode cX0_fill 20 = .ok (.if_icmp .ge 78, 3) := by decide +kernel
theorem dX0_fill_23 : decode cX0_fill 23 = .ok (.aload_n 0, 1) := by decide +kernel
theorem dX0_fill_24 : decode cX0_fill 24 = .ok (.iload_n 1, 1) := by decide +kernel
theorem dX0_fill_25 : decode cX0_fill 25 = .ok (.iload_n 2, 1) := by decide +kernel
theorem dX0_fill_26 : decode cX0_fill 26 = .ok (.invokevirtual 62, 3) := by decide +kernel
theorem dX0_fill_29 : decode cX0_fill 29 = .ok (.ifCond .eq 40, 3) := by decide +kernel
theorem dX0_fill_32 : decode cX0_fill 32 = .ok (.aload_n 0, 1) := by decide +kernel
theorem dX0_fill_33 : decode cX0_fill 33 = .ok (.getfield 32, 3) := by decide +kernel
theorem dX0_fill_36 : decode cX0_fill 36 = .ok (.aload_n 0, 1) := by decide +kernel
theorem dX0_fill_37 : decode cX0_fill 37 = .ok (.getfield 36, 3) := by decide +kernel
theorem dX0_fill_40 : decode cX0_fill 40 = .ok (.getfield 66, 3) := by decide +kernel
theorem dX0_fill_43 : decode cX0_fill 43 = .ok (.iload_n 2, 1) := by decide +kernel
theorem dX0_fill_44 : decode cX0_fill 44 = .ok (.iaload, 1) := by decide +kernel
theorem dX0_fill_45 : decode cX0_fill 45 = .ok (.aload_n 0, 1) := by decide +kernel
theorem dX0_fill_46 : decode cX0_fill 46 = .ok (.getfield 36, 3) := by decide +kernel
theorem dX0_fill_49 : decode cX0_fill 49 = .ok (.getfield 69, 3) := by decide +kernel
theorem dX0_fill_52 : decode cX0_fill 52 = .ok (.aload_n 0, 1) := by decide +kernel
theorem dX0_fill_53 : decode cX0_fill 53 = .ok (.getfield 36, 3) := by decide +kernel
theorem dX0_fill_56 : decode cX0_fill 56 = .ok (.getfield 72, 3) := by decide +kernel
theorem dX0_fill_59 : decode cX0_fill 59 = .ok (.invokevirtual 75, 3) := by decide +kernel
theorem dX0_fill_62 : decode cX0_fill 62 = .ok (.ifCond .eq 7, 3) := by decide +kernel
theorem dX0_fill_65 : decode cX0_fill 65 = .ok (.iconst 1, 1) := by decide +kernel
theorem dX0_fill_66 : decode cX0_fill 66 = .ok (.goto 4, 3) := by decide +kernel
theorem dX0_fill_69 : decode cX0_fill 69 = .ok (.iconst 0, 1) := by decide +kernel
theorem dX0_fill_70 : decode cX0_fill 70 = .ok (.istore_n 3, 1) := by decide +kernel
theorem dX0_fill_71 : decode cX0_fill 71 = .ok (.aload_n 0, 1) := by decide +kernel
theorem dX0_fill_72 : decode cX0_fill 72 = .ok (.getfield 15, 3) := by decide +kernel
theorem dX0_fill_75 : decode cX0_fill 75 = .ok (.iload_n 1, 1) := by decide +kernel
theorem dX0_fill_76 : decode cX0_fill 76 = .ok (.sipush 243, 3) := by decide +kernel
theorem dX0_fill_79 : decode cX0_fill 79 = .ok (.imul, 1) := by decide +kernel
theorem dX0_fill_80 : decode cX0_fill 80 = .ok (.iload_n 2, 1) := by decide +kernel
theorem dX0_fill_81 : decode cX0_fill 81 = .ok (.iadd, 1) := by decide +kernel
theorem dX0_fill_82 : decode cX0_fill 82 = .ok (.iload_n 3, 1) := by decide +kernel
theorem dX0_fill_83 : decode cX0_fill 83 = .ok (.ifCond .eq 7, 3) := by decide +kernel
theorem dX0_fill_86 : decode cX0_fill 86 = .ok (.lconst 1, 1) := by decide +kernel
theorem dX0_fill_87 : decode cX0_fill 87 = .ok (.goto 4, 3) := by decide +kernel
theorem dX0_fill_90 : decode cX0_fill 90 = .ok (.lconst 0, 1) := by decide +kernel
theorem dX0_fill_91 : decode cX0_fill 91 = .ok (.lastore, 1) := by decide +kernel
theorem dX0_fill_92 : decode cX0_fill 92 = .ok (.iinc 2 1, 3) := by decide +kernel
theorem dX0_fill_95 : decode cX0_fill 95 = .ok (.goto (-83), 3) := by decide +kernel
theorem dX0_fill_98 : decode cX0_fill 98 = .ok (.iload_n 1, 1) := by decide +kernel
theorem dX0_fill_99 : decode cX0_fill 99 = .ok (.iconst 1, 1) := by decide +kernel
theorem dX0_fill_100 : decode cX0_fill 100 = .ok (.isub, 1) := by decide +kernel
theorem dX0_fill_101 : decode cX0_fill 101 = .ok (.istore_n 2, 1) := by decide +kernel
theorem dX0_fill_102 : decode cX0_fill 102 = .ok (.iload_n 2, 1) := by decide +kernel
theorem dX0_fill_103 : decode cX0_fill 103 = .ok (.ifCond .lt 46, 3) := by decide +kernel
theorem dX0_fill_106 : decode cX0_fill 106 = .ok (.aload_n 0, 1) := by decide +kernel
theorem dX0_fill_107 : decode cX0_fill 107 = .ok (.iload_n 2, 1) := by decide +kernel
theorem dX0_fill_108 : decode cX0_fill 108 = .ok (.iconst 1, 1) := by decide +kernel
theorem dX0_fill_109 : decode cX0_fill 109 = .ok (.iadd, 1) := by decide +kernel
theorem dX0_fill_110 : decode cX0_fill 110 = .ok (.invokevirtual 81, 3) := by decide +kernel
theorem dX0_fill_113 : decode cX0_fill 113 = .ok (.aload_n 0, 1) := by decide +kernel
theorem dX0_fill_114 : decode cX0_fill 114 = .ok (.getfield 36, 3) := by decide +kernel
theorem dX0_fill_117 : decode cX0_fill 117 = .ok (.getfield 72, 3) := by decide +kernel
theorem dX0_fill_120 : decode cX0_fill 120 = .ok (.iconst 1, 1) := by decide +kernel
theorem dX0_fill_121 : decode cX0_fill 121 = .ok (.isub, 1) := by decide +kernel
theorem dX0_fill_122 : decode cX0_fill 122 = .ok (.istore_n 3, 1) := by decide +kernel
theorem dX0_fill_123 : decode cX0_fill 123 = .ok (.iload_n 3, 1) := by decide +kernel
theorem dX0_fill_124 : decode cX0_fill 124 = .ok (.ifCond .le 14, 3) := by decide +kernel
theorem dX0_fill_127 : decode cX0_fill 127 = .ok (.aload_n 0, 1) := by decide +kernel
theorem dX0_fill_128 : decode cX0_fill 128 = .ok (.iload_n 3, 1) := by decide +kernel
theorem dX0_fill_129 : decode cX0_fill 129 = .ok (.invokevirtual 85, 3) := by decide +kernel
theorem dX0_fill_132 : decode cX0_fill 132 = .ok (.iinc 3 (-1), 3) := by decide +kernel
theorem dX0_fill_135 : decode cX0_fill 135 = .ok (.goto (-12), 3) := by decide +kernel
theorem dX0_fill_138 : decode cX0_fill 138 = .ok (.aload_n 0, 1) := by decide +kernel
theorem dX0_fill_139 : decode cX0_fill 139 = .ok (.iload_n 2, 1) := by decide +kernel
theorem dX0_fill_140 : decode cX0_fill 140 = .ok (.invokevirtual 88, 3) := by decide +kernel
theorem dX0_fill_143 : decode cX0_fill 143 = .ok (.iinc 2 (-1), 3) := by decide +kernel
theorem dX0_fill_146 : decode cX0_fill 146 = .ok (.goto (-44), 3) := by decide +kernel
theorem dX0_fill_149 : decode cX0_fill 149 = .ok (.return_, 1) := by decide +kernel
set_option maxRecDepth 20000 in
theorem ggX0_isWished_X2_colour : GoodIn wsX0_isWished wsX2_colour := goodIn_r _ [8, 9, 10, 18, 19, 20, 21, 22, 23] (by decide +kernel) (by decide +kernel)
set_option maxRecDepth 20000 in
theorem gX0_isWished_X2_colour : GoodIn wsX0_isWished (wsV RX0 91 RX2 yX2_colour wsX2_colour) := goodIn_app (goodIn_of _ (by decide +kernel)) ggX0_isWished_X2_colour
theorem dX0_isWished_0 : decode cX0_isWished 0 = .ok (.iconst 0, 1) := by decide +kernel
theorem dX0_isWished_1 : decode cX0_isWished 1 = .ok (.istore_n 3, 1) := by decide +kernel
theorem dX0_isWished_2 : decode cX0_isWished 2 = .ok (.iload_n 3, 1) := by decide +kernel
theorem dX0_isWished_3 : decode cX0_isWished 3 = .ok (.aload_n 0, 1) := by decide +kernel
theorem dX0_isWished_4 : decode cX0_isWished 4 = .ok (.getfield 36, 3) := by decide +kernel
theorem dX0_isWished_7 : decode cX0_isWished 7 = .ok (.getfield 72, 3) := by decide +kernel
theorem dX0_isWished_10 : decode cX0_isWished 10 = .ok (.if_icmp .ge 42, 3) := by decide +kernel
theorem dX0_isWished_13 : decode cX0_isWished 13 = .ok (.aload_n 0, 1) := by decide +kernel
theorem dX0_isWished_14 : decode cX0_isWished 14 = .ok (.getfield 9, 3) := by decide +kernel
theorem dX0_isWished_17 : decode cX0_isWished 17 = .ok (.aload_n 0, 1) := by decide +kernel
theorem dX0_isWished_18 : decode cX0_isWished 18 = .ok (.getfield 36, 3) := by decide +kernel
theorem dX0_isWished_21 : decode cX0_isWished 21 = .ok (.getfield 72, 3) := by decide +kernel
theorem dX0_isWished_24 : decode cX0_isWished 24 = .ok (.iload_n 1, 1) := by decide +kernel
theorem dX0_isWished_25 : decode cX0_isWished 25 = .ok (.imul, 1) := by decide +kernel
theorem dX0_isWished_26 : decode cX0_isWished 26 = .ok (.iload_n 3, 1) := by decide +kernel
theorem dX0_isWished_27 : decode cX0_isWished 27 = .ok (.iadd, 1) := by decide +kernel
theorem dX0_isWished_28 : decode cX0_isWished 28 = .ok (.iaload, 1) := by decide +kernel
theorem dX0_isWished_29 : decode cX0_isWished 29 = .ok (.aload_n 0, 1) := by decide +kernel
theorem dX0_isWished_30 : decode cX0_isWished 30 = .ok (.getfield 36, 3) := by decide +kernel
theorem dX0_isWished_33 : decode cX0_isWished 33 = .ok (.iload_n 2, 1) := by decide +kernel
theorem dX0_isWished_34 : decode cX0_isWished 34 = .ok (.iload_n 3, 1) := by decide +kernel
theorem dX0_isWished_35 : decode cX0_isWished 35 = .ok (.invokevirtual 91, 3) := by decide +kernel
theorem dX0_isWished_38 : decode cX0_isWished 38 = .ok (.ishr, 1) := by decide +kernel
theorem dX0_isWished_39 : decode cX0_isWished 39 = .ok (.iconst 1, 1) := by decide +kernel
theorem dX0_isWished_40 : decode cX0_isWished 40 = .ok (.iand, 1) := by decide +kernel
theorem dX0_isWished_41 : decode cX0_isWished 41 = .ok (.ifCond .ne 5, 3) := by decide +kernel
theorem dX0_isWished_44 : decode cX0_isWished 44 = .ok (.iconst 0, 1) := by decide +kernel
theorem dX0_isWished_45 : decode cX0_isWished 45 = .ok (.ireturn, 1) := by decide +kernel
theorem dX0_isWished_46 : decode cX0_isWished 46 = .ok (.iinc 3 1, 3) := by decide +kernel
theorem dX0_isWished_49 : decode cX0_isWished 49 = .ok (.goto (-47), 3) := by decide +kernel
theorem dX0_isWished_52 : decode cX0_isWished 52 = .ok (.iconst 1, 1) := by decide +kernel
theorem dX0_isWished_53 : decode cX0_isWished 53 = .ok (.ireturn, 1) := by decide +kernel
set_option maxRecDepth 20000 in
theorem ggX0_closeRight_X2_colour : GoodIn wsX0_closeRight wsX2_colour := goodIn_r _ [12, 13, 14, 28, 29, 30, 31, 32, 33] (by decide +kernel) (by decide +kernel)
set_option maxRecDepth 20000 in
theorem gX0_closeRight_X2_colour : GoodIn wsX0_closeRight (wsV RX0 91 RX2 yX2_colour wsX2_colour) := goodIn_app (goodIn_of _ (by decide +kernel)) ggX0_closeRight_X2_colour
set_option maxRecDepth 20000 in
theorem ggX0_closeRight_X3_corners : GoodIn wsX0_closeRight wsX3_corners := goodIn_r _ [19, 20, 34] (by decide +kernel) (by decide +kernel)
set_option maxRecDepth 20000 in
theorem gX0_closeRight_X3_corners : GoodIn wsX0_closeRight (wsV RX0 98 RX3 yX3_corners wsX3_corners) := goodIn_app (goodIn_of _ (by decide +kernel)) ggX0_closeRight_X3_corners
theorem dX0_closeRight_0 : decode cX0_closeRight 0 = .ok (.aload_n 0, 1) := by decide +kernel
theorem dX0_closeRight_1 : decode cX0_closeRight 1 = .ok (.getfield 36, 3) := by decide +kernel
theorem dX0_closeRight_4 : decode cX0_closeRight 4 = .ok (.getfield 95, 3) := by decide +kernel
theorem dX0_closeRight_7 : decode cX0_closeRight 7 = .ok (.istore_n 2, 1) := by decide +kernel
theorem dX0_closeRight_8 : decode cX0_closeRight 8 = .ok (.iconst 0, 1) := by decide +kernel
theorem dX0_closeRight_9 : decode cX0_closeRight 9 = .ok (.istore_n 3, 1) := by decide +kernel
theorem dX0_closeRight_10 : decode cX0_closeRight 10 = .ok (.iload_n 3, 1) := by decide +kernel
theorem dX0_closeRight_11 : decode cX0_closeRight 11 = .ok (.aload_n 0, 1) := by decide +kernel
theorem dX0_closeRight_12 : decode cX0_closeRight 12 = .ok (.getfield 36, 3) := by decide +kernel
theorem dX0_closeRight_15 : decode cX0_closeRight 15 = .ok (.getfield 59, 3) := by decide +kernel
theorem dX0_closeRight_18 : decode cX0_closeRight 18 = .ok (.if_icmp .ge 105, 3) := by decide +kernel
theorem dX0_closeRight_21 : decode cX0_closeRight 21 = .ok (.aload_n 0, 1) := by decide +kernel
theorem dX0_closeRight_22 : decode cX0_closeRight 22 = .ok (.getfield 15, 3) := by decide +kernel
theorem dX0_closeRight_25 : decode cX0_closeRight 25 = .ok (.iload_n 1, 1) := by decide +kernel
theorem dX0_closeRight_26 : decode cX0_closeRight 26 = .ok (.sipush 243, 3) := by decide +kernel
theorem dX0_closeRight_29 : decode cX0_closeRight 29 = .ok (.imul, 1) := by decide +kernel
theorem dX0_closeRight_30 : decode cX0_closeRight 30 = .ok (.iload_n 3, 1) := by decide +kernel
theorem dX0_closeRight_31 : decode cX0_closeRight 31 = .ok (.iadd, 1) := by decide +kernel
theorem dX0_closeRight_32 : decode cX0_closeRight 32 = .ok (.laload, 1) := by decide +kernel
theorem dX0_closeRight_33 : decode cX0_closeRight 33 = .ok (.lstore 4, 2) := by decide +kernel
theorem dX0_closeRight_35 : decode cX0_closeRight 35 = .ok (.aload_n 0, 1) := by decide +kernel
theorem dX0_closeRight_36 : decode cX0_closeRight 36 = .ok (.getfield 36, 3) := by decide +kernel
theorem dX0_closeRight_39 : decode cX0_closeRight 39 = .ok (.iload_n 3, 1) := by decide +kernel
theorem dX0_closeRight_40 : decode cX0_closeRight 40 = .ok (.aload_n 0, 1) := by decide +kernel
theorem dX0_closeRight_41 : decode cX0_closeRight 41 = .ok (.getfield 36, 3) := by decide +kernel
theorem dX0_closeRight_44 : decode cX0_closeRight 44 = .ok (.getfield 72, 3) := by decide +kernel
theorem dX0_closeRight_47 : decode cX0_closeRight 47 = .ok (.iconst 1, 1) := by decide +kernel
theorem dX0_closeRight_48 : decode cX0_closeRight 48 = .ok (.isub, 1) := by decide +kernel
theorem dX0_closeRight_49 : decode cX0_closeRight 49 = .ok (.invokevirtual 91, 3) := by decide +kernel
theorem dX0_closeRight_52 : decode cX0_closeRight 52 = .ok (.istore 6, 2) := by decide +kernel
theorem dX0_closeRight_54 : decode cX0_closeRight 54 = .ok (.iconst 0, 1) := by decide +kernel
theorem dX0_closeRight_55 : decode cX0_closeRight 55 = .ok (.istore 7, 2) := by decide +kernel
theorem dX0_closeRight_57 : decode cX0_closeRight 57 = .ok (.iload 7, 2) := by decide +kernel
theorem dX0_closeRight_59 : decode cX0_closeRight 59 = .ok (.iload_n 2, 1) := by decide +kernel
theorem dX0_closeRight_60 : decode cX0_closeRight 60 = .ok (.if_icmp .ge 57, 3) := by decide +kernel
theorem dX0_closeRight_63 : decode cX0_closeRight 63 = .ok (.aload_n 0, 1) := by decide +kernel
theorem dX0_closeRight_64 : decode cX0_closeRight 64 = .ok (.getfield 32, 3) := by decide +kernel
theorem dX0_closeRight_67 : decode cX0_closeRight 67 = .ok (.iload 7, 2) := by decide +kernel
theorem dX0_closeRight_69 : decode cX0_closeRight 69 = .ok (.iconst 3, 1) := by decide +kernel
theorem dX0_closeRight_70 : decode cX0_closeRight 70 = .ok (.iload 6, 2) := by decide +kernel
theorem dX0_closeRight_72 : decode cX0_closeRight 72 = .ok (.invokevirtual 98, 3) := by decide +kernel
theorem dX0_closeRight_75 : decode cX0_closeRight 75 = .ok (.iconst 3, 1) := by decide +kernel
theorem dX0_closeRight_76 : decode cX0_closeRight 76 = .ok (.ishr, 1) := by decide +kernel
theorem dX0_closeRight_77 : decode cX0_closeRight 77 = .ok (.iconst 1, 1) := by decide +kernel
theorem dX0_closeRight_78 : decode cX0_closeRight 78 = .ok (.iand, 1) := by decide +kernel
theorem dX0_closeRight_79 : decode cX0_closeRight 79 = .ok (.ifCond .eq 7, 3) := by decide +kernel
theorem dX0_closeRight_82 : decode cX0_closeRight 82 = .ok (.iconst 1, 1) := by decide +kernel
theorem dX0_closeRight_83 : decode cX0_closeRight 83 = .ok (.goto 4, 3) := by decide +kernel
theorem dX0_closeRight_86 : decode cX0_closeRight 86 = .ok (.iconst 0, 1) := by decide +kernel
theorem dX0_closeRight_87 : decode cX0_closeRight 87 = .ok (.istore 8, 2) := by decide +kernel
theorem dX0_closeRight_89 : decode cX0_closeRight 89 = .ok (.aload_n 0, 1) := by decide +kernel
theorem dX0_closeRight_90 : decode cX0_closeRight 90 = .ok (.getfield 19, 3) := by decide +kernel
theorem dX0_closeRight_93 : decode cX0_closeRight 93 = .ok (.iload_n 3, 1) := by decide +kernel
theorem dX0_closeRight_94 : decode cX0_closeRight 94 = .ok (.iload_n 2, 1) := by decide +kernel
theorem dX0_closeRight_95 : decode cX0_closeRight 95 = .ok (.imul, 1) := by decide +kernel
theorem dX0_closeRight_96 : decode cX0_closeRight 96 = .ok (.iload 7, 2) := by decide +kernel
theorem dX0_closeRight_98 : decode cX0_closeRight 98 = .ok (.iadd, 1) := by decide +kernel
theorem dX0_closeRight_99 : decode cX0_closeRight 99 = .ok (.iload 8, 2) := by decide +kernel
theorem dX0_closeRight_101 : decode cX0_closeRight 101 = .ok (.ifCond .eq 8, 3) := by decide +kernel
theorem dX0_closeRight_104 : decode cX0_closeRight 104 = .ok (.lload 4, 2) := by decide +kernel
theorem dX0_closeRight_106 : decode cX0_closeRight 106 = .ok (.goto 4, 3) := by decide +kernel
theorem dX0_closeRight_109 : decode cX0_closeRight 109 = .ok (.lconst 0, 1) := by decide +kernel
theorem dX0_closeRight_110 : decode cX0_closeRight 110 = .ok (.lastore, 1) := by decide +kernel
theorem dX0_closeRight_111 : decode cX0_closeRight 111 = .ok (.iinc 7 1, 3) := by decide +kernel
theorem dX0_closeRight_114 : decode cX0_closeRight 114 = .ok (.goto (-57), 3) := by decide +kernel
theorem dX0_closeRight_117 : decode cX0_closeRight 117 = .ok (.iinc 3 1, 3) := by decide +kernel
theorem dX0_closeRight_120 : decode cX0_closeRight 120 = .ok (.goto (-110), 3) := by decide +kernel
theorem dX0_closeRight_123 : decode cX0_closeRight 123 = .ok (.return_, 1) := by decide +kernel
set_option maxRecDepth 20000 in
theorem ggX0_moveLeft_X3_corners : GoodIn wsX0_moveLeft wsX3_corners := goodIn_r _ [10, 11, 34] (by decide +kernel) (by decide +kernel)
set_option maxRecDepth 20000 in
theorem gX0_moveLeft_X3_corners : GoodIn wsX0_moveLeft (wsV RX0 98 RX3 yX3_corners wsX3_corners) := goodIn_app (goodIn_of _ (by decide +kernel)) ggX0_moveLeft_X3_corners
set_option maxRecDepth 20000 in
theorem ggX0_moveLeft_X0_mix : GoodIn wsX0_moveLeft wsX0_mix := goodIn_r _ [16, 1, 2, 17, 18, 19, 15, 20, 21, 22, 23, 24, 25, 26, 27, 28, 29, 30, 31, 32, 33] (by decide +kernel) (by decide +kernel)
set_option maxRecDepth 20000 in
theorem gX0_moveLeft_X0_mix : GoodIn wsX0_moveLeft (wsV RX0 105 RX0 yX0_mix wsX0_mix) := goodIn_app (goodIn_of _ (by decide +kernel)) ggX0_moveLeft_X0_mix
theorem dX0_moveLeft_0 : decode cX0_moveLeft 0 = .ok (.aload_n 0, 1) := by decide +kernel
theorem dX0_moveLeft_1 : decode cX0_moveLeft 1 = .ok (.getfield 36, 3) := by decide +kernel
theorem dX0_moveLeft_4 : decode cX0_moveLeft 4 = .ok (.getfield 95, 3) := by decide +kernel
theorem dX0_moveLeft_7 : decode cX0_moveLeft 7 = .ok (.istore_n 2, 1) := by decide +kernel
theorem dX0_moveLeft_8 : decode cX0_moveLeft 8 = .ok (.aload_n 0, 1) := by decide +kernel
theorem dX0_moveLeft_9 : decode cX0_moveLeft 9 = .ok (.getfield 36, 3) := by decide +kernel
theorem dX0_moveLeft_12 : decode cX0_moveLeft 12 = .ok (.getfield 102, 3) := by decide +kernel
theorem dX0_moveLeft_15 : decode cX0_moveLeft 15 = .ok (.aload_n 0, 1) := by decide +kernel
theorem dX0_moveLeft_16 : decode cX0_moveLeft 16 = .ok (.getfield 36, 3) := by decide +kernel
theorem dX0_moveLeft_19 : decode cX0_moveLeft 19 = .ok (.getfield 72, 3) := by decide +kernel
theorem dX0_moveLeft_22 : decode cX0_moveLeft 22 = .ok (.iload_n 1, 1) := by decide +kernel
theorem dX0_moveLeft_23 : decode cX0_moveLeft 23 = .ok (.isub, 1) := by decide +kernel
theorem dX0_moveLeft_24 : decode cX0_moveLeft 24 = .ok (.iaload, 1) := by decide +kernel
theorem dX0_moveLeft_25 : decode cX0_moveLeft 25 = .ok (.istore_n 3, 1) := by decide +kernel
theorem dX0_moveLeft_26 : decode cX0_moveLeft 26 = .ok (.aload_n 0, 1) := by decide +kernel
theorem dX0_moveLeft_27 : decode cX0_moveLeft 27 = .ok (.getfield 36, 3) := by decide +kernel
theorem dX0_moveLeft_30 : decode cX0_moveLeft 30 = .ok (.getfield 102, 3) := by decide +kernel
theorem dX0_moveLeft_33 : decode cX0_moveLeft 33 = .ok (.aload_n 0, 1) := by decide +kernel
theorem dX0_moveLeft_34 : decode cX0_moveLeft 34 = .ok (.getfield 36, 3) := by decide +kernel
theorem dX0_moveLeft_37 : decode cX0_moveLeft 37 = .ok (.getfield 72, 3) := by decide +kernel
theorem dX0_moveLeft_40 : decode cX0_moveLeft 40 = .ok (.iload_n 1, 1) := by decide +kernel
theorem dX0_moveLeft_41 : decode cX0_moveLeft 41 = .ok (.isub, 1) := by decide +kernel
theorem dX0_moveLeft_42 : decode cX0_moveLeft 42 = .ok (.iconst 1, 1) := by decide +kernel
theorem dX0_moveLeft_43 : decode cX0_moveLeft 43 = .ok (.isub, 1) := by decide +kernel
theorem dX0_moveLeft_44 : decode cX0_moveLeft 44 = .ok (.iaload, 1) := by decide +kernel
theorem dX0_moveLeft_45 : decode cX0_moveLeft 45 = .ok (.istore 4, 2) := by decide +kernel
theorem dX0_moveLeft_47 : decode cX0_moveLeft 47 = .ok (.iload_n 3, 1) := by decide +kernel
theorem dX0_moveLeft_48 : decode cX0_moveLeft 48 = .ok (.iload_n 2, 1) := by decide +kernel
theorem dX0_moveLeft_49 : decode cX0_moveLeft 49 = .ok (.imul, 1) := by decide +kernel
theorem dX0_moveLeft_50 : decode cX0_moveLeft 50 = .ok (.iload_n 2, 1) := by decide +kernel
theorem dX0_moveLeft_51 : decode cX0_moveLeft 51 = .ok (.imul, 1) := by decide +kernel
theorem dX0_moveLeft_52 : decode cX0_moveLeft 52 = .ok (.istore 5, 2) := by decide +kernel
theorem dX0_moveLeft_54 : decode cX0_moveLeft 54 = .ok (.iconst 0, 1) := by decide +kernel
theorem dX0_moveLeft_55 : decode cX0_moveLeft 55 = .ok (.istore 6, 2) := by decide +kernel
theorem dX0_moveLeft_57 : decode cX0_moveLeft 57 = .ok (.iload 6, 2) := by decide +kernel
theorem dX0_moveLeft_59 : decode cX0_moveLeft 59 = .ok (.iload_n 2, 1) := by decide +kernel
theorem dX0_moveLeft_60 : decode cX0_moveLeft 60 = .ok (.if_icmp .ge 143, 3) := by decide +kernel
theorem dX0_moveLeft_63 : decode cX0_moveLeft 63 = .ok (.iconst 0, 1) := by decide +kernel
theorem dX0_moveLeft_64 : decode cX0_moveLeft 64 = .ok (.istore 7, 2) := by decide +kernel
theorem dX0_moveLeft_66 : decode cX0_moveLeft 66 = .ok (.iload 7, 2) := by decide +kernel
theorem dX0_moveLeft_68 : decode cX0_moveLeft 68 = .ok (.iload_n 2, 1) := by decide +kernel
theorem dX0_moveLeft_69 : decode cX0_moveLeft 69 = .ok (.if_icmp .ge 128, 3) := by decide +kernel
theorem dX0_moveLeft_72 : decode cX0_moveLeft 72 = .ok (.aload_n 0, 1) := by decide +kernel
theorem dX0_moveLeft_73 : decode cX0_moveLeft 73 = .ok (.getfield 32, 3) := by decide +kernel
theorem dX0_moveLeft_76 : decode cX0_moveLeft 76 = .ok (.iconst 0, 1) := by decide +kernel
theorem dX0_moveLeft_77 : decode cX0_moveLeft 77 = .ok (.iload 7, 2) := by decide +kernel
theorem dX0_moveLeft_79 : decode cX0_moveLeft 79 = .ok (.iload 6, 2) := by decide +kernel
theorem dX0_moveLeft_81 : decode cX0_moveLeft 81 = .ok (.invokevirtual 98, 3) := by decide +kernel
theorem dX0_moveLeft_84 : decode cX0_moveLeft 84 = .ok (.istore 8, 2) := by decide +kernel
theorem dX0_moveLeft_86 : decode cX0_moveLeft 86 = .ok (.aload_n 0, 1) := by decide +kernel
theorem dX0_moveLeft_87 : decode cX0_moveLeft 87 = .ok (.getfield 32, 3) := by decide +kernel
theorem dX0_moveLeft_90 : decode cX0_moveLeft 90 = .ok (.iconst 1, 1) := by decide +kernel
theorem dX0_moveLeft_91 : decode cX0_moveLeft 91 = .ok (.iload 7, 2) := by decide +kernel
theorem dX0_moveLeft_93 : decode cX0_moveLeft 93 = .ok (.iload 6, 2) := by decide +kernel
theorem dX0_moveLeft_95 : decode cX0_moveLeft 95 = .ok (.invokevirtual 98, 3) := by decide +kernel
theorem dX0_moveLeft_98 : decode cX0_moveLeft 98 = .ok (.istore 9, 2) := by decide +kernel
theorem dX0_moveLeft_100 : decode cX0_moveLeft 100 = .ok (.aload_n 0, 1) := by decide +kernel
theorem dX0_moveLeft_101 : decode cX0_moveLeft 101 = .ok (.getfield 32, 3) := by decide +kernel
theorem dX0_moveLeft_104 : decode cX0_moveLeft 104 = .ok (.iconst 2, 1) := by decide +kernel
theorem dX0_moveLeft_105 : decode cX0_moveLeft 105 = .ok (.iload 7, 2) := by decide +kernel
theorem dX0_moveLeft_107 : decode cX0_moveLeft 107 = .ok (.iload 6, 2) := by decide +kernel
theorem dX0_moveLeft_109 : decode cX0_moveLeft 109 = .ok (.invokevirtual 98, 3) := by decide +kernel
theorem dX0_moveLeft_112 : decode cX0_moveLeft 112 = .ok (.istore 10, 2) := by decide +kernel
theorem dX0_moveLeft_114 : decode cX0_moveLeft 114 = .ok (.iload 6, 2) := by decide +kernel
theorem dX0_moveLeft_116 : decode cX0_moveLeft 116 = .ok (.iload_n 3, 1) := by decide +kernel
theorem dX0_moveLeft_117 : decode cX0_moveLeft 117 = .ok (.imul, 1) := by decide +kernel
theorem dX0_moveLeft_118 : decode cX0_moveLeft 118 = .ok (.iload_n 2, 1) := by decide +kernel
theorem dX0_moveLeft_119 : decode cX0_moveLeft 119 = .ok (.imul, 1) := by decide +kernel
theorem dX0_moveLeft_120 : decode cX0_moveLeft 120 = .ok (.iload 7, 2) := by decide +kernel
theorem dX0_moveLeft_122 : decode cX0_moveLeft 122 = .ok (.iload 4, 2) := by decide +kernel
theorem dX0_moveLeft_124 : decode cX0_moveLeft 124 = .ok (.imul, 1) := by decide +kernel
theorem dX0_moveLeft_125 : decode cX0_moveLeft 125 = .ok (.iadd, 1) := by decide +kernel
theorem dX0_moveLeft_126 : decode cX0_moveLeft 126 = .ok (.istore 11, 2) := by decide +kernel
theorem dX0_moveLeft_128 : decode cX0_moveLeft 128 = .ok (.iconst 0, 1) := by decide +kernel
theorem dX0_moveLeft_129 : decode cX0_moveLeft 129 = .ok (.istore 12, 2) := by decide +kernel
theorem dX0_moveLeft_131 : decode cX0_moveLeft 131 = .ok (.iload 12, 2) := by decide +kernel
theorem dX0_moveLeft_133 : decode cX0_moveLeft 133 = .ok (.aload_n 0, 1) := by decide +kernel
theorem dX0_moveLeft_134 : decode cX0_moveLeft 134 = .ok (.getfield 36, 3) := by decide +kernel
theorem dX0_moveLeft_137 : decode cX0_moveLeft 137 = .ok (.getfield 102, 3) := by decide +kernel
theorem dX0_moveLeft_140 : decode cX0_moveLeft 140 = .ok (.iload_n 1, 1) := by decide +kernel
theorem dX0_moveLeft_141 : decode cX0_moveLeft 141 = .ok (.iconst 1, 1) := by decide +kernel
theorem dX0_moveLeft_142 : decode cX0_moveLeft 142 = .ok (.isub, 1) := by decide +kernel
theorem dX0_moveLeft_143 : decode cX0_moveLeft 143 = .ok (.iaload, 1) := by decide +kernel
theorem dX0_moveLeft_144 : decode cX0_moveLeft 144 = .ok (.if_icmp .ge 47, 3) := by decide +kernel
theorem dX0_moveLeft_147 : decode cX0_moveLeft 147 = .ok (.iconst 0, 1) := by decide +kernel
theorem dX0_moveLeft_148 : decode cX0_moveLeft 148 = .ok (.istore 13, 2) := by decide +kernel
theorem dX0_moveLeft_150 : decode cX0_moveLeft 150 = .ok (.iload 13, 2) := by decide +kernel
theorem dX0_moveLeft_152 : decode cX0_moveLeft 152 = .ok (.iload 4, 2) := by decide +kernel
theorem dX0_moveLeft_154 : decode cX0_moveLeft 154 = .ok (.if_icmp .ge 31, 3) := by decide +kernel
theorem dX0_moveLeft_157 : decode cX0_moveLeft 157 = .ok (.aload_n 0, 1) := by decide +kernel
theorem dX0_moveLeft_158 : decode cX0_moveLeft 158 = .ok (.iload 12, 2) := by decide +kernel
theorem dX0_moveLeft_160 : decode cX0_moveLeft 160 = .ok (.iload 5, 2) := by decide +kernel
theorem dX0_moveLeft_162 : decode cX0_moveLeft 162 = .ok (.imul, 1) := by decide +kernel
theorem dX0_moveLeft_163 : decode cX0_moveLeft 163 = .ok (.iload 11, 2) := by decide +kernel
theorem dX0_moveLeft_165 : decode cX0_moveLeft 165 = .ok (.iadd, 1) := by decide +kernel
theorem dX0_moveLeft_166 : decode cX0_moveLeft 166 = .ok (.iload 13, 2) := by decide +kernel
theorem dX0_moveLeft_168 : decode cX0_moveLeft 168 = .ok (.iadd, 1) := by decide +kernel
theorem dX0_moveLeft_169 : decode cX0_moveLeft 169 = .ok (.iload_n 3, 1) := by decide +kernel
theorem dX0_moveLeft_170 : decode cX0_moveLeft 170 = .ok (.iload 8, 2) := by decide +kernel
theorem dX0_moveLeft_172 : decode cX0_moveLeft 172 = .ok (.iload 9, 2) := by decide +kernel
theorem dX0_moveLeft_174 : decode cX0_moveLeft 174 = .ok (.iload 10, 2) := by decide +kernel
theorem dX0_moveLeft_176 : decode cX0_moveLeft 176 = .ok (.invokevirtual 105, 3) := by decide +kernel
theorem dX0_moveLeft_179 : decode cX0_moveLeft 179 = .ok (.iinc 13 1, 3) := by decide +kernel
theorem dX0_moveLeft_182 : decode cX0_moveLeft 182 = .ok (.goto (-32), 3) := by decide +kernel
theorem dX0_moveLeft_185 : decode cX0_moveLeft 185 = .ok (.iinc 12 1, 3) := by decide +kernel
theorem dX0_moveLeft_188 : decode cX0_moveLeft 188 = .ok (.goto (-57), 3) := by decide +kernel
theorem dX0_moveLeft_191 : decode cX0_moveLeft 191 = .ok (.iinc 7 1, 3) := by decide +kernel
theorem dX0_moveLeft_194 : decode cX0_moveLeft 194 = .ok (.goto (-128), 3) := by decide +kernel
theorem dX0_moveLeft_197 : decode cX0_moveLeft 197 = .ok (.iinc 6 1, 3) := by decide +kernel
theorem dX0_moveLeft_200 : decode cX0_moveLeft 200 = .ok (.goto (-143), 3) := by decide +kernel
theorem dX0_moveLeft_203 : decode cX0_moveLeft 203 = .ok (.return_, 1) := by decide +kernel
set_option maxRecDepth 20000 in
theorem ggX0_mix_X0_sum : GoodIn wsX0_mix wsX0_sum := goodIn_r _ [7] (by decide +kernel) (by decide +kernel)
set_option maxRecDepth 20000 in
theorem gX0_mix_X0_sum : GoodIn wsX0_mix (va_wsS RX0 109 yX0_sum wsX0_sum) := goodIn_app (goodIn_of _ (by decide +kernel)) ggX0_mix_X0_sum
theorem dX0_mix_0 : decode cX0_mix 0 = .ok (.aload_n 0, 1) := by decide +kernel
theorem dX0_mix_1 : decode cX0_mix 1 = .ok (.getfield 36, 3) := by decide +kernel
theorem dX0_mix_4 : decode cX0_mix 4 = .ok (.getfield 95, 3) := by decide +kernel
theorem dX0_mix_7 : decode cX0_mix 7 = .ok (.iconst 3, 1) := by decide +kernel
theorem dX0_mix_8 : decode cX0_mix 8 = .ok (.if_icmp .ne 7, 3) := by decide +kernel
theorem dX0_mix_11 : decode cX0_mix 11 = .ok (.iconst 1, 1) := by decide +kernel
theorem dX0_mix_12 : decode cX0_mix 12 = .ok (.goto 4, 3) := by decide +kernel
theorem dX0_mix_15 : decode cX0_mix 15 = .ok (.iconst 0, 1) := by decide +kernel
theorem dX0_mix_16 : decode cX0_mix 16 = .ok (.istore 6, 2) := by decide +kernel
theorem dX0_mix_18 : decode cX0_mix 18 = .ok (.aload_n 0, 1) := by decide +kernel
theorem dX0_mix_19 : decode cX0_mix 19 = .ok (.getfield 19, 3) := by decide +kernel
theorem dX0_mix_22 : decode cX0_mix 22 = .ok (.iload_n 1, 1) := by decide +kernel
theorem dX0_mix_23 : decode cX0_mix 23 = .ok (.laload, 1) := by decide +kernel
theorem dX0_mix_24 : decode cX0_mix 24 = .ok (.lstore 7, 2) := by decide +kernel
theorem dX0_mix_26 : decode cX0_mix 26 = .ok (.aload_n 0, 1) := by decide +kernel
theorem dX0_mix_27 : decode cX0_mix 27 = .ok (.getfield 19, 3) := by decide +kernel
theorem dX0_mix_30 : decode cX0_mix 30 = .ok (.iload_n 1, 1) := by decide +kernel
theorem dX0_mix_31 : decode cX0_mix 31 = .ok (.iload_n 2, 1) := by decide +kernel
theorem dX0_mix_32 : decode cX0_mix 32 = .ok (.iadd, 1) := by decide +kernel
theorem dX0_mix_33 : decode cX0_mix 33 = .ok (.laload, 1) := by decide +kernel
theorem dX0_mix_34 : decode cX0_mix 34 = .ok (.lstore 9, 2) := by decide +kernel
theorem dX0_mix_36 : decode cX0_mix 36 = .ok (.iload 6, 2) := by decide +kernel
theorem dX0_mix_38 : decode cX0_mix 38 = .ok (.ifCond .eq 16, 3) := by decide +kernel
theorem dX0_mix_41 : decode cX0_mix 41 = .ok (.aload_n 0, 1) := by decide +kernel
theorem dX0_mix_42 : decode cX0_mix 42 = .ok (.getfield 19, 3) := by decide +kernel
theorem dX0_mix_45 : decode cX0_mix 45 = .ok (.iload_n 1, 1) := by decide +kernel
theorem dX0_mix_46 : decode cX0_mix 46 = .ok (.iconst 2, 1) := by decide +kernel
theorem dX0_mix_47 : decode cX0_mix 47 = .ok (.iload_n 2, 1) := by decide +kernel
theorem dX0_mix_48 : decode cX0_mix 48 = .ok (.imul, 1) := by decide +kernel
theorem dX0_mix_49 : decode cX0_mix 49 = .ok (.iadd, 1) := by decide +kernel
theorem dX0_mix_50 : decode cX0_mix 50 = .ok (.laload, 1) := by decide +kernel
theorem dX0_mix_51 : decode cX0_mix 51 = .ok (.goto 4, 3) := by decide +kernel
theorem dX0_mix_54 : decode cX0_mix 54 = .ok (.lconst 0, 1) := by decide +kernel
theorem dX0_mix_55 : decode cX0_mix 55 = .ok (.lstore 11, 2) := by decide +kernel
theorem dX0_mix_57 : decode cX0_mix 57 = .ok (.lload 7, 2) := by decide +kernel
theorem dX0_mix_59 : decode cX0_mix 59 = .ok (.lload 9, 2) := by decide +kernel
theorem dX0_mix_61 : decode cX0_mix 61 = .ok (.lor, 1) := by decide +kernel
theorem dX0_mix_62 : decode cX0_mix 62 = .ok (.lload 11, 2) := by decide +kernel
theorem dX0_mix_64 : decode cX0_mix 64 = .ok (.lor, 1) := by decide +kernel
theorem dX0_mix_65 : decode cX0_mix 65 = .ok (.lconst 0, 1) := by decide +kernel
theorem dX0_mix_66 : decode cX0_mix 66 = .ok (.lcmp, 1) := by decide +kernel
theorem dX0_mix_67 : decode cX0_mix 67 = .ok (.ifCond .ne 4, 3) := by decide +kernel
theorem dX0_mix_70 : decode cX0_mix 70 = .ok (.return_, 1) := by decide +kernel
theorem dX0_mix_71 : decode cX0_mix 71 = .ok (.aload_n 0, 1) := by decide +kernel
theorem dX0_mix_72 : decode cX0_mix 72 = .ok (.getfield 19, 3) := by decide +kernel
theorem dX0_mix_75 : decode cX0_mix 75 = .ok (.iload_n 1, 1) := by decide +kernel
theorem dX0_mix_76 : decode cX0_mix 76 = .ok (.iload_n 3, 1) := by decide +kernel
theorem dX0_mix_77 : decode cX0_mix 77 = .ok (.lload 7, 2) := by decide +kernel
theorem dX0_mix_79 : decode cX0_mix 79 = .ok (.lload 9, 2) := by decide +kernel
theorem dX0_mix_81 : decode cX0_mix 81 = .ok (.lload 11, 2) := by decide +kernel
theorem dX0_mix_83 : decode cX0_mix 83 = .ok (.invokestatic 109, 3) := by decide +kernel
theorem dX0_mix_86 : decode cX0_mix 86 = .ok (.lastore, 1) := by decide +kernel
theorem dX0_mix_87 : decode cX0_mix 87 = .ok (.aload_n 0, 1) := by decide +kernel
theorem dX0_mix_88 : decode cX0_mix 88 = .ok (.getfield 19, 3) := by decide +kernel
theorem dX0_mix_91 : decode cX0_mix 91 = .ok (.iload_n 1, 1) := by decide +kernel
theorem dX0_mix_92 : decode cX0_mix 92 = .ok (.iload_n 2, 1) := by decide +kernel
theorem dX0_mix_93 : decode cX0_mix 93 = .ok (.iadd, 1) := by decide +kernel
theorem dX0_mix_94 : decode cX0_mix 94 = .ok (.iload 4, 2) := by decide +kernel
theorem dX0_mix_96 : decode cX0_mix 96 = .ok (.lload 7, 2) := by decide +kernel
theorem dX0_mix_98 : decode cX0_mix 98 = .ok (.lload 9, 2) := by decide +kernel
theorem dX0_mix_100 : decode cX0_mix 100 = .ok (.lload 11, 2) := by decide +kernel
theorem dX0_mix_102 : decode cX0_mix 102 = .ok (.invokestatic 109, 3) := by decide +kernel
theorem dX0_mix_105 : decode cX0_mix 105 = .ok (.lastore, 1) := by decide +kernel
theorem dX0_mix_106 : decode cX0_mix 106 = .ok (.iload 6, 2) := by decide +kernel
theorem dX0_mix_108 : decode cX0_mix 108 = .ok (.ifCond .eq 24, 3) := by decide +kernel
theorem dX0_mix_111 : decode cX0_mix 111 = .ok (.aload_n 0, 1) := by decide +kernel
theorem dX0_mix_112 : decode cX0_mix 112 = .ok (.getfield 19, 3) := by decide +kernel
theorem dX0_mix_115 : decode cX0_mix 115 = .ok (.iload_n 1, 1) := by decide +kernel
theorem dX0_mix_116 : decode cX0_mix 116 = .ok (.iconst 2, 1) := by decide +kernel
theorem dX0_mix_117 : decode cX0_mix 117 = .ok (.iload_n 2, 1) := by decide +kernel
theorem dX0_mix_118 : decode cX0_mix 118 = .ok (.imul, 1) := by decide +kernel
theorem dX0_mix_119 : decode cX0_mix 119 = .ok (.iadd, 1) := by decide +kernel
theorem dX0_mix_120 : decode cX0_mix 120 = .ok (.iload 5, 2) := by decide +kernel
theorem dX0_mix_122 : decode cX0_mix 122 = .ok (.lload 7, 2) := by decide +kernel
theorem dX0_mix_124 : decode cX0_mix 124 = .ok (.lload 9, 2) := by decide +kernel
theorem dX0_mix_126 : decode cX0_mix 126 = .ok (.lload 11, 2) := by decide +kernel
theorem dX0_mix_128 : decode cX0_mix 128 = .ok (.invokestatic 109, 3) := by decide +kernel
theorem dX0_mix_131 : decode cX0_mix 131 = .ok (.lastore, 1) := by decide +kernel
theorem dX0_mix_132 : decode cX0_mix 132 = .ok (.return_, 1) := by decide +kernel
theorem dX0_sum_0 : decode cX0_sum 0 = .ok (.iload_n 0, 1) := by decide +kernel
theorem dX0_sum_1 : decode cX0_sum 1 = .ok (.iconst 1, 1) := by decide +kernel
theorem dX0_sum_2 : decode cX0_sum 2 = .ok (.iand, 1) := by decide +kernel
theorem dX0_sum_3 : decode cX0_sum 3 = .ok (.ifCond .eq 7, 3) := by decide +kernel
theorem dX0_sum_6 : decode cX0_sum 6 = .ok (.lload_n 1, 1) := by decide +kernel
theorem dX0_sum_7 : decode cX0_sum 7 = .ok (.goto 4, 3) := by decide +kernel
theorem dX0_sum_10 : decode cX0_sum 10 = .ok (.lconst 0, 1) := by decide +kernel
theorem dX0_sum_11 : decode cX0_sum 11 = .ok (.lstore 7, 2) := by decide +kernel
theorem dX0_sum_13 : decode cX0_sum 13 = .ok (.lload 7, 2) := by decide +kernel
theorem dX0_sum_15 : decode cX0_sum 15 = .ok (.iload_n 0, 1) := by decide +kernel
theorem dX0_sum_16 : decode cX0_sum 16 = .ok (.iconst 2, 1) := by decide +kernel
theorem dX0_sum_17 : decode cX0_sum 17 = .ok (.iand, 1) := by decide +kernel
theorem dX0_sum_18 : decode cX0_sum 18 = .ok (.ifCond .eq 7, 3) := by decide +kernel
theorem dX0_sum_21 : decode cX0_sum 21 = .ok (.lload_n 3, 1) := by decide +kernel
theorem dX0_sum_22 : decode cX0_sum 22 = .ok (.goto 4, 3) := by decide +kernel
theorem dX0_sum_25 : decode cX0_sum 25 = .ok (.lconst 0, 1) := by decide +kernel
theorem dX0_sum_26 : decode cX0_sum 26 = .ok (.ladd, 1) := by decide +kernel
theorem dX0_sum_27 : decode cX0_sum 27 = .ok (.lstore 7, 2) := by decide +kernel
theorem dX0_sum_29 : decode cX0_sum 29 = .ok (.lload 7, 2) := by decide +kernel
theorem dX0_sum_31 : decode cX0_sum 31 = .ok (.iload_n 0, 1) := by decide +kernel
theorem dX0_sum_32 : decode cX0_sum 32 = .ok (.iconst 4, 1) := by decide +kernel
theorem dX0_sum_33 : decode cX0_sum 33 = .ok (.iand, 1) := by decide +kernel
theorem dX0_sum_34 : decode cX0_sum 34 = .ok (.ifCond .eq 8, 3) := by decide +kernel
theorem dX0_sum_37 : decode cX0_sum 37 = .ok (.lload 5, 2) := by decide +kernel
theorem dX0_sum_39 : decode cX0_sum 39 = .ok (.goto 4, 3) := by decide +kernel
theorem dX0_sum_42 : decode cX0_sum 42 = .ok (.lconst 0, 1) := by decide +kernel
theorem dX0_sum_43 : decode cX0_sum 43 = .ok (.ladd, 1) := by decide +kernel
theorem dX0_sum_44 : decode cX0_sum 44 = .ok (.lreturn, 1) := by decide +kernel
set_option maxRecDepth 20000 in
theorem ggX0_openLeft_X0_isWished : GoodIn wsX0_openLeft wsX0_isWished := goodIn_r _ [11, 1, 12, 13, 14, 15, 16, 17, 18, 19, 20, 27, 28, 29, 30, 31, 32, 33, 34, 35, 36, 37, 38, 39] (by decide +kernel) (by decide +kernel)
set_option maxRecDepth 20000 in
theorem gX0_openLeft_X0_isWished : GoodIn wsX0_openLeft (wsV RX0 62 RX0 yX0_isWished wsX0_isWished) := goodIn_app (goodIn_of _ (by decide +kernel)) ggX0_openLeft_X0_isWished
set_option maxRecDepth 20000 in
theorem ggX0_openLeft_X2_colour : GoodIn wsX0_openLeft wsX2_colour := goodIn_r _ [18, 19, 20, 34, 35, 36, 37, 38, 39] (by decide +kernel) (by decide +kernel)
set_option maxRecDepth 20000 in
theorem gX0_openLeft_X2_colour : GoodIn wsX0_openLeft (wsV RX0 91 RX2 yX2_colour wsX2_colour) := goodIn_app (goodIn_of _ (by decide +kernel)) ggX0_openLeft_X2_colour
set_option maxRecDepth 20000 in
theorem ggX0_openLeft_X3_corners : GoodIn wsX0_openLeft wsX3_corners := goodIn_r _ [25, 26, 40] (by decide +kernel) (by decide +kernel)
set_option maxRecDepth 20000 in
theorem gX0_openLeft_X3_corners : GoodIn wsX0_openLeft (wsV RX0 98 RX3 yX3_corners wsX3_corners) := goodIn_app (goodIn_of _ (by decide +kernel)) ggX0_openLeft_X3_corners
theorem dX0_openLeft_0 : decode cX0_openLeft 0 = .ok (.iconst 0, 1) := by decide +kernel
theorem dX0_openLeft_1 : decode cX0_openLeft 1 = .ok (.istore_n 2, 1) := by decide +kernel
theorem dX0_openLeft_2 : decode cX0_openLeft 2 = .ok (.iload_n 2, 1) := by decide +kernel
theorem dX0_openLeft_3 : decode cX0_openLeft 3 = .ok (.aload_n 0, 1) := by decide +kernel
theorem dX0_openLeft_4 : decode cX0_openLeft 4 = .ok (.getfield 36, 3) := by decide +kernel
theorem dX0_openLeft_7 : decode cX0_openLeft 7 = .ok (.getfield 59, 3) := by decide +kernel
theorem dX0_openLeft_10 : decode cX0_openLeft 10 = .ok (.if_icmp .ge 104, 3) := by decide +kernel
theorem dX0_openLeft_13 : decode cX0_openLeft 13 = .ok (.lconst 0, 1) := by decide +kernel
theorem dX0_openLeft_14 : decode cX0_openLeft 14 = .ok (.lstore_n 3, 1) := by decide +kernel
theorem dX0_openLeft_15 : decode cX0_openLeft 15 = .ok (.aload_n 0, 1) := by decide +kernel
theorem dX0_openLeft_16 : decode cX0_openLeft 16 = .ok (.iload_n 1, 1) := by decide +kernel
theorem dX0_openLeft_17 : decode cX0_openLeft 17 = .ok (.iload_n 2, 1) := by decide +kernel
theorem dX0_openLeft_18 : decode cX0_openLeft 18 = .ok (.invokevirtual 62, 3) := by decide +kernel
theorem dX0_openLeft_21 : decode cX0_openLeft 21 = .ok (.ifCond .eq 74, 3) := by decide +kernel
theorem dX0_openLeft_24 : decode cX0_openLeft 24 = .ok (.aload_n 0, 1) := by decide +kernel
theorem dX0_openLeft_25 : decode cX0_openLeft 25 = .ok (.getfield 32, 3) := by decide +kernel
theorem dX0_openLeft_28 : decode cX0_openLeft 28 = .ok (.iconst 3, 1) := by decide +kernel
theorem dX0_openLeft_29 : decode cX0_openLeft 29 = .ok (.aload_n 0, 1) := by decide +kernel
theorem dX0_openLeft_30 : decode cX0_openLeft 30 = .ok (.getfield 36, 3) := by decide +kernel
theorem dX0_openLeft_33 : decode cX0_openLeft 33 = .ok (.iload_n 2, 1) := by decide +kernel
theorem dX0_openLeft_34 : decode cX0_openLeft 34 = .ok (.iconst 0, 1) := by decide +kernel
theorem dX0_openLeft_35 : decode cX0_openLeft 35 = .ok (.invokevirtual 91, 3) := by decide +kernel
theorem dX0_openLeft_38 : decode cX0_openLeft 38 = .ok (.iconst 3, 1) := by decide +kernel
theorem dX0_openLeft_39 : decode cX0_openLeft 39 = .ok (.invokevirtual 98, 3) := by decide +kernel
theorem dX0_openLeft_42 : decode cX0_openLeft 42 = .ok (.istore 5, 2) := by decide +kernel
theorem dX0_openLeft_44 : decode cX0_openLeft 44 = .ok (.iconst 0, 1) := by decide +kernel
theorem dX0_openLeft_45 : decode cX0_openLeft 45 = .ok (.istore 6, 2) := by decide +kernel
theorem dX0_openLeft_47 : decode cX0_openLeft 47 = .ok (.iload 6, 2) := by decide +kernel
theorem dX0_openLeft_49 : decode cX0_openLeft 49 = .ok (.aload_n 0, 1) := by decide +kernel
theorem dX0_openLeft_50 : decode cX0_openLeft 50 = .ok (.getfield 36, 3) := by decide +kernel
theorem dX0_openLeft_53 : decode cX0_openLeft 53 = .ok (.getfield 95, 3) := by decide +kernel
theorem dX0_openLeft_56 : decode cX0_openLeft 56 = .ok (.if_icmp .ge 39, 3) := by decide +kernel
theorem dX0_openLeft_59 : decode cX0_openLeft 59 = .ok (.iload 5, 2) := by decide +kernel
theorem dX0_openLeft_61 : decode cX0_openLeft 61 = .ok (.iload 6, 2) := by decide +kernel
theorem dX0_openLeft_63 : decode cX0_openLeft 63 = .ok (.ishr, 1) := by decide +kernel
theorem dX0_openLeft_64 : decode cX0_openLeft 64 = .ok (.iconst 1, 1) := by decide +kernel
theorem dX0_openLeft_65 : decode cX0_openLeft 65 = .ok (.iand, 1) := by decide +kernel
theorem dX0_openLeft_66 : decode cX0_openLeft 66 = .ok (.ifCond .eq 23, 3) := by decide +kernel
theorem dX0_openLeft_69 : decode cX0_openLeft 69 = .ok (.lload_n 3, 1) := by decide +kernel
theorem dX0_openLeft_70 : decode cX0_openLeft 70 = .ok (.aload_n 0, 1) := by decide +kernel
theorem dX0_openLeft_71 : decode cX0_openLeft 71 = .ok (.getfield 19, 3) := by decide +kernel
theorem dX0_openLeft_74 : decode cX0_openLeft 74 = .ok (.iload 6, 2) := by decide +kernel
theorem dX0_openLeft_76 : decode cX0_openLeft 76 = .ok (.aload_n 0, 1) := by decide +kernel
theorem dX0_openLeft_77 : decode cX0_openLeft 77 = .ok (.getfield 36, 3) := by decide +kernel
theorem dX0_openLeft_80 : decode cX0_openLeft 80 = .ok (.getfield 59, 3) := by decide +kernel
theorem dX0_openLeft_83 : decode cX0_openLeft 83 = .ok (.imul, 1) := by decide +kernel
theorem dX0_openLeft_84 : decode cX0_openLeft 84 = .ok (.iload_n 2, 1) := by decide +kernel
theorem dX0_openLeft_85 : decode cX0_openLeft 85 = .ok (.iadd, 1) := by decide +kernel
theorem dX0_openLeft_86 : decode cX0_openLeft 86 = .ok (.laload, 1) := by decide +kernel
theorem dX0_openLeft_87 : decode cX0_openLeft 87 = .ok (.ladd, 1) := by decide +kernel
theorem dX0_openLeft_88 : decode cX0_openLeft 88 = .ok (.lstore_n 3, 1) := by decide +kernel
theorem dX0_openLeft_89 : decode cX0_openLeft 89 = .ok (.iinc 6 1, 3) := by decide +kernel
theorem dX0_openLeft_92 : decode cX0_openLeft 92 = .ok (.goto (-45), 3) := by decide +kernel
theorem dX0_openLeft_95 : decode cX0_openLeft 95 = .ok (.aload_n 0, 1) := by decide +kernel
theorem dX0_openLeft_96 : decode cX0_openLeft 96 = .ok (.getfield 15, 3) := by decide +kernel
theorem dX0_openLeft_99 : decode cX0_openLeft 99 = .ok (.iload_n 1, 1) := by decide +kernel
theorem dX0_openLeft_100 : decode cX0_openLeft 100 = .ok (.sipush 243, 3) := by decide +kernel
theorem dX0_openLeft_103 : decode cX0_openLeft 103 = .ok (.imul, 1) := by decide +kernel
theorem dX0_openLeft_104 : decode cX0_openLeft 104 = .ok (.iload_n 2, 1) := by decide +kernel
theorem dX0_openLeft_105 : decode cX0_openLeft 105 = .ok (.iadd, 1) := by decide +kernel
theorem dX0_openLeft_106 : decode cX0_openLeft 106 = .ok (.lload_n 3, 1) := by decide +kernel
theorem dX0_openLeft_107 : decode cX0_openLeft 107 = .ok (.lastore, 1) := by decide +kernel
theorem dX0_openLeft_108 : decode cX0_openLeft 108 = .ok (.iinc 2 1, 3) := by decide +kernel
theorem dX0_openLeft_111 : decode cX0_openLeft 111 = .ok (.goto (-109), 3) := by decide +kernel
theorem dX0_openLeft_114 : decode cX0_openLeft 114 = .ok (.return_, 1) := by decide +kernel
set_option maxRecDepth 20000 in
theorem ggX0_total_X0_waysUnder : GoodIn wsX0_total wsX0_waysUnder := goodIn_r _ [8, 9, 10, 1, 11, 12, 13, 14, 15, 16, 17, 18, 19, 20, 21, 22, 23, 24, 25, 26, 27, 28, 29, 30, 31, 32] (by decide +kernel) (by decide +kernel)
set_option maxRecDepth 20000 in
theorem gX0_total_X0_waysUnder : GoodIn wsX0_total (wsV RX0 113 RX0 yX0_waysUnder wsX0_waysUnder) := goodIn_app (goodIn_of _ (by decide +kernel)) ggX0_total_X0_waysUnder
theorem dX0_total_0 : decode cX0_total 0 = .ok (.lconst 0, 1) := by decide +kernel
theorem dX0_total_1 : decode cX0_total 1 = .ok (.lstore_n 2, 1) := by decide +kernel
theorem dX0_total_2 : decode cX0_total 2 = .ok (.iconst 0, 1) := by decide +kernel
theorem dX0_total_3 : decode cX0_total 3 = .ok (.istore 4, 2) := by decide +kernel
theorem dX0_total_5 : decode cX0_total 5 = .ok (.iload 4, 2) := by decide +kernel
theorem dX0_total_7 : decode cX0_total 7 = .ok (.aload_n 0, 1) := by decide +kernel
theorem dX0_total_8 : decode cX0_total 8 = .ok (.getfield 36, 3) := by decide +kernel
theorem dX0_total_11 : decode cX0_total 11 = .ok (.getfield 59, 3) := by decide +kernel
theorem dX0_total_14 : decode cX0_total 14 = .ok (.if_icmp .ge 26, 3) := by decide +kernel
theorem dX0_total_17 : decode cX0_total 17 = .ok (.lload_n 2, 1) := by decide +kernel
theorem dX0_total_18 : decode cX0_total 18 = .ok (.aload_n 0, 1) := by decide +kernel
theorem dX0_total_19 : decode cX0_total 19 = .ok (.aload_n 0, 1) := by decide +kernel
theorem dX0_total_20 : decode cX0_total 20 = .ok (.getfield 36, 3) := by decide +kernel
theorem dX0_total_23 : decode cX0_total 23 = .ok (.getfield 69, 3) := by decide +kernel
theorem dX0_total_26 : decode cX0_total 26 = .ok (.iload_n 1, 1) := by decide +kernel
theorem dX0_total_27 : decode cX0_total 27 = .ok (.iload 4, 2) := by decide +kernel
theorem dX0_total_29 : decode cX0_total 29 = .ok (.invokevirtual 113, 3) := by decide +kernel
theorem dX0_total_32 : decode cX0_total 32 = .ok (.ladd, 1) := by decide +kernel
theorem dX0_total_33 : decode cX0_total 33 = .ok (.lstore_n 2, 1) := by decide +kernel
theorem dX0_total_34 : decode cX0_total 34 = .ok (.iinc 4 1, 3) := by decide +kernel
theorem dX0_total_37 : decode cX0_total 37 = .ok (.goto (-32), 3) := by decide +kernel
theorem dX0_total_40 : decode cX0_total 40 = .ok (.lload_n 2, 1) := by decide +kernel
theorem dX0_total_41 : decode cX0_total 41 = .ok (.lreturn, 1) := by decide +kernel
set_option maxRecDepth 20000 in
theorem ggX0_waysUnder_X3_joins : GoodIn wsX0_waysUnder wsX3_joins := goodIn_r _ [10, 11, 25] (by decide +kernel) (by decide +kernel)
set_option maxRecDepth 20000 in
theorem gX0_waysUnder_X3_joins : GoodIn wsX0_waysUnder (wsV RX0 75 RX3 yX3_joins wsX3_joins) := goodIn_app (goodIn_of _ (by decide +kernel)) ggX0_waysUnder_X3_joins
theorem dX0_waysUnder_0 : decode cX0_waysUnder 0 = .ok (.aload_n 0, 1) := by decide +kernel
theorem dX0_waysUnder_1 : decode cX0_waysUnder 1 = .ok (.getfield 15, 3) := by decide +kernel
theorem dX0_waysUnder_4 : decode cX0_waysUnder 4 = .ok (.iload_n 2, 1) := by decide +kernel
theorem dX0_waysUnder_5 : decode cX0_waysUnder 5 = .ok (.sipush 243, 3) := by decide +kernel
theorem dX0_waysUnder_8 : decode cX0_waysUnder 8 = .ok (.imul, 1) := by decide +kernel
theorem dX0_waysUnder_9 : decode cX0_waysUnder 9 = .ok (.iload_n 3, 1) := by decide +kernel
theorem dX0_waysUnder_10 : decode cX0_waysUnder 10 = .ok (.iadd, 1) := by decide +kernel
theorem dX0_waysUnder_11 : decode cX0_waysUnder 11 = .ok (.laload, 1) := by decide +kernel
theorem dX0_waysUnder_12 : decode cX0_waysUnder 12 = .ok (.lstore 4, 2) := by decide +kernel
theorem dX0_waysUnder_14 : decode cX0_waysUnder 14 = .ok (.lload 4, 2) := by decide +kernel
theorem dX0_waysUnder_16 : decode cX0_waysUnder 16 = .ok (.lconst 0, 1) := by decide +kernel
theorem dX0_waysUnder_17 : decode cX0_waysUnder 17 = .ok (.lcmp, 1) := by decide +kernel
theorem dX0_waysUnder_18 : decode cX0_waysUnder 18 = .ok (.ifCond .eq 35, 3) := by decide +kernel
theorem dX0_waysUnder_21 : decode cX0_waysUnder 21 = .ok (.aload_n 0, 1) := by decide +kernel
theorem dX0_waysUnder_22 : decode cX0_waysUnder 22 = .ok (.getfield 32, 3) := by decide +kernel
theorem dX0_waysUnder_25 : decode cX0_waysUnder 25 = .ok (.iload_n 1, 1) := by decide +kernel
theorem dX0_waysUnder_26 : decode cX0_waysUnder 26 = .ok (.aload_n 0, 1) := by decide +kernel
theorem dX0_waysUnder_27 : decode cX0_waysUnder 27 = .ok (.getfield 36, 3) := by decide +kernel
theorem dX0_waysUnder_30 : decode cX0_waysUnder 30 = .ok (.getfield 66, 3) := by decide +kernel
theorem dX0_waysUnder_33 : decode cX0_waysUnder 33 = .ok (.iload_n 3, 1) := by decide +kernel
theorem dX0_waysUnder_34 : decode cX0_waysUnder 34 = .ok (.iaload, 1) := by decide +kernel
theorem dX0_waysUnder_35 : decode cX0_waysUnder 35 = .ok (.aload_n 0, 1) := by decide +kernel
theorem dX0_waysUnder_36 : decode cX0_waysUnder 36 = .ok (.getfield 36, 3) := by decide +kernel
theorem dX0_waysUnder_39 : decode cX0_waysUnder 39 = .ok (.getfield 72, 3) := by decide +kernel
theorem dX0_waysUnder_42 : decode cX0_waysUnder 42 = .ok (.invokevirtual 75, 3) := by decide +kernel
theorem dX0_waysUnder_45 : decode cX0_waysUnder 45 = .ok (.ifCond .eq 8, 3) := by decide +kernel
theorem dX0_waysUnder_48 : decode cX0_waysUnder 48 = .ok (.lload 4, 2) := by decide +kernel
theorem dX0_waysUnder_50 : decode cX0_waysUnder 50 = .ok (.goto 4, 3) := by decide +kernel
theorem dX0_waysUnder_53 : decode cX0_waysUnder 53 = .ok (.lconst 0, 1) := by decide +kernel
theorem dX0_waysUnder_54 : decode cX0_waysUnder 54 = .ok (.lreturn, 1) := by decide +kernel
theorem dX0_above_0 : decode cX0_above 0 = .ok (.iload_n 1, 1) := by decide +kernel
theorem dX0_above_1 : decode cX0_above 1 = .ok (.ifCond .eq 15, 3) := by decide +kernel
theorem dX0_above_4 : decode cX0_above 4 = .ok (.aload_n 0, 1) := by decide +kernel
theorem dX0_above_5 : decode cX0_above 5 = .ok (.getfield 22, 3) := by decide +kernel
theorem dX0_above_8 : decode cX0_above 8 = .ok (.iload_n 1, 1) := by decide +kernel
theorem dX0_above_9 : decode cX0_above 9 = .ok (.iconst 1, 1) := by decide +kernel
theorem dX0_above_10 : decode cX0_above 10 = .ok (.isub, 1) := by decide +kernel
theorem dX0_above_11 : decode cX0_above 11 = .ok (.iaload, 1) := by decide +kernel
theorem dX0_above_12 : decode cX0_above 12 = .ok (.iconst (-1), 1) := by decide +kernel
theorem dX0_above_13 : decode cX0_above 13 = .ok (.if_icmp .ne 13, 3) := by decide +kernel
theorem dX0_above_16 : decode cX0_above 16 = .ok (.aload_n 0, 1) := by decide +kernel
theorem dX0_above_17 : decode cX0_above 17 = .ok (.getfield 36, 3) := by decide +kernel
theorem dX0_above_20 : decode cX0_above 20 = .ok (.getfield 69, 3) := by decide +kernel
theorem dX0_above_23 : decode cX0_above 23 = .ok (.goto 19, 3) := by decide +kernel
theorem dX0_above_26 : decode cX0_above 26 = .ok (.aload_n 0, 1) := by decide +kernel
theorem dX0_above_27 : decode cX0_above 27 = .ok (.getfield 36, 3) := by decide +kernel
theorem dX0_above_30 : decode cX0_above 30 = .ok (.getfield 66, 3) := by decide +kernel
theorem dX0_above_33 : decode cX0_above 33 = .ok (.aload_n 0, 1) := by decide +kernel
theorem dX0_above_34 : decode cX0_above 34 = .ok (.getfield 22, 3) := by decide +kernel
theorem dX0_above_37 : decode cX0_above 37 = .ok (.iload_n 1, 1) := by decide +kernel
theorem dX0_above_38 : decode cX0_above 38 = .ok (.iconst 1, 1) := by decide +kernel
theorem dX0_above_39 : decode cX0_above 39 = .ok (.isub, 1) := by decide +kernel
theorem dX0_above_40 : decode cX0_above 40 = .ok (.iaload, 1) := by decide +kernel
theorem dX0_above_41 : decode cX0_above 41 = .ok (.iaload, 1) := by decide +kernel
theorem dX0_above_42 : decode cX0_above 42 = .ok (.ireturn, 1) := by decide +kernel
set_option maxRecDepth 20000 in
theorem ggX0_show_X2_colour : GoodIn wsX0_show wsX2_colour := goodIn_r _ [10, 11, 12, 20, 21, 22, 23, 24, 25] (by decide +kernel) (by decide +kernel)
set_option maxRecDepth 20000 in
theorem gX0_show_X2_colour : GoodIn wsX0_show (wsV RX0 91 RX2 yX2_colour wsX2_colour) := goodIn_app (goodIn_of _ (by decide +kernel)) ggX0_show_X2_colour
theorem dX0_show_0 : decode cX0_show 0 = .ok (.aload_n 0, 1) := by decide +kernel
theorem dX0_show_1 : decode cX0_show 1 = .ok (.getfield 22, 3) := by decide +kernel
theorem dX0_show_4 : decode cX0_show 4 = .ok (.iload_n 1, 1) := by decide +kernel
theorem dX0_show_5 : decode cX0_show 5 = .ok (.iload_n 2, 1) := by decide +kernel
theorem dX0_show_6 : decode cX0_show 6 = .ok (.iastore, 1) := by decide +kernel
theorem dX0_show_7 : decode cX0_show 7 = .ok (.iconst 0, 1) := by decide +kernel
theorem dX0_show_8 : decode cX0_show 8 = .ok (.istore_n 3, 1) := by decide +kernel
theorem dX0_show_9 : decode cX0_show 9 = .ok (.iload_n 3, 1) := by decide +kernel
theorem dX0_show_10 : decode cX0_show 10 = .ok (.aload_n 0, 1) := by decide +kernel
theorem dX0_show_11 : decode cX0_show 11 = .ok (.getfield 36, 3) := by decide +kernel
theorem dX0_show_14 : decode cX0_show 14 = .ok (.getfield 72, 3) := by decide +kernel
theorem dX0_show_17 : decode cX0_show 17 = .ok (.if_icmp .ge 37, 3) := by decide +kernel
theorem dX0_show_20 : decode cX0_show 20 = .ok (.aload_n 0, 1) := by decide +kernel
theorem dX0_show_21 : decode cX0_show 21 = .ok (.getfield 28, 3) := by decide +kernel
theorem dX0_show_24 : decode cX0_show 24 = .ok (.getfield 117, 3) := by decide +kernel
theorem dX0_show_27 : decode cX0_show 27 = .ok (.aload_n 0, 1) := by decide +kernel
theorem dX0_show_28 : decode cX0_show 28 = .ok (.getfield 36, 3) := by decide +kernel
theorem dX0_show_31 : decode cX0_show 31 = .ok (.getfield 72, 3) := by decide +kernel
theorem dX0_show_34 : decode cX0_show 34 = .ok (.iload_n 1, 1) := by decide +kernel
theorem dX0_show_35 : decode cX0_show 35 = .ok (.imul, 1) := by decide +kernel
theorem dX0_show_36 : decode cX0_show 36 = .ok (.iload_n 3, 1) := by decide +kernel
theorem dX0_show_37 : decode cX0_show 37 = .ok (.iadd, 1) := by decide +kernel
theorem dX0_show_38 : decode cX0_show 38 = .ok (.aload_n 0, 1) := by decide +kernel
theorem dX0_show_39 : decode cX0_show 39 = .ok (.getfield 36, 3) := by decide +kernel
theorem dX0_show_42 : decode cX0_show 42 = .ok (.iload_n 2, 1) := by decide +kernel
theorem dX0_show_43 : decode cX0_show 43 = .ok (.iload_n 3, 1) := by decide +kernel
theorem dX0_show_44 : decode cX0_show 44 = .ok (.invokevirtual 91, 3) := by decide +kernel
theorem dX0_show_47 : decode cX0_show 47 = .ok (.iastore, 1) := by decide +kernel
theorem dX0_show_48 : decode cX0_show 48 = .ok (.iinc 3 1, 3) := by decide +kernel
theorem dX0_show_51 : decode cX0_show 51 = .ok (.goto (-42), 3) := by decide +kernel
theorem dX0_show_54 : decode cX0_show 54 = .ok (.return_, 1) := by decide +kernel
set_option maxRecDepth 20000 in
theorem ggX0_turnTo_X0_above : GoodIn wsX0_turnTo wsX0_above := goodIn_r _ [9, 10, 3, 11, 12, 38, 39, 40, 41, 42, 43, 44, 48, 49, 50, 51, 52, 53] (by decide +kernel) (by decide +kernel)
set_option maxRecDepth 20000 in
theorem gX0_turnTo_X0_above : GoodIn wsX0_turnTo (wsV RX0 120 RX0 yX0_above wsX0_above) := goodIn_app (goodIn_of _ (by decide +kernel)) ggX0_turnTo_X0_above
set_option maxRecDepth 20000 in
theorem ggX0_turnTo_X0_waysUnder : GoodIn wsX0_turnTo wsX0_waysUnder := goodIn_r _ [16, 17, 18, 3, 12, 19, 20, 21, 22, 23, 24, 25, 38, 39, 40, 41, 42, 43, 44, 48, 49, 50, 51, 52, 53, 54] (by decide +kernel) (by decide +kernel)
set_option maxRecDepth 20000 in
theorem gX0_turnTo_X0_waysUnder : GoodIn wsX0_turnTo (wsV RX0 113 RX0 yX0_waysUnder wsX0_waysUnder) := goodIn_app (goodIn_of _ (by decide +kernel)) ggX0_turnTo_X0_waysUnder
set_option maxRecDepth 20000 in
theorem ggX0_turnTo_X0_show : GoodIn wsX0_turnTo wsX0_show := goodIn_r _ [29, 10, 3, 19, 1, 30, 31, 32, 33, 34, 35, 36, 37, 38, 39, 40, 41, 42, 43, 44, 48, 49, 50, 51, 52, 53, 45, 46, 47] (by decide +kernel) (by decide +kernel)
set_option maxRecDepth 20000 in
theorem gX0_turnTo_X0_show : GoodIn wsX0_turnTo (wsV RX0 124 RX0 yX0_show wsX0_show) := goodIn_app (goodIn_of _ (by decide +kernel)) ggX0_turnTo_X0_show
theorem dX0_turnTo_0 : decode cX0_turnTo 0 = .ok (.lload_n 1, 1) := by decide +kernel
theorem dX0_turnTo_1 : decode cX0_turnTo 1 = .ok (.lstore_n 3, 1) := by decide +kernel
theorem dX0_turnTo_2 : decode cX0_turnTo 2 = .ok (.iconst 0, 1) := by decide +kernel
theorem dX0_turnTo_3 : decode cX0_turnTo 3 = .ok (.istore 5, 2) := by decide +kernel
theorem dX0_turnTo_5 : decode cX0_turnTo 5 = .ok (.iload 5, 2) := by decide +kernel
theorem dX0_turnTo_7 : decode cX0_turnTo 7 = .ok (.aload_n 0, 1) := by decide +kernel
theorem dX0_turnTo_8 : decode cX0_turnTo 8 = .ok (.getfield 28, 3) := by decide +kernel
theorem dX0_turnTo_11 : decode cX0_turnTo 11 = .ok (.getfield 55, 3) := by decide +kernel
theorem dX0_turnTo_14 : decode cX0_turnTo 14 = .ok (.if_icmp .ge 100, 3) := by decide +kernel
theorem dX0_turnTo_17 : decode cX0_turnTo 17 = .ok (.aload_n 0, 1) := by decide +kernel
theorem dX0_turnTo_18 : decode cX0_turnTo 18 = .ok (.iload 5, 2) := by decide +kernel
theorem dX0_turnTo_20 : decode cX0_turnTo 20 = .ok (.invokevirtual 120, 3) := by decide +kernel
theorem dX0_turnTo_23 : decode cX0_turnTo 23 = .ok (.istore 6, 2) := by decide +kernel
theorem dX0_turnTo_25 : decode cX0_turnTo 25 = .ok (.iconst 0, 1) := by decide +kernel
theorem dX0_turnTo_26 : decode cX0_turnTo 26 = .ok (.istore 7, 2) := by decide +kernel
theorem dX0_turnTo_28 : decode cX0_turnTo 28 = .ok (.iconst 0, 1) := by decide +kernel
theorem dX0_turnTo_29 : decode cX0_turnTo 29 = .ok (.istore 8, 2) := by decide +kernel
theorem dX0_turnTo_31 : decode cX0_turnTo 31 = .ok (.iload 8, 2) := by decide +kernel
theorem dX0_turnTo_33 : decode cX0_turnTo 33 = .ok (.aload_n 0, 1) := by decide +kernel
theorem dX0_turnTo_34 : decode cX0_turnTo 34 = .ok (.getfield 36, 3) := by decide +kernel
theorem dX0_turnTo_37 : decode cX0_turnTo 37 = .ok (.getfield 59, 3) := by decide +kernel
theorem dX0_turnTo_40 : decode cX0_turnTo 40 = .ok (.if_icmp .ge 61, 3) := by decide +kernel
theorem dX0_turnTo_43 : decode cX0_turnTo 43 = .ok (.iload 7, 2) := by decide +kernel
theorem dX0_turnTo_45 : decode cX0_turnTo 45 = .ok (.ifCond .ne 56, 3) := by decide +kernel
theorem dX0_turnTo_48 : decode cX0_turnTo 48 = .ok (.aload_n 0, 1) := by decide +kernel
theorem dX0_turnTo_49 : decode cX0_turnTo 49 = .ok (.iload 6, 2) := by decide +kernel
theorem dX0_turnTo_51 : decode cX0_turnTo 51 = .ok (.iload 5, 2) := by decide +kernel
theorem dX0_turnTo_53 : decode cX0_turnTo 53 = .ok (.iload 8, 2) := by decide +kernel
theorem dX0_turnTo_55 : decode cX0_turnTo 55 = .ok (.invokevirtual 113, 3) := by decide +kernel
theorem dX0_turnTo_58 : decode cX0_turnTo 58 = .ok (.lstore 9, 2) := by decide +kernel
theorem dX0_turnTo_60 : decode cX0_turnTo 60 = .ok (.lload_n 3, 1) := by decide +kernel
theorem dX0_turnTo_61 : decode cX0_turnTo 61 = .ok (.lload 9, 2) := by decide +kernel
theorem dX0_turnTo_63 : decode cX0_turnTo 63 = .ok (.lcmp, 1) := by decide +kernel
theorem dX0_turnTo_64 : decode cX0_turnTo 64 = .ok (.ifCond .ge 7, 3) := by decide +kernel
theorem dX0_turnTo_67 : decode cX0_turnTo 67 = .ok (.iconst 1, 1) := by decide +kernel
theorem dX0_turnTo_68 : decode cX0_turnTo 68 = .ok (.goto 4, 3) := by decide +kernel
theorem dX0_turnTo_71 : decode cX0_turnTo 71 = .ok (.iconst 0, 1) := by decide +kernel
theorem dX0_turnTo_72 : decode cX0_turnTo 72 = .ok (.istore 7, 2) := by decide +kernel
theorem dX0_turnTo_74 : decode cX0_turnTo 74 = .ok (.iload 7, 2) := by decide +kernel
theorem dX0_turnTo_76 : decode cX0_turnTo 76 = .ok (.ifCond .eq 14, 3) := by decide +kernel
theorem dX0_turnTo_79 : decode cX0_turnTo 79 = .ok (.aload_n 0, 1) := by decide +kernel
theorem dX0_turnTo_80 : decode cX0_turnTo 80 = .ok (.iload 5, 2) := by decide +kernel
theorem dX0_turnTo_82 : decode cX0_turnTo 82 = .ok (.iload 8, 2) := by decide +kernel
theorem dX0_turnTo_84 : decode cX0_turnTo 84 = .ok (.invokevirtual 124, 3) := by decide +kernel
theorem dX0_turnTo_87 : decode cX0_turnTo 87 = .ok (.goto 8, 3) := by decide +kernel
theorem dX0_turnTo_90 : decode cX0_turnTo 90 = .ok (.lload_n 3, 1) := by decide +kernel
theorem dX0_turnTo_91 : decode cX0_turnTo 91 = .ok (.lload 9, 2) := by decide +kernel
theorem dX0_turnTo_93 : decode cX0_turnTo 93 = .ok (.lsub, 1) := by decide +kernel
theorem dX0_turnTo_94 : decode cX0_turnTo 94 = .ok (.lstore_n 3, 1) := by decide +kernel
theorem dX0_turnTo_95 : decode cX0_turnTo 95 = .ok (.iinc 8 1, 3) := by decide +kernel
theorem dX0_turnTo_98 : decode cX0_turnTo 98 = .ok (.goto (-67), 3) := by decide +kernel
theorem dX0_turnTo_101 : decode cX0_turnTo 101 = .ok (.iload 7, 2) := by decide +kernel
theorem dX0_turnTo_103 : decode cX0_turnTo 103 = .ok (.ifCond .ne 5, 3) := by decide +kernel
theorem dX0_turnTo_106 : decode cX0_turnTo 106 = .ok (.iconst 0, 1) := by decide +kernel
theorem dX0_turnTo_107 : decode cX0_turnTo 107 = .ok (.ireturn, 1) := by decide +kernel
theorem dX0_turnTo_108 : decode cX0_turnTo 108 = .ok (.iinc 5 1, 3) := by decide +kernel
theorem dX0_turnTo_111 : decode cX0_turnTo 111 = .ok (.goto (-106), 3) := by decide +kernel
theorem dX0_turnTo_114 : decode cX0_turnTo 114 = .ok (.iconst 1, 1) := by decide +kernel
theorem dX0_turnTo_115 : decode cX0_turnTo 115 = .ok (.ireturn, 1) := by decide +kernel
set_option maxRecDepth 20000 in
theorem ggX0_before_X2_numberOf : GoodIn wsX0_before wsX2_numberOf := goodIn_r _ [10, 11, 12, 13, 14, 15, 16, 17, 18, 19, 20, 42, 43, 44, 45, 46, 47, 48, 49, 50] (by decide +kernel) (by decide +kernel)
set_option maxRecDepth 20000 in
theorem gX0_before_X2_numberOf : GoodIn wsX0_before (wsV RX0 127 RX2 yX2_numberOf wsX2_numberOf) := goodIn_app (goodIn_of _ (by decide +kernel)) ggX0_before_X2_numberOf
set_option maxRecDepth 20000 in
theorem ggX0_before_X0_waysUnder : GoodIn wsX0_before wsX0_waysUnder := goodIn_r _ [25, 26, 27, 1, 5, 28, 29, 30, 31, 32, 33, 34, 35, 36, 37, 38, 39, 40, 41, 42, 43, 44, 45, 46, 47, 51] (by decide +kernel) (by decide +kernel)
set_option maxRecDepth 20000 in
theorem gX0_before_X0_waysUnder : GoodIn wsX0_before (wsV RX0 113 RX0 yX0_waysUnder wsX0_waysUnder) := goodIn_app (goodIn_of _ (by decide +kernel)) ggX0_before_X0_waysUnder
theorem dX0_before_0 : decode cX0_before 0 = .ok (.lconst 0, 1) := by decide +kernel
theorem dX0_before_1 : decode cX0_before 1 = .ok (.lstore_n 2, 1) := by decide +kernel
theorem dX0_before_2 : decode cX0_before 2 = .ok (.aload_n 0, 1) := by decide +kernel
theorem dX0_before_3 : decode cX0_before 3 = .ok (.getfield 36, 3) := by decide +kernel
theorem dX0_before_6 : decode cX0_before 6 = .ok (.getfield 69, 3) := by decide +kernel
theorem dX0_before_9 : decode cX0_before 9 = .ok (.istore 4, 2) := by decide +kernel
theorem dX0_before_11 : decode cX0_before 11 = .ok (.iconst 0, 1) := by decide +kernel
theorem dX0_before_12 : decode cX0_before 12 = .ok (.istore 5, 2) := by decide +kernel
theorem dX0_before_14 : decode cX0_before 14 = .ok (.iload 5, 2) := by decide +kernel
theorem dX0_before_16 : decode cX0_before 16 = .ok (.aload_n 0, 1) := by decide +kernel
theorem dX0_before_17 : decode cX0_before 17 = .ok (.getfield 28, 3) := by decide +kernel
theorem dX0_before_20 : decode cX0_before 20 = .ok (.getfield 55, 3) := by decide +kernel
theorem dX0_before_23 : decode cX0_before 23 = .ok (.if_icmp .ge 62, 3) := by decide +kernel
theorem dX0_before_26 : decode cX0_before 26 = .ok (.aload_n 0, 1) := by decide +kernel
theorem dX0_before_27 : decode cX0_before 27 = .ok (.getfield 36, 3) := by decide +kernel
theorem dX0_before_30 : decode cX0_before 30 = .ok (.aload_n 1, 1) := by decide +kernel
theorem dX0_before_31 : decode cX0_before 31 = .ok (.iload 5, 2) := by decide +kernel
theorem dX0_before_33 : decode cX0_before 33 = .ok (.invokevirtual 127, 3) := by decide +kernel
theorem dX0_before_36 : decode cX0_before 36 = .ok (.istore 6, 2) := by decide +kernel
theorem dX0_before_38 : decode cX0_before 38 = .ok (.iconst 0, 1) := by decide +kernel
theorem dX0_before_39 : decode cX0_before 39 = .ok (.istore 7, 2) := by decide +kernel
theorem dX0_before_41 : decode cX0_before 41 = .ok (.iload 7, 2) := by decide +kernel
theorem dX0_before_43 : decode cX0_before 43 = .ok (.iload 6, 2) := by decide +kernel
theorem dX0_before_45 : decode cX0_before 45 = .ok (.if_icmp .ge 22, 3) := by decide +kernel
theorem dX0_before_48 : decode cX0_before 48 = .ok (.lload_n 2, 1) := by decide +kernel
theorem dX0_before_49 : decode cX0_before 49 = .ok (.aload_n 0, 1) := by decide +kernel
theorem dX0_before_50 : decode cX0_before 50 = .ok (.iload 4, 2) := by decide +kernel
theorem dX0_before_52 : decode cX0_before 52 = .ok (.iload 5, 2) := by decide +kernel
theorem dX0_before_54 : decode cX0_before 54 = .ok (.iload 7, 2) := by decide +kernel
theorem dX0_before_56 : decode cX0_before 56 = .ok (.invokevirtual 113, 3) := by decide +kernel
theorem dX0_before_59 : decode cX0_before 59 = .ok (.ladd, 1) := by decide +kernel
theorem dX0_before_60 : decode cX0_before 60 = .ok (.lstore_n 2, 1) := by decide +kernel
theorem dX0_before_61 : decode cX0_before 61 = .ok (.iinc 7 1, 3) := by decide +kernel
theorem dX0_before_64 : decode cX0_before 64 = .ok (.goto (-23), 3) := by decide +kernel
theorem dX0_before_67 : decode cX0_before 67 = .ok (.aload_n 0, 1) := by decide +kernel
theorem dX0_before_68 : decode cX0_before 68 = .ok (.getfield 36, 3) := by decide +kernel
theorem dX0_before_71 : decode cX0_before 71 = .ok (.getfield 66, 3) := by decide +kernel
theorem dX0_before_74 : decode cX0_before 74 = .ok (.iload 6, 2) := by decide +kernel
theorem dX0_before_76 : decode cX0_before 76 = .ok (.iaload, 1) := by decide +kernel
theorem dX0_before_77 : decode cX0_before 77 = .ok (.istore 4, 2) := by decide +kernel
theorem dX0_before_79 : decode cX0_before 79 = .ok (.iinc 5 1, 3) := by decide +kernel
theorem dX0_before_82 : decode cX0_before 82 = .ok (.goto (-68), 3) := by decide +kernel
theorem dX0_before_85 : decode cX0_before 85 = .ok (.lload_n 2, 1) := by decide +kernel
theorem dX0_before_86 : decode cX0_before 86 = .ok (.lreturn, 1) := by decide +kernel
set_option maxRecDepth 20000 in
theorem ggX0_begin_X0_advance : GoodIn wsX0_begin wsX0_advance := goodIn_r _ [6, 7, 8, 1, 9, 10, 11, 5, 12, 13, 14, 15, 16, 17, 18, 19, 20, 21, 22, 23, 24, 25, 26, 27, 28, 29, 30, 31, 32, 33, 34, 35, 36, 37, 38, 39, 40, 41, 42, 43, 44, 45, 46, 47, 48, 49, 50, 51, 52, 53, 54, 55, 56, 57, 58, 59, 60, 61, 62] (by decide +kernel) (by decide +kernel)
set_option maxRecDepth 20000 in
theorem gX0_begin_X0_advance : GoodIn wsX0_begin (wsV RX0 131 RX0 yX0_advance wsX0_advance) := goodIn_app (goodIn_of _ (by decide +kernel)) ggX0_begin_X0_advance
theorem dX0_begin_0 : decode cX0_begin 0 = .ok (.aload_n 0, 1) := by decide +kernel
theorem dX0_begin_1 : decode cX0_begin 1 = .ok (.getfield 22, 3) := by decide +kernel
theorem dX0_begin_4 : decode cX0_begin 4 = .ok (.iconst 0, 1) := by decide +kernel
theorem dX0_begin_5 : decode cX0_begin 5 = .ok (.iconst (-1), 1) := by decide +kernel
theorem dX0_begin_6 : decode cX0_begin 6 = .ok (.iastore, 1) := by decide +kernel
theorem dX0_begin_7 : decode cX0_begin 7 = .ok (.aload_n 0, 1) := by decide +kernel
theorem dX0_begin_8 : decode cX0_begin 8 = .ok (.iconst 0, 1) := by decide +kernel
theorem dX0_begin_9 : decode cX0_begin 9 = .ok (.invokevirtual 131, 3) := by decide +kernel
theorem dX0_begin_12 : decode cX0_begin 12 = .ok (.ireturn, 1) := by decide +kernel
set_option maxRecDepth 20000 in
theorem ggX0_advance_X0_nextRow : GoodIn wsX0_advance wsX0_nextRow := goodIn_r _ [8, 3, 9, 10, 11, 12, 13, 7, 14, 15, 16, 17, 18, 19, 20, 21, 22, 23, 24, 25, 26, 27, 28, 29, 42, 43, 44, 45, 46, 47, 48, 52, 53, 54, 55, 56, 57, 58] (by decide +kernel) (by decide +kernel)
set_option maxRecDepth 20000 in
theorem gX0_advance_X0_nextRow : GoodIn wsX0_advance (wsV RX0 135 RX0 yX0_nextRow wsX0_nextRow) := goodIn_app (goodIn_of _ (by decide +kernel)) ggX0_advance_X0_nextRow
set_option maxRecDepth 20000 in
theorem ggX0_advance_X0_show : GoodIn wsX0_advance wsX0_show := goodIn_r _ [33, 3, 9, 23, 1, 34, 35, 36, 37, 38, 39, 40, 41, 42, 43, 44, 45, 46, 47, 48, 52, 53, 54, 55, 56, 57, 49, 50, 51] (by decide +kernel) (by decide +kernel)
set_option maxRecDepth 20000 in
theorem gX0_advance_X0_show : GoodIn wsX0_advance (wsV RX0 124 RX0 yX0_show wsX0_show) := goodIn_app (goodIn_of _ (by decide +kernel)) ggX0_advance_X0_show
theorem dX0_advance_0 : decode cX0_advance 0 = .ok (.iload_n 1, 1) := by decide +kernel
theorem dX0_advance_1 : decode cX0_advance 1 = .ok (.iconst 1, 1) := by decide +kernel
theorem dX0_advance_2 : decode cX0_advance 2 = .ok (.iadd, 1) := by decide +kernel
theorem dX0_advance_3 : decode cX0_advance 3 = .ok (.istore_n 2, 1) := by decide +kernel
theorem dX0_advance_4 : decode cX0_advance 4 = .ok (.iload_n 2, 1) := by decide +kernel
theorem dX0_advance_5 : decode cX0_advance 5 = .ok (.aload_n 0, 1) := by decide +kernel
theorem dX0_advance_6 : decode cX0_advance 6 = .ok (.getfield 28, 3) := by decide +kernel
theorem dX0_advance_9 : decode cX0_advance 9 = .ok (.getfield 55, 3) := by decide +kernel
theorem dX0_advance_12 : decode cX0_advance 12 = .ok (.if_icmp .ge 16, 3) := by decide +kernel
theorem dX0_advance_15 : decode cX0_advance 15 = .ok (.aload_n 0, 1) := by decide +kernel
theorem dX0_advance_16 : decode cX0_advance 16 = .ok (.getfield 22, 3) := by decide +kernel
theorem dX0_advance_19 : decode cX0_advance 19 = .ok (.iload_n 2, 1) := by decide +kernel
theorem dX0_advance_20 : decode cX0_advance 20 = .ok (.iconst (-1), 1) := by decide +kernel
theorem dX0_advance_21 : decode cX0_advance 21 = .ok (.iastore, 1) := by decide +kernel
theorem dX0_advance_22 : decode cX0_advance 22 = .ok (.iinc 2 1, 3) := by decide +kernel
theorem dX0_advance_25 : decode cX0_advance 25 = .ok (.goto (-21), 3) := by decide +kernel
theorem dX0_advance_28 : decode cX0_advance 28 = .ok (.iload_n 1, 1) := by decide +kernel
theorem dX0_advance_29 : decode cX0_advance 29 = .ok (.istore_n 2, 1) := by decide +kernel
theorem dX0_advance_30 : decode cX0_advance 30 = .ok (.iconst 0, 1) := by decide +kernel
theorem dX0_advance_31 : decode cX0_advance 31 = .ok (.istore_n 3, 1) := by decide +kernel
theorem dX0_advance_32 : decode cX0_advance 32 = .ok (.iload_n 3, 1) := by decide +kernel
theorem dX0_advance_33 : decode cX0_advance 33 = .ok (.bipush 10, 2) := by decide +kernel
theorem dX0_advance_35 : decode cX0_advance 35 = .ok (.if_icmp .ge 60, 3) := by decide +kernel
theorem dX0_advance_38 : decode cX0_advance 38 = .ok (.iload_n 2, 1) := by decide +kernel
theorem dX0_advance_39 : decode cX0_advance 39 = .ok (.ifCond .lt 56, 3) := by decide +kernel
theorem dX0_advance_42 : decode cX0_advance 42 = .ok (.iload_n 2, 1) := by decide +kernel
theorem dX0_advance_43 : decode cX0_advance 43 = .ok (.aload_n 0, 1) := by decide +kernel
theorem dX0_advance_44 : decode cX0_advance 44 = .ok (.getfield 28, 3) := by decide +kernel
theorem dX0_advance_47 : decode cX0_advance 47 = .ok (.getfield 55, 3) := by decide +kernel
theorem dX0_advance_50 : decode cX0_advance 50 = .ok (.if_icmp .ge 45, 3) := by decide +kernel
theorem dX0_advance_53 : decode cX0_advance 53 = .ok (.aload_n 0, 1) := by decide +kernel
theorem dX0_advance_54 : decode cX0_advance 54 = .ok (.iload_n 2, 1) := by decide +kernel
theorem dX0_advance_55 : decode cX0_advance 55 = .ok (.invokevirtual 135, 3) := by decide +kernel
theorem dX0_advance_58 : decode cX0_advance 58 = .ok (.istore 4, 2) := by decide +kernel
theorem dX0_advance_60 : decode cX0_advance 60 = .ok (.iload 4, 2) := by decide +kernel
theorem dX0_advance_62 : decode cX0_advance 62 = .ok (.iconst (-1), 1) := by decide +kernel
theorem dX0_advance_63 : decode cX0_advance 63 = .ok (.if_icmp .ne 16, 3) := by decide +kernel
theorem dX0_advance_66 : decode cX0_advance 66 = .ok (.aload_n 0, 1) := by decide +kernel
theorem dX0_advance_67 : decode cX0_advance 67 = .ok (.getfield 22, 3) := by decide +kernel
theorem dX0_advance_70 : decode cX0_advance 70 = .ok (.iload_n 2, 1) := by decide +kernel
theorem dX0_advance_71 : decode cX0_advance 71 = .ok (.iconst (-1), 1) := by decide +kernel
theorem dX0_advance_72 : decode cX0_advance 72 = .ok (.iastore, 1) := by decide +kernel
theorem dX0_advance_73 : decode cX0_advance 73 = .ok (.iinc 2 (-1), 3) := by decide +kernel
theorem dX0_advance_76 : decode cX0_advance 76 = .ok (.goto 13, 3) := by decide +kernel
theorem dX0_advance_79 : decode cX0_advance 79 = .ok (.aload_n 0, 1) := by decide +kernel
theorem dX0_advance_80 : decode cX0_advance 80 = .ok (.iload_n 2, 1) := by decide +kernel
theorem dX0_advance_81 : decode cX0_advance 81 = .ok (.iload 4, 2) := by decide +kernel
theorem dX0_advance_83 : decode cX0_advance 83 = .ok (.invokevirtual 124, 3) := by decide +kernel
theorem dX0_advance_86 : decode cX0_advance 86 = .ok (.iinc 2 1, 3) := by decide +kernel
theorem dX0_advance_89 : decode cX0_advance 89 = .ok (.iinc 3 1, 3) := by decide +kernel
theorem dX0_advance_92 : decode cX0_advance 92 = .ok (.goto (-60), 3) := by decide +kernel
theorem dX0_advance_95 : decode cX0_advance 95 = .ok (.iload_n 2, 1) := by decide +kernel
theorem dX0_advance_96 : decode cX0_advance 96 = .ok (.aload_n 0, 1) := by decide +kernel
theorem dX0_advance_97 : decode cX0_advance 97 = .ok (.getfield 28, 3) := by decide +kernel
theorem dX0_advance_100 : decode cX0_advance 100 = .ok (.getfield 55, 3) := by decide +kernel
theorem dX0_advance_103 : decode cX0_advance 103 = .ok (.if_icmp .ne 7, 3) := by decide +kernel
theorem dX0_advance_106 : decode cX0_advance 106 = .ok (.iconst 1, 1) := by decide +kernel
theorem dX0_advance_107 : decode cX0_advance 107 = .ok (.goto 4, 3) := by decide +kernel
theorem dX0_advance_110 : decode cX0_advance 110 = .ok (.iconst 0, 1) := by decide +kernel
theorem dX0_advance_111 : decode cX0_advance 111 = .ok (.ireturn, 1) := by decide +kernel
set_option maxRecDepth 20000 in
theorem ggX0_nextRow_X0_above : GoodIn wsX0_nextRow wsX0_above := goodIn_r _ [8, 1, 2, 9, 10, 24, 25, 26, 27, 28, 29, 30, 31, 32, 33, 34, 35, 36] (by decide +kernel) (by decide +kernel)
set_option maxRecDepth 20000 in
theorem gX0_nextRow_X0_above : GoodIn wsX0_nextRow (wsV RX0 120 RX0 yX0_above wsX0_above) := goodIn_app (goodIn_of _ (by decide +kernel)) ggX0_nextRow_X0_above
set_option maxRecDepth 20000 in
theorem ggX0_nextRow_X0_waysUnder : GoodIn wsX0_nextRow wsX0_waysUnder := goodIn_r _ [14, 15, 16, 2, 10, 17, 18, 19, 20, 21, 22, 23, 24, 25, 26, 27, 28, 29, 30, 31, 32, 33, 34, 35, 36, 37] (by decide +kernel) (by decide +kernel)
set_option maxRecDepth 20000 in
theorem gX0_nextRow_X0_waysUnder : GoodIn wsX0_nextRow (wsV RX0 113 RX0 yX0_waysUnder wsX0_waysUnder) := goodIn_app (goodIn_of _ (by decide +kernel)) ggX0_nextRow_X0_waysUnder
theorem dX0_nextRow_0 : decode cX0_nextRow 0 = .ok (.aload_n 0, 1) := by decide +kernel
theorem dX0_nextRow_1 : decode cX0_nextRow 1 = .ok (.iload_n 1, 1) := by decide +kernel
theorem dX0_nextRow_2 : decode cX0_nextRow 2 = .ok (.invokevirtual 120, 3) := by decide +kernel
theorem dX0_nextRow_5 : decode cX0_nextRow 5 = .ok (.istore_n 2, 1) := by decide +kernel
theorem dX0_nextRow_6 : decode cX0_nextRow 6 = .ok (.aload_n 0, 1) := by decide +kernel
theorem dX0_nextRow_7 : decode cX0_nextRow 7 = .ok (.getfield 22, 3) := by decide +kernel
theorem dX0_nextRow_10 : decode cX0_nextRow 10 = .ok (.iload_n 1, 1) := by decide +kernel
theorem dX0_nextRow_11 : decode cX0_nextRow 11 = .ok (.iaload, 1) := by decide +kernel
theorem dX0_nextRow_12 : decode cX0_nextRow 12 = .ok (.iconst 1, 1) := by decide +kernel
theorem dX0_nextRow_13 : decode cX0_nextRow 13 = .ok (.iadd, 1) := by decide +kernel
theorem dX0_nextRow_14 : decode cX0_nextRow 14 = .ok (.istore_n 3, 1) := by decide +kernel
theorem dX0_nextRow_15 : decode cX0_nextRow 15 = .ok (.iload_n 3, 1) := by decide +kernel
theorem dX0_nextRow_16 : decode cX0_nextRow 16 = .ok (.aload_n 0, 1) := by decide +kernel
theorem dX0_nextRow_17 : decode cX0_nextRow 17 = .ok (.getfield 36, 3) := by decide +kernel
theorem dX0_nextRow_20 : decode cX0_nextRow 20 = .ok (.getfield 59, 3) := by decide +kernel
theorem dX0_nextRow_23 : decode cX0_nextRow 23 = .ok (.if_icmp .ge 23, 3) := by decide +kernel
theorem dX0_nextRow_26 : decode cX0_nextRow 26 = .ok (.aload_n 0, 1) := by decide +kernel
theorem dX0_nextRow_27 : decode cX0_nextRow 27 = .ok (.iload_n 2, 1) := by decide +kernel
theorem dX0_nextRow_28 : decode cX0_nextRow 28 = .ok (.iload_n 1, 1) := by decide +kernel
theorem dX0_nextRow_29 : decode cX0_nextRow 29 = .ok (.iload_n 3, 1) := by decide +kernel
theorem dX0_nextRow_30 : decode cX0_nextRow 30 = .ok (.invokevirtual 113, 3) := by decide +kernel
theorem dX0_nextRow_33 : decode cX0_nextRow 33 = .ok (.lconst 0, 1) := by decide +kernel
theorem dX0_nextRow_34 : decode cX0_nextRow 34 = .ok (.lcmp, 1) := by decide +kernel
theorem dX0_nextRow_35 : decode cX0_nextRow 35 = .ok (.ifCond .eq 5, 3) := by decide +kernel
theorem dX0_nextRow_38 : decode cX0_nextRow 38 = .ok (.iload_n 3, 1) := by decide +kernel
theorem dX0_nextRow_39 : decode cX0_nextRow 39 = .ok (.ireturn, 1) := by decide +kernel
theorem dX0_nextRow_40 : decode cX0_nextRow 40 = .ok (.iinc 3 1, 3) := by decide +kernel
theorem dX0_nextRow_43 : decode cX0_nextRow 43 = .ok (.goto (-28), 3) := by decide +kernel
theorem dX0_nextRow_46 : decode cX0_nextRow 46 = .ok (.iconst (-1), 1) := by decide +kernel
theorem dX0_nextRow_47 : decode cX0_nextRow 47 = .ok (.ireturn, 1) := by decide +kernel
theorem dX0_alikeDownTo_0 : decode cX0_alikeDownTo 0 = .ok (.aload_n 0, 1) := by decide +kernel
theorem dX0_alikeDownTo_1 : decode cX0_alikeDownTo 1 = .ok (.getfield 22, 3) := by decide +kernel
theorem dX0_alikeDownTo_4 : decode cX0_alikeDownTo 4 = .ok (.iload_n 1, 1) := by decide +kernel
theorem dX0_alikeDownTo_5 : decode cX0_alikeDownTo 5 = .ok (.iaload, 1) := by decide +kernel
theorem dX0_alikeDownTo_6 : decode cX0_alikeDownTo 6 = .ok (.iconst (-1), 1) := by decide +kernel
theorem dX0_alikeDownTo_7 : decode cX0_alikeDownTo 7 = .ok (.if_icmp .ne 7, 3) := by decide +kernel
theorem dX0_alikeDownTo_10 : decode cX0_alikeDownTo 10 = .ok (.lconst 0, 1) := by decide +kernel
theorem dX0_alikeDownTo_11 : decode cX0_alikeDownTo 11 = .ok (.goto 20, 3) := by decide +kernel
theorem dX0_alikeDownTo_14 : decode cX0_alikeDownTo 14 = .ok (.aload_n 0, 1) := by decide +kernel
theorem dX0_alikeDownTo_15 : decode cX0_alikeDownTo 15 = .ok (.getfield 15, 3) := by decide +kernel
theorem dX0_alikeDownTo_18 : decode cX0_alikeDownTo 18 = .ok (.iload_n 1, 1) := by decide +kernel
theorem dX0_alikeDownTo_19 : decode cX0_alikeDownTo 19 = .ok (.sipush 243, 3) := by decide +kernel
theorem dX0_alikeDownTo_22 : decode cX0_alikeDownTo 22 = .ok (.imul, 1) := by decide +kernel
theorem dX0_alikeDownTo_23 : decode cX0_alikeDownTo 23 = .ok (.aload_n 0, 1) := by decide +kernel
theorem dX0_alikeDownTo_24 : decode cX0_alikeDownTo 24 = .ok (.getfield 22, 3) := by decide +kernel
theorem dX0_alikeDownTo_27 : decode cX0_alikeDownTo 27 = .ok (.iload_n 1, 1) := by decide +kernel
theorem dX0_alikeDownTo_28 : decode cX0_alikeDownTo 28 = .ok (.iaload, 1) := by decide +kernel
theorem dX0_alikeDownTo_29 : decode cX0_alikeDownTo 29 = .ok (.iadd, 1) := by decide +kernel
theorem dX0_alikeDownTo_30 : decode cX0_alikeDownTo 30 = .ok (.laload, 1) := by decide +kernel
theorem dX0_alikeDownTo_31 : decode cX0_alikeDownTo 31 = .ok (.lreturn, 1) := by decide +kernel
theorem dX1_init_0 : decode cX1_init 0 = .ok (.aload_n 0, 1) := by decide +kernel
theorem dX1_init_1 : decode cX1_init 1 = .ok (.invokespecial 3, 3) := by decide +kernel
theorem dX1_init_4 : decode cX1_init 4 = .ok (.aload_n 0, 1) := by decide +kernel
theorem dX1_init_5 : decode cX1_init 5 = .ok (.sipush 300, 3) := by decide +kernel
theorem dX1_init_8 : decode cX1_init 8 = .ok (.newarray .int, 2) := by decide +kernel
theorem dX1_init_10 : decode cX1_init 10 = .ok (.putfield 9, 3) := by decide +kernel
theorem dX1_init_13 : decode cX1_init 13 = .ok (.aload_n 0, 1) := by decide +kernel
theorem dX1_init_14 : decode cX1_init 14 = .ok (.iconst 0, 1) := by decide +kernel
theorem dX1_init_15 : decode cX1_init 15 = .ok (.putfield 15, 3) := by decide +kernel
theorem dX1_init_18 : decode cX1_init 18 = .ok (.return_, 1) := by decide +kernel
theorem dX1_clear_0 : decode cX1_clear 0 = .ok (.aload_n 0, 1) := by decide +kernel
theorem dX1_clear_1 : decode cX1_clear 1 = .ok (.iconst 0, 1) := by decide +kernel
theorem dX1_clear_2 : decode cX1_clear 2 = .ok (.putfield 15, 3) := by decide +kernel
theorem dX1_clear_5 : decode cX1_clear 5 = .ok (.return_, 1) := by decide +kernel
set_option maxRecDepth 20000 in
theorem ggX1_tellApart_X4_size : GoodIn wsX1_tellApart wsX4_size := goodIn_r _ [8, 9, 10, 11, 12, 13] (by decide +kernel) (by decide +kernel)
set_option maxRecDepth 20000 in
theorem gX1_tellApart_X4_size : GoodIn wsX1_tellApart (wsV RX1 19 RX4 yX4_size wsX4_size) := goodIn_app (goodIn_of _ (by decide +kernel)) ggX1_tellApart_X4_size
theorem dX1_tellApart_0 : decode cX1_tellApart 0 = .ok (.iconst 0, 1) := by decide +kernel
theorem dX1_tellApart_1 : decode cX1_tellApart 1 = .ok (.istore_n 3, 1) := by decide +kernel
theorem dX1_tellApart_2 : decode cX1_tellApart 2 = .ok (.aload_n 1, 1) := by decide +kernel
theorem dX1_tellApart_3 : decode cX1_tellApart 3 = .ok (.invokevirtual 19, 3) := by decide +kernel
theorem dX1_tellApart_6 : decode cX1_tellApart 6 = .ok (.istore 4, 2) := by decide +kernel
theorem dX1_tellApart_8 : decode cX1_tellApart 8 = .ok (.iconst 0, 1) := by decide +kernel
theorem dX1_tellApart_9 : decode cX1_tellApart 9 = .ok (.istore 5, 2) := by decide +kernel
theorem dX1_tellApart_11 : decode cX1_tellApart 11 = .ok (.iload 5, 2) := by decide +kernel
theorem dX1_tellApart_13 : decode cX1_tellApart 13 = .ok (.iload 4, 2) := by decide +kernel
theorem dX1_tellApart_15 : decode cX1_tellApart 15 = .ok (.if_icmp .ge 33, 3) := by decide +kernel
theorem dX1_tellApart_18 : decode cX1_tellApart 18 = .ok (.aload_n 1, 1) := by decide +kernel
theorem dX1_tellApart_19 : decode cX1_tellApart 19 = .ok (.getfield 24, 3) := by decide +kernel
theorem dX1_tellApart_22 : decode cX1_tellApart 22 = .ok (.iload 5, 2) := by decide +kernel
theorem dX1_tellApart_24 : decode cX1_tellApart 24 = .ok (.iaload, 1) := by decide +kernel
theorem dX1_tellApart_25 : decode cX1_tellApart 25 = .ok (.aload_n 2, 1) := by decide +kernel
theorem dX1_tellApart_26 : decode cX1_tellApart 26 = .ok (.getfield 24, 3) := by decide +kernel
theorem dX1_tellApart_29 : decode cX1_tellApart 29 = .ok (.iload 5, 2) := by decide +kernel
theorem dX1_tellApart_31 : decode cX1_tellApart 31 = .ok (.iaload, 1) := by decide +kernel
theorem dX1_tellApart_32 : decode cX1_tellApart 32 = .ok (.if_icmp .eq 10, 3) := by decide +kernel
theorem dX1_tellApart_35 : decode cX1_tellApart 35 = .ok (.iload_n 3, 1) := by decide +kernel
theorem dX1_tellApart_36 : decode cX1_tellApart 36 = .ok (.iconst 1, 1) := by decide +kernel
theorem dX1_tellApart_37 : decode cX1_tellApart 37 = .ok (.iload 5, 2) := by decide +kernel
theorem dX1_tellApart_39 : decode cX1_tellApart 39 = .ok (.ishl, 1) := by decide +kernel
theorem dX1_tellApart_40 : decode cX1_tellApart 40 = .ok (.ior, 1) := by decide +kernel
theorem dX1_tellApart_41 : decode cX1_tellApart 41 = .ok (.istore_n 3, 1) := by decide +kernel
theorem dX1_tellApart_42 : decode cX1_tellApart 42 = .ok (.iinc 5 1, 3) := by decide +kernel
theorem dX1_tellApart_45 : decode cX1_tellApart 45 = .ok (.goto (-34), 3) := by decide +kernel
theorem dX1_tellApart_48 : decode cX1_tellApart 48 = .ok (.iload_n 3, 1) := by decide +kernel
theorem dX1_tellApart_49 : decode cX1_tellApart 49 = .ok (.ifCond .eq 33, 3) := by decide +kernel
theorem dX1_tellApart_52 : decode cX1_tellApart 52 = .ok (.aload_n 0, 1) := by decide +kernel
theorem dX1_tellApart_53 : decode cX1_tellApart 53 = .ok (.getfield 15, 3) := by decide +kernel
theorem dX1_tellApart_56 : decode cX1_tellApart 56 = .ok (.sipush 300, 3) := by decide +kernel
theorem dX1_tellApart_59 : decode cX1_tellApart 59 = .ok (.if_icmp .ge 23, 3) := by decide +kernel
theorem dX1_tellApart_62 : decode cX1_tellApart 62 = .ok (.aload_n 0, 1) := by decide +kernel
theorem dX1_tellApart_63 : decode cX1_tellApart 63 = .ok (.getfield 9, 3) := by decide +kernel
theorem dX1_tellApart_66 : decode cX1_tellApart 66 = .ok (.aload_n 0, 1) := by decide +kernel
theorem dX1_tellApart_67 : decode cX1_tellApart 67 = .ok (.getfield 15, 3) := by decide +kernel
theorem dX1_tellApart_70 : decode cX1_tellApart 70 = .ok (.iload_n 3, 1) := by decide +kernel
theorem dX1_tellApart_71 : decode cX1_tellApart 71 = .ok (.iastore, 1) := by decide +kernel
theorem dX1_tellApart_72 : decode cX1_tellApart 72 = .ok (.aload_n 0, 1) := by decide +kernel
theorem dX1_tellApart_73 : decode cX1_tellApart 73 = .ok (.dup, 1) := by decide +kernel
theorem dX1_tellApart_74 : decode cX1_tellApart 74 = .ok (.getfield 15, 3) := by decide +kernel
theorem dX1_tellApart_77 : decode cX1_tellApart 77 = .ok (.iconst 1, 1) := by decide +kernel
theorem dX1_tellApart_78 : decode cX1_tellApart 78 = .ok (.iadd, 1) := by decide +kernel
theorem dX1_tellApart_79 : decode cX1_tellApart 79 = .ok (.putfield 15, 3) := by decide +kernel
theorem dX1_tellApart_82 : decode cX1_tellApart 82 = .ok (.return_, 1) := by decide +kernel
set_option maxRecDepth 20000 in
theorem ggX1_fewest_J6_bitCount_0f7a4 : GoodIn wsX1_fewest wsJ6_bitCount_0f7a4 := goodIn_r _ [4, 5, 6, 7] (by decide +kernel) (by decide +kernel)
set_option maxRecDepth 20000 in
theorem gX1_fewest_J6_bitCount_0f7a4 : GoodIn wsX1_fewest (va_wsS RX1 27 yJ6_bitCount_0f7a4 wsJ6_bitCount_0f7a4) := goodIn_app (goodIn_of _ (by decide +kernel)) ggX1_fewest_J6_bitCount_0f7a4
set_option maxRecDepth 20000 in
theorem ggX1_fewest_X1_tells : GoodIn wsX1_fewest wsX1_tells := goodIn_r _ [12, 13, 14, 15, 16] (by decide +kernel) (by decide +kernel)
set_option maxRecDepth 20000 in
theorem gX1_fewest_X1_tells : GoodIn wsX1_fewest (wsV RX1 33 RX1 yX1_tells wsX1_tells) := goodIn_app (goodIn_of _ (by decide +kernel)) ggX1_fewest_X1_tells
theorem dX1_fewest_0 : decode cX1_fewest 0 = .ok (.iconst 1, 1) := by decide +kernel
theorem dX1_fewest_1 : decode cX1_fewest 1 = .ok (.iload_n 1, 1) := by decide +kernel
theorem dX1_fewest_2 : decode cX1_fewest 2 = .ok (.ishl, 1) := by decide +kernel
theorem dX1_fewest_3 : decode cX1_fewest 3 = .ok (.iconst 1, 1) := by decide +kernel
theorem dX1_fewest_4 : decode cX1_fewest 4 = .ok (.isub, 1) := by decide +kernel
theorem dX1_fewest_5 : decode cX1_fewest 5 = .ok (.istore_n 2, 1) := by decide +kernel
theorem dX1_fewest_6 : decode cX1_fewest 6 = .ok (.iconst 0, 1) := by decide +kernel
theorem dX1_fewest_7 : decode cX1_fewest 7 = .ok (.istore_n 3, 1) := by decide +kernel
theorem dX1_fewest_8 : decode cX1_fewest 8 = .ok (.iload_n 3, 1) := by decide +kernel
theorem dX1_fewest_9 : decode cX1_fewest 9 = .ok (.iconst 1, 1) := by decide +kernel
theorem dX1_fewest_10 : decode cX1_fewest 10 = .ok (.iload_n 1, 1) := by decide +kernel
theorem dX1_fewest_11 : decode cX1_fewest 11 = .ok (.ishl, 1) := by decide +kernel
theorem dX1_fewest_12 : decode cX1_fewest 12 = .ok (.if_icmp .ge 30, 3) := by decide +kernel
theorem dX1_fewest_15 : decode cX1_fewest 15 = .ok (.iload_n 3, 1) := by decide +kernel
theorem dX1_fewest_16 : decode cX1_fewest 16 = .ok (.invokestatic 27, 3) := by decide +kernel
theorem dX1_fewest_19 : decode cX1_fewest 19 = .ok (.iload_n 2, 1) := by decide +kernel
theorem dX1_fewest_20 : decode cX1_fewest 20 = .ok (.invokestatic 27, 3) := by decide +kernel
theorem dX1_fewest_23 : decode cX1_fewest 23 = .ok (.if_icmp .ge 13, 3) := by decide +kernel
theorem dX1_fewest_26 : decode cX1_fewest 26 = .ok (.aload_n 0, 1) := by decide +kernel
theorem dX1_fewest_27 : decode cX1_fewest 27 = .ok (.iload_n 3, 1) := by decide +kernel
theorem dX1_fewest_28 : decode cX1_fewest 28 = .ok (.invokevirtual 33, 3) := by decide +kernel
theorem dX1_fewest_31 : decode cX1_fewest 31 = .ok (.ifCond .eq 5, 3) := by decide +kernel
theorem dX1_fewest_34 : decode cX1_fewest 34 = .ok (.iload_n 3, 1) := by decide +kernel
theorem dX1_fewest_35 : decode cX1_fewest 35 = .ok (.istore_n 2, 1) := by decide +kernel
theorem dX1_fewest_36 : decode cX1_fewest 36 = .ok (.iinc 3 1, 3) := by decide +kernel
theorem dX1_fewest_39 : decode cX1_fewest 39 = .ok (.goto (-31), 3) := by decide +kernel
theorem dX1_fewest_42 : decode cX1_fewest 42 = .ok (.iload_n 2, 1) := by decide +kernel
theorem dX1_fewest_43 : decode cX1_fewest 43 = .ok (.ireturn, 1) := by decide +kernel
theorem dX1_tells_0 : decode cX1_tells 0 = .ok (.iconst 0, 1) := by decide +kernel
theorem dX1_tells_1 : decode cX1_tells 1 = .ok (.istore_n 2, 1) := by decide +kernel
theorem dX1_tells_2 : decode cX1_tells 2 = .ok (.iload_n 2, 1) := by decide +kernel
theorem dX1_tells_3 : decode cX1_tells 3 = .ok (.aload_n 0, 1) := by decide +kernel
theorem dX1_tells_4 : decode cX1_tells 4 = .ok (.getfield 15, 3) := by decide +kernel
theorem dX1_tells_7 : decode cX1_tells 7 = .ok (.if_icmp .ge 22, 3) := by decide +kernel
theorem dX1_tells_10 : decode cX1_tells 10 = .ok (.iload_n 1, 1) := by decide +kernel
theorem dX1_tells_11 : decode cX1_tells 11 = .ok (.aload_n 0, 1) := by decide +kernel
theorem dX1_tells_12 : decode cX1_tells 12 = .ok (.getfield 9, 3) := by decide +kernel
theorem dX1_tells_15 : decode cX1_tells 15 = .ok (.iload_n 2, 1) := by decide +kernel
theorem dX1_tells_16 : decode cX1_tells 16 = .ok (.iaload, 1) := by decide +kernel
theorem dX1_tells_17 : decode cX1_tells 17 = .ok (.iand, 1) := by decide +kernel
theorem dX1_tells_18 : decode cX1_tells 18 = .ok (.ifCond .ne 5, 3) := by decide +kernel
theorem dX1_tells_21 : decode cX1_tells 21 = .ok (.iconst 0, 1) := by decide +kernel
theorem dX1_tells_22 : decode cX1_tells 22 = .ok (.ireturn, 1) := by decide +kernel
theorem dX1_tells_23 : decode cX1_tells 23 = .ok (.iinc 2 1, 3) := by decide +kernel
theorem dX1_tells_26 : decode cX1_tells 26 = .ok (.goto (-24), 3) := by decide +kernel
theorem dX1_tells_29 : decode cX1_tells 29 = .ok (.iconst 1, 1) := by decide +kernel
theorem dX1_tells_30 : decode cX1_tells 30 = .ok (.ireturn, 1) := by decide +kernel
theorem dX2_init_0 : decode cX2_init 0 = .ok (.aload_n 0, 1) := by decide +kernel
theorem dX2_init_1 : decode cX2_init 1 = .ok (.invokespecial 3, 3) := by decide +kernel
theorem dX2_init_4 : decode cX2_init 4 = .ok (.aload_n 0, 1) := by decide +kernel
theorem dX2_init_5 : decode cX2_init 5 = .ok (.iconst 2, 1) := by decide +kernel
theorem dX2_init_6 : decode cX2_init 6 = .ok (.putfield 9, 3) := by decide +kernel
theorem dX2_init_9 : decode cX2_init 9 = .ok (.aload_n 0, 1) := by decide +kernel
theorem dX2_init_10 : decode cX2_init 10 = .ok (.iconst 1, 1) := by decide +kernel
theorem dX2_init_11 : decode cX2_init 11 = .ok (.putfield 15, 3) := by decide +kernel
theorem dX2_init_14 : decode cX2_init 14 = .ok (.aload_n 0, 1) := by decide +kernel
theorem dX2_init_15 : decode cX2_init 15 = .ok (.iconst 0, 1) := by decide +kernel
theorem dX2_init_16 : decode cX2_init 16 = .ok (.putfield 18, 3) := by decide +kernel
theorem dX2_init_19 : decode cX2_init 19 = .ok (.aload_n 0, 1) := by decide +kernel
theorem dX2_init_20 : decode cX2_init 20 = .ok (.iconst 0, 1) := by decide +kernel
theorem dX2_init_21 : decode cX2_init 21 = .ok (.putfield 21, 3) := by decide +kernel
theorem dX2_init_24 : decode cX2_init 24 = .ok (.aload_n 0, 1) := by decide +kernel
theorem dX2_init_25 : decode cX2_init 25 = .ok (.sipush 243, 3) := by decide +kernel
theorem dX2_init_28 : decode cX2_init 28 = .ok (.newarray .int, 2) := by decide +kernel
theorem dX2_init_30 : decode cX2_init 30 = .ok (.putfield 24, 3) := by decide +kernel
theorem dX2_init_33 : decode cX2_init 33 = .ok (.aload_n 0, 1) := by decide +kernel
theorem dX2_init_34 : decode cX2_init 34 = .ok (.bipush 7, 2) := by decide +kernel
theorem dX2_init_36 : decode cX2_init 36 = .ok (.newarray .int, 2) := by decide +kernel
theorem dX2_init_38 : decode cX2_init 38 = .ok (.putfield 28, 3) := by decide +kernel
theorem dX2_init_41 : decode cX2_init 41 = .ok (.return_, 1) := by decide +kernel
set_option maxRecDepth 20000 in
theorem ggX2_list_X2_addCell : GoodIn wsX2_list wsX2_addCell := goodIn_r _ [11, 4, 5, 1, 12, 13, 14, 15, 16, 17] (by decide +kernel) (by decide +kernel)
set_option maxRecDepth 20000 in
theorem gX2_list_X2_addCell : GoodIn wsX2_list (wsV RX2 31 RX2 yX2_addCell wsX2_addCell) := goodIn_app (goodIn_of _ (by decide +kernel)) ggX2_list_X2_addCell
theorem dX2_list_0 : decode cX2_list 0 = .ok (.aload_n 0, 1) := by decide +kernel
theorem dX2_list_1 : decode cX2_list 1 = .ok (.iload_n 1, 1) := by decide +kernel
theorem dX2_list_2 : decode cX2_list 2 = .ok (.putfield 9, 3) := by decide +kernel
theorem dX2_list_5 : decode cX2_list 5 = .ok (.aload_n 0, 1) := by decide +kernel
theorem dX2_list_6 : decode cX2_list 6 = .ok (.iload_n 2, 1) := by decide +kernel
theorem dX2_list_7 : decode cX2_list 7 = .ok (.putfield 15, 3) := by decide +kernel
theorem dX2_list_10 : decode cX2_list 10 = .ok (.aload_n 0, 1) := by decide +kernel
theorem dX2_list_11 : decode cX2_list 11 = .ok (.getfield 28, 3) := by decide +kernel
theorem dX2_list_14 : decode cX2_list 14 = .ok (.iconst 0, 1) := by decide +kernel
theorem dX2_list_15 : decode cX2_list 15 = .ok (.iconst 1, 1) := by decide +kernel
theorem dX2_list_16 : decode cX2_list 16 = .ok (.iastore, 1) := by decide +kernel
theorem dX2_list_17 : decode cX2_list 17 = .ok (.iconst 1, 1) := by decide +kernel
theorem dX2_list_18 : decode cX2_list 18 = .ok (.istore_n 3, 1) := by decide +kernel
theorem dX2_list_19 : decode cX2_list 19 = .ok (.iload_n 3, 1) := by decide +kernel
theorem dX2_list_20 : decode cX2_list 20 = .ok (.aload_n 0, 1) := by decide +kernel
theorem dX2_list_21 : decode cX2_list 21 = .ok (.getfield 28, 3) := by decide +kernel
theorem dX2_list_24 : decode cX2_list 24 = .ok (.arraylength, 1) := by decide +kernel
theorem dX2_list_25 : decode cX2_list 25 = .ok (.if_icmp .ge 28, 3) := by decide +kernel
theorem dX2_list_28 : decode cX2_list 28 = .ok (.aload_n 0, 1) := by decide +kernel
theorem dX2_list_29 : decode cX2_list 29 = .ok (.getfield 28, 3) := by decide +kernel
theorem dX2_list_32 : decode cX2_list 32 = .ok (.iload_n 3, 1) := by decide +kernel
theorem dX2_list_33 : decode cX2_list 33 = .ok (.aload_n 0, 1) := by decide +kernel
theorem dX2_list_34 : decode cX2_list 34 = .ok (.getfield 28, 3) := by decide +kernel
theorem dX2_list_37 : decode cX2_list 37 = .ok (.iload_n 3, 1) := by decide +kernel
theorem dX2_list_38 : decode cX2_list 38 = .ok (.iconst 1, 1) := by decide +kernel
theorem dX2_list_39 : decode cX2_list 39 = .ok (.isub, 1) := by decide +kernel
theorem dX2_list_40 : decode cX2_list 40 = .ok (.iaload, 1) := by decide +kernel
theorem dX2_list_41 : decode cX2_list 41 = .ok (.aload_n 0, 1) := by decide +kernel
theorem dX2_list_42 : decode cX2_list 42 = .ok (.getfield 9, 3) := by decide +kernel
theorem dX2_list_45 : decode cX2_list 45 = .ok (.imul, 1) := by decide +kernel
theorem dX2_list_46 : decode cX2_list 46 = .ok (.iastore, 1) := by decide +kernel
theorem dX2_list_47 : decode cX2_list 47 = .ok (.iinc 3 1, 3) := by decide +kernel
theorem dX2_list_50 : decode cX2_list 50 = .ok (.goto (-31), 3) := by decide +kernel
theorem dX2_list_53 : decode cX2_list 53 = .ok (.aload_n 0, 1) := by decide +kernel
theorem dX2_list_54 : decode cX2_list 54 = .ok (.iconst 1, 1) := by decide +kernel
theorem dX2_list_55 : decode cX2_list 55 = .ok (.putfield 18, 3) := by decide +kernel
theorem dX2_list_58 : decode cX2_list 58 = .ok (.aload_n 0, 1) := by decide +kernel
theorem dX2_list_59 : decode cX2_list 59 = .ok (.getfield 24, 3) := by decide +kernel
theorem dX2_list_62 : decode cX2_list 62 = .ok (.iconst 0, 1) := by decide +kernel
theorem dX2_list_63 : decode cX2_list 63 = .ok (.iconst 3, 1) := by decide +kernel
theorem dX2_list_64 : decode cX2_list 64 = .ok (.iastore, 1) := by decide +kernel
theorem dX2_list_65 : decode cX2_list 65 = .ok (.iconst 0, 1) := by decide +kernel
theorem dX2_list_66 : decode cX2_list 66 = .ok (.istore_n 3, 1) := by decide +kernel
theorem dX2_list_67 : decode cX2_list 67 = .ok (.iload_n 3, 1) := by decide +kernel
theorem dX2_list_68 : decode cX2_list 68 = .ok (.aload_n 0, 1) := by decide +kernel
theorem dX2_list_69 : decode cX2_list 69 = .ok (.getfield 15, 3) := by decide +kernel
theorem dX2_list_72 : decode cX2_list 72 = .ok (.if_icmp .ge 13, 3) := by decide +kernel
theorem dX2_list_75 : decode cX2_list 75 = .ok (.aload_n 0, 1) := by decide +kernel
theorem dX2_list_76 : decode cX2_list 76 = .ok (.invokevirtual 31, 3) := by decide +kernel
theorem dX2_list_79 : decode cX2_list 79 = .ok (.iinc 3 1, 3) := by decide +kernel
theorem dX2_list_82 : decode cX2_list 82 = .ok (.goto (-15), 3) := by decide +kernel
theorem dX2_list_85 : decode cX2_list 85 = .ok (.iconst 0, 1) := by decide +kernel
theorem dX2_list_86 : decode cX2_list 86 = .ok (.istore_n 3, 1) := by decide +kernel
theorem dX2_list_87 : decode cX2_list 87 = .ok (.iload_n 3, 1) := by decide +kernel
theorem dX2_list_88 : decode cX2_list 88 = .ok (.aload_n 0, 1) := by decide +kernel
theorem dX2_list_89 : decode cX2_list 89 = .ok (.getfield 18, 3) := by decide +kernel
theorem dX2_list_92 : decode cX2_list 92 = .ok (.if_icmp .ge 25, 3) := by decide +kernel
theorem dX2_list_95 : decode cX2_list 95 = .ok (.aload_n 0, 1) := by decide +kernel
theorem dX2_list_96 : decode cX2_list 96 = .ok (.getfield 24, 3) := by decide +kernel
theorem dX2_list_99 : decode cX2_list 99 = .ok (.iload_n 3, 1) := by decide +kernel
theorem dX2_list_100 : decode cX2_list 100 = .ok (.aload_n 0, 1) := by decide +kernel
theorem dX2_list_101 : decode cX2_list 101 = .ok (.getfield 24, 3) := by decide +kernel
theorem dX2_list_104 : decode cX2_list 104 = .ok (.iload_n 3, 1) := by decide +kernel
theorem dX2_list_105 : decode cX2_list 105 = .ok (.iaload, 1) := by decide +kernel
theorem dX2_list_106 : decode cX2_list 106 = .ok (.iconst 2, 1) := by decide +kernel
theorem dX2_list_107 : decode cX2_list 107 = .ok (.ishl, 1) := by decide +kernel
theorem dX2_list_108 : decode cX2_list 108 = .ok (.iconst 3, 1) := by decide +kernel
theorem dX2_list_109 : decode cX2_list 109 = .ok (.ior, 1) := by decide +kernel
theorem dX2_list_110 : decode cX2_list 110 = .ok (.iastore, 1) := by decide +kernel
theorem dX2_list_111 : decode cX2_list 111 = .ok (.iinc 3 1, 3) := by decide +kernel
theorem dX2_list_114 : decode cX2_list 114 = .ok (.goto (-27), 3) := by decide +kernel
theorem dX2_list_117 : decode cX2_list 117 = .ok (.aload_n 0, 1) := by decide +kernel
theorem dX2_list_118 : decode cX2_list 118 = .ok (.iconst 1, 1) := by decide +kernel
theorem dX2_list_119 : decode cX2_list 119 = .ok (.iconst 2, 1) := by decide +kernel
theorem dX2_list_120 : decode cX2_list 120 = .ok (.aload_n 0, 1) := by decide +kernel
theorem dX2_list_121 : decode cX2_list 121 = .ok (.getfield 15, 3) := by decide +kernel
theorem dX2_list_124 : decode cX2_list 124 = .ok (.iconst 2, 1) := by decide +kernel
theorem dX2_list_125 : decode cX2_list 125 = .ok (.iadd, 1) := by decide +kernel
theorem dX2_list_126 : decode cX2_list 126 = .ok (.imul, 1) := by decide +kernel
theorem dX2_list_127 : decode cX2_list 127 = .ok (.ishl, 1) := by decide +kernel
theorem dX2_list_128 : decode cX2_list 128 = .ok (.iconst 1, 1) := by decide +kernel
theorem dX2_list_129 : decode cX2_list 129 = .ok (.isub, 1) := by decide +kernel
theorem dX2_list_130 : decode cX2_list 130 = .ok (.putfield 21, 3) := by decide +kernel
theorem dX2_list_133 : decode cX2_list 133 = .ok (.return_, 1) := by decide +kernel
theorem dX2_addCell_0 : decode cX2_addCell 0 = .ok (.aload_n 0, 1) := by decide +kernel
theorem dX2_addCell_1 : decode cX2_addCell 1 = .ok (.getfield 18, 3) := by decide +kernel
theorem dX2_addCell_4 : decode cX2_addCell 4 = .ok (.iconst 1, 1) := by decide +kernel
theorem dX2_addCell_5 : decode cX2_addCell 5 = .ok (.isub, 1) := by decide +kernel
theorem dX2_addCell_6 : decode cX2_addCell 6 = .ok (.istore_n 1, 1) := by decide +kernel
theorem dX2_addCell_7 : decode cX2_addCell 7 = .ok (.iload_n 1, 1) := by decide +kernel
theorem dX2_addCell_8 : decode cX2_addCell 8 = .ok (.ifCond .lt 50, 3) := by decide +kernel
theorem dX2_addCell_11 : decode cX2_addCell 11 = .ok (.aload_n 0, 1) := by decide +kernel
theorem dX2_addCell_12 : decode cX2_addCell 12 = .ok (.getfield 24, 3) := by decide +kernel
theorem dX2_addCell_15 : decode cX2_addCell 15 = .ok (.iload_n 1, 1) := by decide +kernel
theorem dX2_addCell_16 : decode cX2_addCell 16 = .ok (.iaload, 1) := by decide +kernel
theorem dX2_addCell_17 : decode cX2_addCell 17 = .ok (.istore_n 2, 1) := by decide +kernel
theorem dX2_addCell_18 : decode cX2_addCell 18 = .ok (.iconst 0, 1) := by decide +kernel
theorem dX2_addCell_19 : decode cX2_addCell 19 = .ok (.istore_n 3, 1) := by decide +kernel
theorem dX2_addCell_20 : decode cX2_addCell 20 = .ok (.iload_n 3, 1) := by decide +kernel
theorem dX2_addCell_21 : decode cX2_addCell 21 = .ok (.aload_n 0, 1) := by decide +kernel
theorem dX2_addCell_22 : decode cX2_addCell 22 = .ok (.getfield 9, 3) := by decide +kernel
theorem dX2_addCell_25 : decode cX2_addCell 25 = .ok (.if_icmp .ge 27, 3) := by decide +kernel
theorem dX2_addCell_28 : decode cX2_addCell 28 = .ok (.aload_n 0, 1) := by decide +kernel
theorem dX2_addCell_29 : decode cX2_addCell 29 = .ok (.getfield 24, 3) := by decide +kernel
theorem dX2_addCell_32 : decode cX2_addCell 32 = .ok (.iload_n 1, 1) := by decide +kernel
theorem dX2_addCell_33 : decode cX2_addCell 33 = .ok (.aload_n 0, 1) := by decide +kernel
theorem dX2_addCell_34 : decode cX2_addCell 34 = .ok (.getfield 9, 3) := by decide +kernel
theorem dX2_addCell_37 : decode cX2_addCell 37 = .ok (.imul, 1) := by decide +kernel
theorem dX2_addCell_38 : decode cX2_addCell 38 = .ok (.iload_n 3, 1) := by decide +kernel
theorem dX2_addCell_39 : decode cX2_addCell 39 = .ok (.iadd, 1) := by decide +kernel
theorem dX2_addCell_40 : decode cX2_addCell 40 = .ok (.iload_n 2, 1) := by decide +kernel
theorem dX2_addCell_41 : decode cX2_addCell 41 = .ok (.iconst 2, 1) := by decide +kernel
theorem dX2_addCell_42 : decode cX2_addCell 42 = .ok (.ishl, 1) := by decide +kernel
theorem dX2_addCell_43 : decode cX2_addCell 43 = .ok (.iload_n 3, 1) := by decide +kernel
theorem dX2_addCell_44 : decode cX2_addCell 44 = .ok (.ior, 1) := by decide +kernel
theorem dX2_addCell_45 : decode cX2_addCell 45 = .ok (.iastore, 1) := by decide +kernel
theorem dX2_addCell_46 : decode cX2_addCell 46 = .ok (.iinc 3 1, 3) := by decide +kernel
theorem dX2_addCell_49 : decode cX2_addCell 49 = .ok (.goto (-29), 3) := by decide +kernel
theorem dX2_addCell_52 : decode cX2_addCell 52 = .ok (.iinc 1 (-1), 3) := by decide +kernel
theorem dX2_addCell_55 : decode cX2_addCell 55 = .ok (.goto (-48), 3) := by decide +kernel
theorem dX2_addCell_58 : decode cX2_addCell 58 = .ok (.aload_n 0, 1) := by decide +kernel
theorem dX2_addCell_59 : decode cX2_addCell 59 = .ok (.dup, 1) := by decide +kernel
theorem dX2_addCell_60 : decode cX2_addCell 60 = .ok (.getfield 18, 3) := by decide +kernel
theorem dX2_addCell_63 : decode cX2_addCell 63 = .ok (.aload_n 0, 1) := by decide +kernel
theorem dX2_addCell_64 : decode cX2_addCell 64 = .ok (.getfield 9, 3) := by decide +kernel
theorem dX2_addCell_67 : decode cX2_addCell 67 = .ok (.imul, 1) := by decide +kernel
theorem dX2_addCell_68 : decode cX2_addCell 68 = .ok (.putfield 18, 3) := by decide +kernel
theorem dX2_addCell_71 : decode cX2_addCell 71 = .ok (.return_, 1) := by decide +kernel
theorem dX2_colour_0 : decode cX2_colour 0 = .ok (.aload_n 0, 1) := by decide +kernel
theorem dX2_colour_1 : decode cX2_colour 1 = .ok (.getfield 24, 3) := by decide +kernel
theorem dX2_colour_4 : decode cX2_colour 4 = .ok (.iload_n 1, 1) := by decide +kernel
theorem dX2_colour_5 : decode cX2_colour 5 = .ok (.iaload, 1) := by decide +kernel
theorem dX2_colour_6 : decode cX2_colour 6 = .ok (.iconst 2, 1) := by decide +kernel
theorem dX2_colour_7 : decode cX2_colour 7 = .ok (.aload_n 0, 1) := by decide +kernel
theorem dX2_colour_8 : decode cX2_colour 8 = .ok (.getfield 15, 3) := by decide +kernel
theorem dX2_colour_11 : decode cX2_colour 11 = .ok (.iload_n 2, 1) := by decide +kernel
theorem dX2_colour_12 : decode cX2_colour 12 = .ok (.isub, 1) := by decide +kernel
theorem dX2_colour_13 : decode cX2_colour 13 = .ok (.imul, 1) := by decide +kernel
theorem dX2_colour_14 : decode cX2_colour 14 = .ok (.ishr, 1) := by decide +kernel
theorem dX2_colour_15 : decode cX2_colour 15 = .ok (.iconst 3, 1) := by decide +kernel
theorem dX2_colour_16 : decode cX2_colour 16 = .ok (.iand, 1) := by decide +kernel
theorem dX2_colour_17 : decode cX2_colour 17 = .ok (.ireturn, 1) := by decide +kernel
set_option maxRecDepth 20000 in
theorem ggX2_numberOf_X4_at : GoodIn wsX2_numberOf wsX4_at := goodIn_r _ [7, 8, 9, 10, 17, 18, 19] (by decide +kernel) (by decide +kernel)
set_option maxRecDepth 20000 in
theorem gX2_numberOf_X4_at : GoodIn wsX2_numberOf (wsV RX2 34 RX4 yX4_at wsX4_at) := goodIn_app (goodIn_of _ (by decide +kernel)) ggX2_numberOf_X4_at
theorem dX2_numberOf_0 : decode cX2_numberOf 0 = .ok (.iconst 0, 1) := by decide +kernel
theorem dX2_numberOf_1 : decode cX2_numberOf 1 = .ok (.istore_n 3, 1) := by decide +kernel
theorem dX2_numberOf_2 : decode cX2_numberOf 2 = .ok (.iconst 0, 1) := by decide +kernel
theorem dX2_numberOf_3 : decode cX2_numberOf 3 = .ok (.istore 4, 2) := by decide +kernel
theorem dX2_numberOf_5 : decode cX2_numberOf 5 = .ok (.iload 4, 2) := by decide +kernel
theorem dX2_numberOf_7 : decode cX2_numberOf 7 = .ok (.aload_n 0, 1) := by decide +kernel
theorem dX2_numberOf_8 : decode cX2_numberOf 8 = .ok (.getfield 15, 3) := by decide +kernel
theorem dX2_numberOf_11 : decode cX2_numberOf 11 = .ok (.if_icmp .ge 24, 3) := by decide +kernel
theorem dX2_numberOf_14 : decode cX2_numberOf 14 = .ok (.iload_n 3, 1) := by decide +kernel
theorem dX2_numberOf_15 : decode cX2_numberOf 15 = .ok (.aload_n 0, 1) := by decide +kernel
theorem dX2_numberOf_16 : decode cX2_numberOf 16 = .ok (.getfield 9, 3) := by decide +kernel
theorem dX2_numberOf_19 : decode cX2_numberOf 19 = .ok (.imul, 1) := by decide +kernel
theorem dX2_numberOf_20 : decode cX2_numberOf 20 = .ok (.aload_n 1, 1) := by decide +kernel
theorem dX2_numberOf_21 : decode cX2_numberOf 21 = .ok (.iload_n 2, 1) := by decide +kernel
theorem dX2_numberOf_22 : decode cX2_numberOf 22 = .ok (.iload 4, 2) := by decide +kernel
theorem dX2_numberOf_24 : decode cX2_numberOf 24 = .ok (.invokevirtual 34, 3) := by decide +kernel
theorem dX2_numberOf_27 : decode cX2_numberOf 27 = .ok (.iadd, 1) := by decide +kernel
theorem dX2_numberOf_28 : decode cX2_numberOf 28 = .ok (.istore_n 3, 1) := by decide +kernel
theorem dX2_numberOf_29 : decode cX2_numberOf 29 = .ok (.iinc 4 1, 3) := by decide +kernel
theorem dX2_numberOf_32 : decode cX2_numberOf 32 = .ok (.goto (-27), 3) := by decide +kernel
theorem dX2_numberOf_35 : decode cX2_numberOf 35 = .ok (.iload_n 3, 1) := by decide +kernel
theorem dX2_numberOf_36 : decode cX2_numberOf 36 = .ok (.ireturn, 1) := by decide +kernel
theorem dX3_init_0 : decode cX3_init 0 = .ok (.aload_n 0, 1) := by decide +kernel
theorem dX3_init_1 : decode cX3_init 1 = .ok (.invokespecial 3, 3) := by decide +kernel
theorem dX3_init_4 : decode cX3_init 4 = .ok (.aload_n 0, 1) := by decide +kernel
theorem dX3_init_5 : decode cX3_init 5 = .ok (.bipush 16, 2) := by decide +kernel
theorem dX3_init_7 : decode cX3_init 7 = .ok (.newarray .int, 2) := by decide +kernel
theorem dX3_init_9 : decode cX3_init 9 = .ok (.putfield 9, 3) := by decide +kernel
theorem dX3_init_12 : decode cX3_init 12 = .ok (.return_, 1) := by decide +kernel
set_option maxRecDepth 20000 in
theorem ggX3_clear_J7_fill_53178 : GoodIn wsX3_clear wsJ7_fill_53178 := goodIn_r _ [5] (by decide +kernel) (by decide +kernel)
set_option maxRecDepth 20000 in
theorem gX3_clear_J7_fill_53178 : GoodIn wsX3_clear (va_wsS RX3 15 yJ7_fill_53178 wsJ7_fill_53178) := goodIn_app (goodIn_of _ (by decide +kernel)) ggX3_clear_J7_fill_53178
theorem dX3_clear_0 : decode cX3_clear 0 = .ok (.aload_n 0, 1) := by decide +kernel
theorem dX3_clear_1 : decode cX3_clear 1 = .ok (.getfield 9, 3) := by decide +kernel
theorem dX3_clear_4 : decode cX3_clear 4 = .ok (.iconst 0, 1) := by decide +kernel
theorem dX3_clear_5 : decode cX3_clear 5 = .ok (.invokestatic 15, 3) := by decide +kernel
theorem dX3_clear_8 : decode cX3_clear 8 = .ok (.return_, 1) := by decide +kernel
theorem dX3_has_0 : decode cX3_has 0 = .ok (.aload_n 0, 1) := by decide +kernel
theorem dX3_has_1 : decode cX3_has 1 = .ok (.getfield 9, 3) := by decide +kernel
theorem dX3_has_4 : decode cX3_has 4 = .ok (.iload_n 1, 1) := by decide +kernel
theorem dX3_has_5 : decode cX3_has 5 = .ok (.iconst 4, 1) := by decide +kernel
theorem dX3_has_6 : decode cX3_has 6 = .ok (.ishr, 1) := by decide +kernel
theorem dX3_has_7 : decode cX3_has 7 = .ok (.bipush 15, 2) := by decide +kernel
theorem dX3_has_9 : decode cX3_has 9 = .ok (.iand, 1) := by decide +kernel
theorem dX3_has_10 : decode cX3_has 10 = .ok (.iaload, 1) := by decide +kernel
theorem dX3_has_11 : decode cX3_has 11 = .ok (.iload_n 1, 1) := by decide +kernel
theorem dX3_has_12 : decode cX3_has 12 = .ok (.bipush 15, 2) := by decide +kernel
theorem dX3_has_14 : decode cX3_has 14 = .ok (.iand, 1) := by decide +kernel
theorem dX3_has_15 : decode cX3_has 15 = .ok (.ishr, 1) := by decide +kernel
theorem dX3_has_16 : decode cX3_has 16 = .ok (.iconst 1, 1) := by decide +kernel
theorem dX3_has_17 : decode cX3_has 17 = .ok (.iand, 1) := by decide +kernel
theorem dX3_has_18 : decode cX3_has 18 = .ok (.ifCond .eq 7, 3) := by decide +kernel
theorem dX3_has_21 : decode cX3_has 21 = .ok (.iconst 1, 1) := by decide +kernel
theorem dX3_has_22 : decode cX3_has 22 = .ok (.goto 4, 3) := by decide +kernel
theorem dX3_has_25 : decode cX3_has 25 = .ok (.iconst 0, 1) := by decide +kernel
theorem dX3_has_26 : decode cX3_has 26 = .ok (.ireturn, 1) := by decide +kernel
theorem dX3_put_0 : decode cX3_put 0 = .ok (.iconst 1, 1) := by decide +kernel
theorem dX3_put_1 : decode cX3_put 1 = .ok (.iload_n 1, 1) := by decide +kernel
theorem dX3_put_2 : decode cX3_put 2 = .ok (.bipush 15, 2) := by decide +kernel
theorem dX3_put_4 : decode cX3_put 4 = .ok (.iand, 1) := by decide +kernel
theorem dX3_put_5 : decode cX3_put 5 = .ok (.ishl, 1) := by decide +kernel
theorem dX3_put_6 : decode cX3_put 6 = .ok (.istore_n 3, 1) := by decide +kernel
theorem dX3_put_7 : decode cX3_put 7 = .ok (.iload_n 2, 1) := by decide +kernel
theorem dX3_put_8 : decode cX3_put 8 = .ok (.ifCond .eq 21, 3) := by decide +kernel
theorem dX3_put_11 : decode cX3_put 11 = .ok (.aload_n 0, 1) := by decide +kernel
theorem dX3_put_12 : decode cX3_put 12 = .ok (.getfield 9, 3) := by decide +kernel
theorem dX3_put_15 : decode cX3_put 15 = .ok (.iload_n 1, 1) := by decide +kernel
theorem dX3_put_16 : decode cX3_put 16 = .ok (.iconst 4, 1) := by decide +kernel
theorem dX3_put_17 : decode cX3_put 17 = .ok (.ishr, 1) := by decide +kernel
theorem dX3_put_18 : decode cX3_put 18 = .ok (.bipush 15, 2) := by decide +kernel
theorem dX3_put_20 : decode cX3_put 20 = .ok (.iand, 1) := by decide +kernel
theorem dX3_put_21 : decode cX3_put 21 = .ok (.dup2, 1) := by decide +kernel
theorem dX3_put_22 : decode cX3_put 22 = .ok (.iaload, 1) := by decide +kernel
theorem dX3_put_23 : decode cX3_put 23 = .ok (.iload_n 3, 1) := by decide +kernel
theorem dX3_put_24 : decode cX3_put 24 = .ok (.ior, 1) := by decide +kernel
theorem dX3_put_25 : decode cX3_put 25 = .ok (.iastore, 1) := by decide +kernel
theorem dX3_put_26 : decode cX3_put 26 = .ok (.goto 20, 3) := by decide +kernel
theorem dX3_put_29 : decode cX3_put 29 = .ok (.aload_n 0, 1) := by decide +kernel
theorem dX3_put_30 : decode cX3_put 30 = .ok (.getfield 9, 3) := by decide +kernel
theorem dX3_put_33 : decode cX3_put 33 = .ok (.iload_n 1, 1) := by decide +kernel
theorem dX3_put_34 : decode cX3_put 34 = .ok (.iconst 4, 1) := by decide +kernel
theorem dX3_put_35 : decode cX3_put 35 = .ok (.ishr, 1) := by decide +kernel
theorem dX3_put_36 : decode cX3_put 36 = .ok (.bipush 15, 2) := by decide +kernel
theorem dX3_put_38 : decode cX3_put 38 = .ok (.iand, 1) := by decide +kernel
theorem dX3_put_39 : decode cX3_put 39 = .ok (.dup2, 1) := by decide +kernel
theorem dX3_put_40 : decode cX3_put 40 = .ok (.iaload, 1) := by decide +kernel
theorem dX3_put_41 : decode cX3_put 41 = .ok (.iload_n 3, 1) := by decide +kernel
theorem dX3_put_42 : decode cX3_put 42 = .ok (.iconst (-1), 1) := by decide +kernel
theorem dX3_put_43 : decode cX3_put 43 = .ok (.ixor, 1) := by decide +kernel
theorem dX3_put_44 : decode cX3_put 44 = .ok (.iand, 1) := by decide +kernel
theorem dX3_put_45 : decode cX3_put 45 = .ok (.iastore, 1) := by decide +kernel
theorem dX3_put_46 : decode cX3_put 46 = .ok (.return_, 1) := by decide +kernel
set_option maxRecDepth 20000 in
theorem ggX3_size_J6_bitCount_0f7a4 : GoodIn wsX3_size wsJ6_bitCount_0f7a4 := goodIn_r _ [5, 6, 7, 8] (by decide +kernel) (by decide +kernel)
set_option maxRecDepth 20000 in
theorem gX3_size_J6_bitCount_0f7a4 : GoodIn wsX3_size (va_wsS RX3 21 yJ6_bitCount_0f7a4 wsJ6_bitCount_0f7a4) := goodIn_app (goodIn_of _ (by decide +kernel)) ggX3_size_J6_bitCount_0f7a4
theorem dX3_size_0 : decode cX3_size 0 = .ok (.iconst 0, 1) := by decide +kernel
theorem dX3_size_1 : decode cX3_size 1 = .ok (.istore_n 1, 1) := by decide +kernel
theorem dX3_size_2 : decode cX3_size 2 = .ok (.aload_n 0, 1) := by decide +kernel
theorem dX3_size_3 : decode cX3_size 3 = .ok (.getfield 9, 3) := by decide +kernel
theorem dX3_size_6 : decode cX3_size 6 = .ok (.astore_n 2, 1) := by decide +kernel
theorem dX3_size_7 : decode cX3_size 7 = .ok (.aload_n 2, 1) := by decide +kernel
theorem dX3_size_8 : decode cX3_size 8 = .ok (.arraylength, 1) := by decide +kernel
theorem dX3_size_9 : decode cX3_size 9 = .ok (.istore_n 3, 1) := by decide +kernel
theorem dX3_size_10 : decode cX3_size 10 = .ok (.iconst 0, 1) := by decide +kernel
theorem dX3_size_11 : decode cX3_size 11 = .ok (.istore 4, 2) := by decide +kernel
theorem dX3_size_13 : decode cX3_size 13 = .ok (.iload 4, 2) := by decide +kernel
theorem dX3_size_15 : decode cX3_size 15 = .ok (.iload_n 3, 1) := by decide +kernel
theorem dX3_size_16 : decode cX3_size 16 = .ok (.if_icmp .ge 23, 3) := by decide +kernel
theorem dX3_size_19 : decode cX3_size 19 = .ok (.aload_n 2, 1) := by decide +kernel
theorem dX3_size_20 : decode cX3_size 20 = .ok (.iload 4, 2) := by decide +kernel
theorem dX3_size_22 : decode cX3_size 22 = .ok (.iaload, 1) := by decide +kernel
theorem dX3_size_23 : decode cX3_size 23 = .ok (.istore 5, 2) := by decide +kernel
theorem dX3_size_25 : decode cX3_size 25 = .ok (.iload_n 1, 1) := by decide +kernel
theorem dX3_size_26 : decode cX3_size 26 = .ok (.iload 5, 2) := by decide +kernel
theorem dX3_size_28 : decode cX3_size 28 = .ok (.invokestatic 21, 3) := by decide +kernel
theorem dX3_size_31 : decode cX3_size 31 = .ok (.iadd, 1) := by decide +kernel
theorem dX3_size_32 : decode cX3_size 32 = .ok (.istore_n 1, 1) := by decide +kernel
theorem dX3_size_33 : decode cX3_size 33 = .ok (.iinc 4 1, 3) := by decide +kernel
theorem dX3_size_36 : decode cX3_size 36 = .ok (.goto (-23), 3) := by decide +kernel
theorem dX3_size_39 : decode cX3_size 39 = .ok (.iload_n 1, 1) := by decide +kernel
theorem dX3_size_40 : decode cX3_size 40 = .ok (.ireturn, 1) := by decide +kernel
theorem dX3_corners_0 : decode cX3_corners 0 = .ok (.aload_n 0, 1) := by decide +kernel
theorem dX3_corners_1 : decode cX3_corners 1 = .ok (.getfield 9, 3) := by decide +kernel
theorem dX3_corners_4 : decode cX3_corners 4 = .ok (.iload_n 1, 1) := by decide +kernel
theorem dX3_corners_5 : decode cX3_corners 5 = .ok (.iconst 3, 1) := by decide +kernel
theorem dX3_corners_6 : decode cX3_corners 6 = .ok (.iand, 1) := by decide +kernel
theorem dX3_corners_7 : decode cX3_corners 7 = .ok (.iconst 2, 1) := by decide +kernel
theorem dX3_corners_8 : decode cX3_corners 8 = .ok (.ishl, 1) := by decide +kernel
theorem dX3_corners_9 : decode cX3_corners 9 = .ok (.iload_n 2, 1) := by decide +kernel
theorem dX3_corners_10 : decode cX3_corners 10 = .ok (.iconst 3, 1) := by decide +kernel
theorem dX3_corners_11 : decode cX3_corners 11 = .ok (.iand, 1) := by decide +kernel
theorem dX3_corners_12 : decode cX3_corners 12 = .ok (.ior, 1) := by decide +kernel
theorem dX3_corners_13 : decode cX3_corners 13 = .ok (.iaload, 1) := by decide +kernel
theorem dX3_corners_14 : decode cX3_corners 14 = .ok (.iload_n 3, 1) := by decide +kernel
theorem dX3_corners_15 : decode cX3_corners 15 = .ok (.iconst 3, 1) := by decide +kernel
theorem dX3_corners_16 : decode cX3_corners 16 = .ok (.iand, 1) := by decide +kernel
theorem dX3_corners_17 : decode cX3_corners 17 = .ok (.iconst 2, 1) := by decide +kernel
theorem dX3_corners_18 : decode cX3_corners 18 = .ok (.ishl, 1) := by decide +kernel
theorem dX3_corners_19 : decode cX3_corners 19 = .ok (.ishr, 1) := by decide +kernel
theorem dX3_corners_20 : decode cX3_corners 20 = .ok (.bipush 15, 2) := by decide +kernel
theorem dX3_corners_22 : decode cX3_corners 22 = .ok (.iand, 1) := by decide +kernel
theorem dX3_corners_23 : decode cX3_corners 23 = .ok (.ireturn, 1) := by decide +kernel
theorem dX3_joins_0 : decode cX3_joins 0 = .ok (.iconst 0, 1) := by decide +kernel
theorem dX3_joins_1 : decode cX3_joins 1 = .ok (.istore 4, 2) := by decide +kernel
theorem dX3_joins_3 : decode cX3_joins 3 = .ok (.iload 4, 2) := by decide +kernel
theorem dX3_joins_5 : decode cX3_joins 5 = .ok (.iconst 2, 1) := by decide +kernel
theorem dX3_joins_6 : decode cX3_joins 6 = .ok (.iload_n 3, 1) := by decide +kernel
theorem dX3_joins_7 : decode cX3_joins 7 = .ok (.imul, 1) := by decide +kernel
theorem dX3_joins_8 : decode cX3_joins 8 = .ok (.if_icmp .gt 36, 3) := by decide +kernel
theorem dX3_joins_11 : decode cX3_joins 11 = .ok (.aload_n 0, 1) := by decide +kernel
theorem dX3_joins_12 : decode cX3_joins 12 = .ok (.getfield 9, 3) := by decide +kernel
theorem dX3_joins_15 : decode cX3_joins 15 = .ok (.iload_n 1, 1) := by decide +kernel
theorem dX3_joins_16 : decode cX3_joins 16 = .ok (.iload 4, 2) := by decide +kernel
theorem dX3_joins_18 : decode cX3_joins 18 = .ok (.ishr, 1) := by decide +kernel
theorem dX3_joins_19 : decode cX3_joins 19 = .ok (.bipush 15, 2) := by decide +kernel
theorem dX3_joins_21 : decode cX3_joins 21 = .ok (.iand, 1) := by decide +kernel
theorem dX3_joins_22 : decode cX3_joins 22 = .ok (.iaload, 1) := by decide +kernel
theorem dX3_joins_23 : decode cX3_joins 23 = .ok (.iload_n 2, 1) := by decide +kernel
theorem dX3_joins_24 : decode cX3_joins 24 = .ok (.iload 4, 2) := by decide +kernel
theorem dX3_joins_26 : decode cX3_joins 26 = .ok (.ishr, 1) := by decide +kernel
theorem dX3_joins_27 : decode cX3_joins 27 = .ok (.bipush 15, 2) := by decide +kernel
theorem dX3_joins_29 : decode cX3_joins 29 = .ok (.iand, 1) := by decide +kernel
theorem dX3_joins_30 : decode cX3_joins 30 = .ok (.ishr, 1) := by decide +kernel
theorem dX3_joins_31 : decode cX3_joins 31 = .ok (.iconst 1, 1) := by decide +kernel
theorem dX3_joins_32 : decode cX3_joins 32 = .ok (.iand, 1) := by decide +kernel
theorem dX3_joins_33 : decode cX3_joins 33 = .ok (.ifCond .ne 5, 3) := by decide +kernel
theorem dX3_joins_36 : decode cX3_joins 36 = .ok (.iconst 0, 1) := by decide +kernel
theorem dX3_joins_37 : decode cX3_joins 37 = .ok (.ireturn, 1) := by decide +kernel
theorem dX3_joins_38 : decode cX3_joins 38 = .ok (.iinc 4 2, 3) := by decide +kernel
theorem dX3_joins_41 : decode cX3_joins 41 = .ok (.goto (-38), 3) := by decide +kernel
theorem dX3_joins_44 : decode cX3_joins 44 = .ok (.iconst 1, 1) := by decide +kernel
theorem dX3_joins_45 : decode cX3_joins 45 = .ok (.ireturn, 1) := by decide +kernel
set_option maxRecDepth 20000 in
theorem ggX3_firstWrong_X4_block : GoodIn wsX3_firstWrong wsX4_block := goodIn_r _ [7, 8, 9, 10, 6, 11, 12, 13, 14, 21, 22, 23] (by decide +kernel) (by decide +kernel)
set_option maxRecDepth 20000 in
theorem gX3_firstWrong_X4_block : GoodIn wsX3_firstWrong (wsV RX3 36 RX4 yX4_block wsX4_block) := goodIn_app (goodIn_of _ (by decide +kernel)) ggX3_firstWrong_X4_block
set_option maxRecDepth 20000 in
theorem ggX3_firstWrong_X3_has : GoodIn wsX3_firstWrong wsX3_has := goodIn_r _ [19, 20, 24] (by decide +kernel) (by decide +kernel)
set_option maxRecDepth 20000 in
theorem gX3_firstWrong_X3_has : GoodIn wsX3_firstWrong (wsV RX3 40 RX3 yX3_has wsX3_has) := goodIn_app (goodIn_of _ (by decide +kernel)) ggX3_firstWrong_X3_has
theorem dX3_firstWrong_0 : decode cX3_firstWrong 0 = .ok (.iconst 0, 1) := by decide +kernel
theorem dX3_firstWrong_1 : decode cX3_firstWrong 1 = .ok (.istore_n 2, 1) := by decide +kernel
theorem dX3_firstWrong_2 : decode cX3_firstWrong 2 = .ok (.iload_n 2, 1) := by decide +kernel
theorem dX3_firstWrong_3 : decode cX3_firstWrong 3 = .ok (.aload_n 1, 1) := by decide +kernel
theorem dX3_firstWrong_4 : decode cX3_firstWrong 4 = .ok (.getfield 27, 3) := by decide +kernel
theorem dX3_firstWrong_7 : decode cX3_firstWrong 7 = .ok (.if_icmp .gt 49, 3) := by decide +kernel
theorem dX3_firstWrong_10 : decode cX3_firstWrong 10 = .ok (.iconst 0, 1) := by decide +kernel
theorem dX3_firstWrong_11 : decode cX3_firstWrong 11 = .ok (.istore_n 3, 1) := by decide +kernel
theorem dX3_firstWrong_12 : decode cX3_firstWrong 12 = .ok (.iload_n 3, 1) := by decide +kernel
theorem dX3_firstWrong_13 : decode cX3_firstWrong 13 = .ok (.aload_n 1, 1) := by decide +kernel
theorem dX3_firstWrong_14 : decode cX3_firstWrong 14 = .ok (.getfield 33, 3) := by decide +kernel
theorem dX3_firstWrong_17 : decode cX3_firstWrong 17 = .ok (.if_icmp .gt 33, 3) := by decide +kernel
theorem dX3_firstWrong_20 : decode cX3_firstWrong 20 = .ok (.aload_n 0, 1) := by decide +kernel
theorem dX3_firstWrong_21 : decode cX3_firstWrong 21 = .ok (.aload_n 1, 1) := by decide +kernel
theorem dX3_firstWrong_22 : decode cX3_firstWrong 22 = .ok (.iload_n 2, 1) := by decide +kernel
theorem dX3_firstWrong_23 : decode cX3_firstWrong 23 = .ok (.iload_n 3, 1) := by decide +kernel
theorem dX3_firstWrong_24 : decode cX3_firstWrong 24 = .ok (.invokevirtual 36, 3) := by decide +kernel
theorem dX3_firstWrong_27 : decode cX3_firstWrong 27 = .ok (.invokevirtual 40, 3) := by decide +kernel
theorem dX3_firstWrong_30 : decode cX3_firstWrong 30 = .ok (.ifCond .ne 14, 3) := by decide +kernel
theorem dX3_firstWrong_33 : decode cX3_firstWrong 33 = .ok (.aload_n 1, 1) := by decide +kernel
theorem dX3_firstWrong_34 : decode cX3_firstWrong 34 = .ok (.getfield 33, 3) := by decide +kernel
theorem dX3_firstWrong_37 : decode cX3_firstWrong 37 = .ok (.iconst 1, 1) := by decide +kernel
theorem dX3_firstWrong_38 : decode cX3_firstWrong 38 = .ok (.iadd, 1) := by decide +kernel
theorem dX3_firstWrong_39 : decode cX3_firstWrong 39 = .ok (.iload_n 2, 1) := by decide +kernel
theorem dX3_firstWrong_40 : decode cX3_firstWrong 40 = .ok (.imul, 1) := by decide +kernel
theorem dX3_firstWrong_41 : decode cX3_firstWrong 41 = .ok (.iload_n 3, 1) := by decide +kernel
theorem dX3_firstWrong_42 : decode cX3_firstWrong 42 = .ok (.iadd, 1) := by decide +kernel
theorem dX3_firstWrong_43 : decode cX3_firstWrong 43 = .ok (.ireturn, 1) := by decide +kernel
theorem dX3_firstWrong_44 : decode cX3_firstWrong 44 = .ok (.iinc 3 1, 3) := by decide +kernel
theorem dX3_firstWrong_47 : decode cX3_firstWrong 47 = .ok (.goto (-35), 3) := by decide +kernel
theorem dX3_firstWrong_50 : decode cX3_firstWrong 50 = .ok (.iinc 2 1, 3) := by decide +kernel
theorem dX3_firstWrong_53 : decode cX3_firstWrong 53 = .ok (.goto (-51), 3) := by decide +kernel
theorem dX3_firstWrong_56 : decode cX3_firstWrong 56 = .ok (.iconst (-1), 1) := by decide +kernel
theorem dX3_firstWrong_57 : decode cX3_firstWrong 57 = .ok (.ireturn, 1) := by decide +kernel
set_option maxRecDepth 20000 in
theorem ggX3_open_X3_has : GoodIn wsX3_open wsX3_has := goodIn_r _ [5, 6, 16] (by decide +kernel) (by decide +kernel)
set_option maxRecDepth 20000 in
theorem gX3_open_X3_has : GoodIn wsX3_open (wsV RX3 40 RX3 yX3_has wsX3_has) := goodIn_app (goodIn_of _ (by decide +kernel)) ggX3_open_X3_has
set_option maxRecDepth 20000 in
theorem ggX3_open_X3_turned : GoodIn wsX3_open wsX3_turned := goodIn_r _ [9, 10, 11, 4, 12, 13, 14, 15] (by decide +kernel) (by decide +kernel)
set_option maxRecDepth 20000 in
theorem gX3_open_X3_turned : GoodIn wsX3_open (va_wsS RX3 44 yX3_turned wsX3_turned) := goodIn_app (goodIn_of _ (by decide +kernel)) ggX3_open_X3_turned
theorem dX3_open_0 : decode cX3_open 0 = .ok (.iconst 0, 1) := by decide +kernel
theorem dX3_open_1 : decode cX3_open 1 = .ok (.istore_n 2, 1) := by decide +kernel
theorem dX3_open_2 : decode cX3_open 2 = .ok (.iconst 0, 1) := by decide +kernel
theorem dX3_open_3 : decode cX3_open 3 = .ok (.istore_n 3, 1) := by decide +kernel
theorem dX3_open_4 : decode cX3_open 4 = .ok (.iload_n 3, 1) := by decide +kernel
theorem dX3_open_5 : decode cX3_open 5 = .ok (.sipush 256, 3) := by decide +kernel
theorem dX3_open_8 : decode cX3_open 8 = .ok (.if_icmp .ge 32, 3) := by decide +kernel
theorem dX3_open_11 : decode cX3_open 11 = .ok (.aload_n 0, 1) := by decide +kernel
theorem dX3_open_12 : decode cX3_open 12 = .ok (.iload_n 3, 1) := by decide +kernel
theorem dX3_open_13 : decode cX3_open 13 = .ok (.invokevirtual 40, 3) := by decide +kernel
theorem dX3_open_16 : decode cX3_open 16 = .ok (.ifCond .eq 18, 3) := by decide +kernel
theorem dX3_open_19 : decode cX3_open 19 = .ok (.aload_n 0, 1) := by decide +kernel
theorem dX3_open_20 : decode cX3_open 20 = .ok (.iload_n 3, 1) := by decide +kernel
theorem dX3_open_21 : decode cX3_open 21 = .ok (.iload_n 1, 1) := by decide +kernel
theorem dX3_open_22 : decode cX3_open 22 = .ok (.invokestatic 44, 3) := by decide +kernel
theorem dX3_open_25 : decode cX3_open 25 = .ok (.invokevirtual 40, 3) := by decide +kernel
theorem dX3_open_28 : decode cX3_open 28 = .ok (.ifCond .ne 6, 3) := by decide +kernel
theorem dX3_open_31 : decode cX3_open 31 = .ok (.iinc 2 1, 3) := by decide +kernel
theorem dX3_open_34 : decode cX3_open 34 = .ok (.iinc 3 1, 3) := by decide +kernel
theorem dX3_open_37 : decode cX3_open 37 = .ok (.goto (-33), 3) := by decide +kernel
theorem dX3_open_40 : decode cX3_open 40 = .ok (.iload_n 2, 1) := by decide +kernel
theorem dX3_open_41 : decode cX3_open 41 = .ok (.ireturn, 1) := by decide +kernel
set_option maxRecDepth 20000 in
theorem ggX3_closeUnder_X3_has : GoodIn wsX3_closeUnder wsX3_has := goodIn_r _ [5, 6, 20] (by decide +kernel) (by decide +kernel)
set_option maxRecDepth 20000 in
theorem gX3_closeUnder_X3_has : GoodIn wsX3_closeUnder (wsV RX3 40 RX3 yX3_has wsX3_has) := goodIn_app (goodIn_of _ (by decide +kernel)) ggX3_closeUnder_X3_has
set_option maxRecDepth 20000 in
theorem ggX3_closeUnder_X3_turned : GoodIn wsX3_closeUnder wsX3_turned := goodIn_r _ [9, 10, 11, 4, 12, 13, 14, 15] (by decide +kernel) (by decide +kernel)
set_option maxRecDepth 20000 in
theorem gX3_closeUnder_X3_turned : GoodIn wsX3_closeUnder (va_wsS RX3 44 yX3_turned wsX3_turned) := goodIn_app (goodIn_of _ (by decide +kernel)) ggX3_closeUnder_X3_turned
set_option maxRecDepth 20000 in
theorem ggX3_closeUnder_X3_put : GoodIn wsX3_closeUnder wsX3_put := goodIn_r _ [19, 6, 20] (by decide +kernel) (by decide +kernel)
set_option maxRecDepth 20000 in
theorem gX3_closeUnder_X3_put : GoodIn wsX3_closeUnder (wsV RX3 47 RX3 yX3_put wsX3_put) := goodIn_app (goodIn_of _ (by decide +kernel)) ggX3_closeUnder_X3_put
theorem dX3_closeUnder_0 : decode cX3_closeUnder 0 = .ok (.iconst 0, 1) := by decide +kernel
theorem dX3_closeUnder_1 : decode cX3_closeUnder 1 = .ok (.istore_n 2, 1) := by decide +kernel
theorem dX3_closeUnder_2 : decode cX3_closeUnder 2 = .ok (.iload_n 2, 1) := by decide +kernel
theorem dX3_closeUnder_3 : decode cX3_closeUnder 3 = .ok (.sipush 256, 3) := by decide +kernel
theorem dX3_closeUnder_6 : decode cX3_closeUnder 6 = .ok (.if_icmp .ge 46, 3) := by decide +kernel
theorem dX3_closeUnder_9 : decode cX3_closeUnder 9 = .ok (.aload_n 0, 1) := by decide +kernel
theorem dX3_closeUnder_10 : decode cX3_closeUnder 10 = .ok (.iload_n 2, 1) := by decide +kernel
theorem dX3_closeUnder_11 : decode cX3_closeUnder 11 = .ok (.invokevirtual 40, 3) := by decide +kernel
theorem dX3_closeUnder_14 : decode cX3_closeUnder 14 = .ok (.ifCond .eq 32, 3) := by decide +kernel
theorem dX3_closeUnder_17 : decode cX3_closeUnder 17 = .ok (.iload_n 2, 1) := by decide +kernel
theorem dX3_closeUnder_18 : decode cX3_closeUnder 18 = .ok (.istore_n 3, 1) := by decide +kernel
theorem dX3_closeUnder_19 : decode cX3_closeUnder 19 = .ok (.iconst 0, 1) := by decide +kernel
theorem dX3_closeUnder_20 : decode cX3_closeUnder 20 = .ok (.istore 4, 2) := by decide +kernel
theorem dX3_closeUnder_22 : decode cX3_closeUnder 22 = .ok (.iload 4, 2) := by decide +kernel
theorem dX3_closeUnder_24 : decode cX3_closeUnder 24 = .ok (.iconst 4, 1) := by decide +kernel
theorem dX3_closeUnder_25 : decode cX3_closeUnder 25 = .ok (.if_icmp .ge 21, 3) := by decide +kernel
theorem dX3_closeUnder_28 : decode cX3_closeUnder 28 = .ok (.iload_n 3, 1) := by decide +kernel
theorem dX3_closeUnder_29 : decode cX3_closeUnder 29 = .ok (.iload_n 1, 1) := by decide +kernel
theorem dX3_closeUnder_30 : decode cX3_closeUnder 30 = .ok (.invokestatic 44, 3) := by decide +kernel
theorem dX3_closeUnder_33 : decode cX3_closeUnder 33 = .ok (.istore_n 3, 1) := by decide +kernel
theorem dX3_closeUnder_34 : decode cX3_closeUnder 34 = .ok (.aload_n 0, 1) := by decide +kernel
theorem dX3_closeUnder_35 : decode cX3_closeUnder 35 = .ok (.iload_n 3, 1) := by decide +kernel
theorem dX3_closeUnder_36 : decode cX3_closeUnder 36 = .ok (.iconst 1, 1) := by decide +kernel
theorem dX3_closeUnder_37 : decode cX3_closeUnder 37 = .ok (.invokevirtual 47, 3) := by decide +kernel
theorem dX3_closeUnder_40 : decode cX3_closeUnder 40 = .ok (.iinc 4 1, 3) := by decide +kernel
theorem dX3_closeUnder_43 : decode cX3_closeUnder 43 = .ok (.goto (-21), 3) := by decide +kernel
theorem dX3_closeUnder_46 : decode cX3_closeUnder 46 = .ok (.iinc 2 1, 3) := by decide +kernel
theorem dX3_closeUnder_49 : decode cX3_closeUnder 49 = .ok (.goto (-47), 3) := by decide +kernel
theorem dX3_closeUnder_52 : decode cX3_closeUnder 52 = .ok (.return_, 1) := by decide +kernel
set_option maxRecDepth 20000 in
theorem ggX3_turned_X3_joined : GoodIn wsX3_turned wsX3_joined := goodIn_r _ [4] (by decide +kernel) (by decide +kernel)
set_option maxRecDepth 20000 in
theorem gX3_turned_X3_joined : GoodIn wsX3_turned (va_wsS RX3 51 yX3_joined wsX3_joined) := goodIn_app (goodIn_of _ (by decide +kernel)) ggX3_turned_X3_joined
set_option maxRecDepth 20000 in
theorem ggX3_turned_X3_changed : GoodIn wsX3_turned wsX3_changed := goodIn_r _ [7] (by decide +kernel) (by decide +kernel)
set_option maxRecDepth 20000 in
theorem gX3_turned_X3_changed : GoodIn wsX3_turned (va_wsS RX3 55 yX3_changed wsX3_changed) := goodIn_app (goodIn_of _ (by decide +kernel)) ggX3_turned_X3_changed
theorem dX3_turned_0 : decode cX3_turned 0 = .ok (.iload_n 0, 1) := by decide +kernel
theorem dX3_turned_1 : decode cX3_turned 1 = .ok (.bipush 6, 2) := by decide +kernel
theorem dX3_turned_3 : decode cX3_turned 3 = .ok (.ishr, 1) := by decide +kernel
theorem dX3_turned_4 : decode cX3_turned 4 = .ok (.iconst 3, 1) := by decide +kernel
theorem dX3_turned_5 : decode cX3_turned 5 = .ok (.iand, 1) := by decide +kernel
theorem dX3_turned_6 : decode cX3_turned 6 = .ok (.istore_n 2, 1) := by decide +kernel
theorem dX3_turned_7 : decode cX3_turned 7 = .ok (.iload_n 0, 1) := by decide +kernel
theorem dX3_turned_8 : decode cX3_turned 8 = .ok (.iconst 4, 1) := by decide +kernel
theorem dX3_turned_9 : decode cX3_turned 9 = .ok (.ishr, 1) := by decide +kernel
theorem dX3_turned_10 : decode cX3_turned 10 = .ok (.iconst 3, 1) := by decide +kernel
theorem dX3_turned_11 : decode cX3_turned 11 = .ok (.iand, 1) := by decide +kernel
theorem dX3_turned_12 : decode cX3_turned 12 = .ok (.istore_n 3, 1) := by decide +kernel
theorem dX3_turned_13 : decode cX3_turned 13 = .ok (.iload_n 0, 1) := by decide +kernel
theorem dX3_turned_14 : decode cX3_turned 14 = .ok (.iconst 2, 1) := by decide +kernel
theorem dX3_turned_15 : decode cX3_turned 15 = .ok (.ishr, 1) := by decide +kernel
theorem dX3_turned_16 : decode cX3_turned 16 = .ok (.iconst 3, 1) := by decide +kernel
theorem dX3_turned_17 : decode cX3_turned 17 = .ok (.iand, 1) := by decide +kernel
theorem dX3_turned_18 : decode cX3_turned 18 = .ok (.istore 4, 2) := by decide +kernel
theorem dX3_turned_20 : decode cX3_turned 20 = .ok (.iload_n 0, 1) := by decide +kernel
theorem dX3_turned_21 : decode cX3_turned 21 = .ok (.iconst 3, 1) := by decide +kernel
theorem dX3_turned_22 : decode cX3_turned 22 = .ok (.iand, 1) := by decide +kernel
theorem dX3_turned_23 : decode cX3_turned 23 = .ok (.istore 5, 2) := by decide +kernel
theorem dX3_turned_25 : decode cX3_turned 25 = .ok (.iload_n 1, 1) := by decide +kernel
theorem dX3_turned_26 : decode cX3_turned 26 = .ok (.tableswitch 56 0 2 #[26, 36, 46], 26) := by decide +kernel
theorem dX3_turned_52 : decode cX3_turned 52 = .ok (.iload 4, 2) := by decide +kernel
theorem dX3_turned_54 : decode cX3_turned 54 = .ok (.iload_n 2, 1) := by decide +kernel
theorem dX3_turned_55 : decode cX3_turned 55 = .ok (.iload 5, 2) := by decide +kernel
theorem dX3_turned_57 : decode cX3_turned 57 = .ok (.iload_n 3, 1) := by decide +kernel
theorem dX3_turned_58 : decode cX3_turned 58 = .ok (.invokestatic 51, 3) := by decide +kernel
theorem dX3_turned_61 : decode cX3_turned 61 = .ok (.ireturn, 1) := by decide +kernel
theorem dX3_turned_62 : decode cX3_turned 62 = .ok (.iload_n 3, 1) := by decide +kernel
theorem dX3_turned_63 : decode cX3_turned 63 = .ok (.iload_n 2, 1) := by decide +kernel
theorem dX3_turned_64 : decode cX3_turned 64 = .ok (.iload 5, 2) := by decide +kernel
theorem dX3_turned_66 : decode cX3_turned 66 = .ok (.iload 4, 2) := by decide +kernel
theorem dX3_turned_68 : decode cX3_turned 68 = .ok (.invokestatic 51, 3) := by decide +kernel
theorem dX3_turned_71 : decode cX3_turned 71 = .ok (.ireturn, 1) := by decide +kernel
theorem dX3_turned_72 : decode cX3_turned 72 = .ok (.iload 4, 2) := by decide +kernel
theorem dX3_turned_74 : decode cX3_turned 74 = .ok (.iload 5, 2) := by decide +kernel
theorem dX3_turned_76 : decode cX3_turned 76 = .ok (.iload_n 2, 1) := by decide +kernel
theorem dX3_turned_77 : decode cX3_turned 77 = .ok (.iload_n 3, 1) := by decide +kernel
theorem dX3_turned_78 : decode cX3_turned 78 = .ok (.invokestatic 51, 3) := by decide +kernel
theorem dX3_turned_81 : decode cX3_turned 81 = .ok (.ireturn, 1) := by decide +kernel
theorem dX3_turned_82 : decode cX3_turned 82 = .ok (.iload_n 2, 1) := by decide +kernel
theorem dX3_turned_83 : decode cX3_turned 83 = .ok (.invokestatic 55, 3) := by decide +kernel
theorem dX3_turned_86 : decode cX3_turned 86 = .ok (.iload_n 3, 1) := by decide +kernel
theorem dX3_turned_87 : decode cX3_turned 87 = .ok (.invokestatic 55, 3) := by decide +kernel
theorem dX3_turned_90 : decode cX3_turned 90 = .ok (.iload 4, 2) := by decide +kernel
theorem dX3_turned_92 : decode cX3_turned 92 = .ok (.invokestatic 55, 3) := by decide +kernel
theorem dX3_turned_95 : decode cX3_turned 95 = .ok (.iload 5, 2) := by decide +kernel
theorem dX3_turned_97 : decode cX3_turned 97 = .ok (.invokestatic 55, 3) := by decide +kernel
theorem dX3_turned_100 : decode cX3_turned 100 = .ok (.invokestatic 51, 3) := by decide +kernel
theorem dX3_turned_103 : decode cX3_turned 103 = .ok (.ireturn, 1) := by decide +kernel
theorem dX3_joined_0 : decode cX3_joined 0 = .ok (.iload_n 0, 1) := by decide +kernel
theorem dX3_joined_1 : decode cX3_joined 1 = .ok (.bipush 6, 2) := by decide +kernel
theorem dX3_joined_3 : decode cX3_joined 3 = .ok (.ishl, 1) := by decide +kernel
theorem dX3_joined_4 : decode cX3_joined 4 = .ok (.iload_n 1, 1) := by decide +kernel
theorem dX3_joined_5 : decode cX3_joined 5 = .ok (.iconst 4, 1) := by decide +kernel
theorem dX3_joined_6 : decode cX3_joined 6 = .ok (.ishl, 1) := by decide +kernel
theorem dX3_joined_7 : decode cX3_joined 7 = .ok (.ior, 1) := by decide +kernel
theorem dX3_joined_8 : decode cX3_joined 8 = .ok (.iload_n 2, 1) := by decide +kernel
theorem dX3_joined_9 : decode cX3_joined 9 = .ok (.iconst 2, 1) := by decide +kernel
theorem dX3_joined_10 : decode cX3_joined 10 = .ok (.ishl, 1) := by decide +kernel
theorem dX3_joined_11 : decode cX3_joined 11 = .ok (.ior, 1) := by decide +kernel
theorem dX3_joined_12 : decode cX3_joined 12 = .ok (.iload_n 3, 1) := by decide +kernel
theorem dX3_joined_13 : decode cX3_joined 13 = .ok (.ior, 1) := by decide +kernel
theorem dX3_joined_14 : decode cX3_joined 14 = .ok (.ireturn, 1) := by decide +kernel
theorem dX3_changed_0 : decode cX3_changed 0 = .ok (.iload_n 0, 1) := by decide +kernel
theorem dX3_changed_1 : decode cX3_changed 1 = .ok (.iconst 2, 1) := by decide +kernel
theorem dX3_changed_2 : decode cX3_changed 2 = .ok (.if_icmp .ge 9, 3) := by decide +kernel
theorem dX3_changed_5 : decode cX3_changed 5 = .ok (.iconst 1, 1) := by decide +kernel
theorem dX3_changed_6 : decode cX3_changed 6 = .ok (.iload_n 0, 1) := by decide +kernel
theorem dX3_changed_7 : decode cX3_changed 7 = .ok (.isub, 1) := by decide +kernel
theorem dX3_changed_8 : decode cX3_changed 8 = .ok (.goto 4, 3) := by decide +kernel
theorem dX3_changed_11 : decode cX3_changed 11 = .ok (.iload_n 0, 1) := by decide +kernel
theorem dX3_changed_12 : decode cX3_changed 12 = .ok (.ireturn, 1) := by decide +kernel
theorem dX4_init_0 : decode cX4_init 0 = .ok (.aload_n 0, 1) := by decide +kernel
theorem dX4_init_1 : decode cX4_init 1 = .ok (.invokespecial 3, 3) := by decide +kernel
theorem dX4_init_4 : decode cX4_init 4 = .ok (.aload_n 0, 1) := by decide +kernel
theorem dX4_init_5 : decode cX4_init 5 = .ok (.iconst 1, 1) := by decide +kernel
theorem dX4_init_6 : decode cX4_init 6 = .ok (.putfield 9, 3) := by decide +kernel
theorem dX4_init_9 : decode cX4_init 9 = .ok (.aload_n 0, 1) := by decide +kernel
theorem dX4_init_10 : decode cX4_init 10 = .ok (.iconst 1, 1) := by decide +kernel
theorem dX4_init_11 : decode cX4_init 11 = .ok (.putfield 15, 3) := by decide +kernel
theorem dX4_init_14 : decode cX4_init 14 = .ok (.aload_n 0, 1) := by decide +kernel
theorem dX4_init_15 : decode cX4_init 15 = .ok (.bipush 25, 2) := by decide +kernel
theorem dX4_init_17 : decode cX4_init 17 = .ok (.newarray .int, 2) := by decide +kernel
theorem dX4_init_19 : decode cX4_init 19 = .ok (.putfield 18, 3) := by decide +kernel
theorem dX4_init_22 : decode cX4_init 22 = .ok (.return_, 1) := by decide +kernel
set_option maxRecDepth 20000 in
theorem ggX4_lay_J7_fill_53178 : GoodIn wsX4_lay wsJ7_fill_53178 := goodIn_r _ [7] (by decide +kernel) (by decide +kernel)
set_option maxRecDepth 20000 in
theorem gX4_lay_J7_fill_53178 : GoodIn wsX4_lay (va_wsS RX4 22 yJ7_fill_53178 wsJ7_fill_53178) := goodIn_app (goodIn_of _ (by decide +kernel)) ggX4_lay_J7_fill_53178
theorem dX4_lay_0 : decode cX4_lay 0 = .ok (.aload_n 0, 1) := by decide +kernel
theorem dX4_lay_1 : decode cX4_lay 1 = .ok (.iload_n 1, 1) := by decide +kernel
theorem dX4_lay_2 : decode cX4_lay 2 = .ok (.putfield 9, 3) := by decide +kernel
theorem dX4_lay_5 : decode cX4_lay 5 = .ok (.aload_n 0, 1) := by decide +kernel
theorem dX4_lay_6 : decode cX4_lay 6 = .ok (.iload_n 2, 1) := by decide +kernel
theorem dX4_lay_7 : decode cX4_lay 7 = .ok (.putfield 15, 3) := by decide +kernel
theorem dX4_lay_10 : decode cX4_lay 10 = .ok (.aload_n 0, 1) := by decide +kernel
theorem dX4_lay_11 : decode cX4_lay 11 = .ok (.getfield 18, 3) := by decide +kernel
theorem dX4_lay_14 : decode cX4_lay 14 = .ok (.iconst (-1), 1) := by decide +kernel
theorem dX4_lay_15 : decode cX4_lay 15 = .ok (.invokestatic 22, 3) := by decide +kernel
theorem dX4_lay_18 : decode cX4_lay 18 = .ok (.return_, 1) := by decide +kernel
theorem dX4_size_0 : decode cX4_size 0 = .ok (.aload_n 0, 1) := by decide +kernel
theorem dX4_size_1 : decode cX4_size 1 = .ok (.getfield 9, 3) := by decide +kernel
theorem dX4_size_4 : decode cX4_size 4 = .ok (.aload_n 0, 1) := by decide +kernel
theorem dX4_size_5 : decode cX4_size 5 = .ok (.getfield 15, 3) := by decide +kernel
theorem dX4_size_8 : decode cX4_size 8 = .ok (.imul, 1) := by decide +kernel
theorem dX4_size_9 : decode cX4_size 9 = .ok (.ireturn, 1) := by decide +kernel
set_option maxRecDepth 20000 in
theorem ggX4_holds_X4_size : GoodIn wsX4_holds wsX4_size := goodIn_r _ [5, 6, 7, 8, 9, 10] (by decide +kernel) (by decide +kernel)
set_option maxRecDepth 20000 in
theorem gX4_holds_X4_size : GoodIn wsX4_holds (wsV RX4 28 RX4 yX4_size wsX4_size) := goodIn_app (goodIn_of _ (by decide +kernel)) ggX4_holds_X4_size
theorem dX4_holds_0 : decode cX4_holds 0 = .ok (.iload_n 1, 1) := by decide +kernel
theorem dX4_holds_1 : decode cX4_holds 1 = .ok (.ifCond .lt 15, 3) := by decide +kernel
theorem dX4_holds_4 : decode cX4_holds 4 = .ok (.iload_n 1, 1) := by decide +kernel
theorem dX4_holds_5 : decode cX4_holds 5 = .ok (.aload_n 0, 1) := by decide +kernel
theorem dX4_holds_6 : decode cX4_holds 6 = .ok (.invokevirtual 28, 3) := by decide +kernel
theorem dX4_holds_9 : decode cX4_holds 9 = .ok (.if_icmp .ge 7, 3) := by decide +kernel
theorem dX4_holds_12 : decode cX4_holds 12 = .ok (.iconst 1, 1) := by decide +kernel
theorem dX4_holds_13 : decode cX4_holds 13 = .ok (.goto 4, 3) := by decide +kernel
theorem dX4_holds_16 : decode cX4_holds 16 = .ok (.iconst 0, 1) := by decide +kernel
theorem dX4_holds_17 : decode cX4_holds 17 = .ok (.ireturn, 1) := by decide +kernel
set_option maxRecDepth 20000 in
theorem ggX4_gaps_X4_size : GoodIn wsX4_gaps wsX4_size := goodIn_r _ [6, 7, 8, 9, 10, 11] (by decide +kernel) (by decide +kernel)
set_option maxRecDepth 20000 in
theorem gX4_gaps_X4_size : GoodIn wsX4_gaps (wsV RX4 28 RX4 yX4_size wsX4_size) := goodIn_app (goodIn_of _ (by decide +kernel)) ggX4_gaps_X4_size
theorem dX4_gaps_0 : decode cX4_gaps 0 = .ok (.iconst 0, 1) := by decide +kernel
theorem dX4_gaps_1 : decode cX4_gaps 1 = .ok (.istore_n 1, 1) := by decide +kernel
theorem dX4_gaps_2 : decode cX4_gaps 2 = .ok (.aload_n 0, 1) := by decide +kernel
theorem dX4_gaps_3 : decode cX4_gaps 3 = .ok (.invokevirtual 28, 3) := by decide +kernel
theorem dX4_gaps_6 : decode cX4_gaps 6 = .ok (.istore_n 2, 1) := by decide +kernel
theorem dX4_gaps_7 : decode cX4_gaps 7 = .ok (.iconst 0, 1) := by decide +kernel
theorem dX4_gaps_8 : decode cX4_gaps 8 = .ok (.istore_n 3, 1) := by decide +kernel
theorem dX4_gaps_9 : decode cX4_gaps 9 = .ok (.iload_n 3, 1) := by decide +kernel
theorem dX4_gaps_10 : decode cX4_gaps 10 = .ok (.iload_n 2, 1) := by decide +kernel
theorem dX4_gaps_11 : decode cX4_gaps 11 = .ok (.if_icmp .ge 22, 3) := by decide +kernel
theorem dX4_gaps_14 : decode cX4_gaps 14 = .ok (.aload_n 0, 1) := by decide +kernel
theorem dX4_gaps_15 : decode cX4_gaps 15 = .ok (.getfield 18, 3) := by decide +kernel
theorem dX4_gaps_18 : decode cX4_gaps 18 = .ok (.iload_n 3, 1) := by decide +kernel
theorem dX4_gaps_19 : decode cX4_gaps 19 = .ok (.iaload, 1) := by decide +kernel
theorem dX4_gaps_20 : decode cX4_gaps 20 = .ok (.iconst (-1), 1) := by decide +kernel
theorem dX4_gaps_21 : decode cX4_gaps 21 = .ok (.if_icmp .ne 6, 3) := by decide +kernel
theorem dX4_gaps_24 : decode cX4_gaps 24 = .ok (.iinc 1 1, 3) := by decide +kernel
