theorem dX9_countLook_45 : decode cX9_countLook 45 = .ok (.iload 4, 2) := by decide +kernel
theorem dX9_countLook_47 : decode cX9_countLook 47 = .ok (.iadd, 1) := by decide +kernel
theorem dX9_countLook_48 : decode cX9_countLook 48 = .ok (.iload 5, 2) := by decide +kernel
theorem dX9_countLook_50 : decode cX9_countLook 50 = .ok (.iload_n 3, 1) := by decide +kernel
theorem dX9_countLook_51 : decode cX9_countLook 51 = .ok (.iload_n 2, 1) := by decide +kernel
theorem dX9_countLook_52 : decode cX9_countLook 52 = .ok (.iload 6, 2) := by decide +kernel
theorem dX9_countLook_54 : decode cX9_countLook 54 = .ok (.imul, 1) := by decide +kernel
theorem dX9_countLook_55 : decode cX9_countLook 55 = .ok (.ishr, 1) := by decide +kernel
theorem dX9_countLook_56 : decode cX9_countLook 56 = .ok (.iconst 1, 1) := by decide +kernel
theorem dX9_countLook_57 : decode cX9_countLook 57 = .ok (.iload_n 2, 1) := by decide +kernel
theorem dX9_countLook_58 : decode cX9_countLook 58 = .ok (.ishl, 1) := by decide +kernel
theorem dX9_countLook_59 : decode cX9_countLook 59 = .ok (.iconst 1, 1) := by decide +kernel
theorem dX9_countLook_60 : decode cX9_countLook 60 = .ok (.isub, 1) := by decide +kernel
theorem dX9_countLook_61 : decode cX9_countLook 61 = .ok (.iand, 1) := by decide +kernel
theorem dX9_countLook_62 : decode cX9_countLook 62 = .ok (.if_icmp .ne 7, 3) := by decide +kernel
theorem dX9_countLook_65 : decode cX9_countLook 65 = .ok (.iconst 1, 1) := by decide +kernel
theorem dX9_countLook_66 : decode cX9_countLook 66 = .ok (.goto 4, 3) := by decide +kernel
theorem dX9_countLook_69 : decode cX9_countLook 69 = .ok (.iconst 0, 1) := by decide +kernel
theorem dX9_countLook_70 : decode cX9_countLook 70 = .ok (.bastore, 1) := by decide +kernel
theorem dX9_countLook_71 : decode cX9_countLook 71 = .ok (.iinc 6 1, 3) := by decide +kernel
theorem dX9_countLook_74 : decode cX9_countLook 74 = .ok (.goto (-45), 3) := by decide +kernel
theorem dX9_countLook_77 : decode cX9_countLook 77 = .ok (.iinc 4 1, 3) := by decide +kernel
theorem dX9_countLook_80 : decode cX9_countLook 80 = .ok (.goto (-72), 3) := by decide +kernel
theorem dX9_countLook_83 : decode cX9_countLook 83 = .ok (.aload_n 0, 1) := by decide +kernel
theorem dX9_countLook_84 : decode cX9_countLook 84 = .ok (.iload_n 1, 1) := by decide +kernel
theorem dX9_countLook_85 : decode cX9_countLook 85 = .ok (.invokevirtual 172, 3) := by decide +kernel
theorem dX9_countLook_88 : decode cX9_countLook 88 = .ok (.lreturn, 1) := by decide +kernel
set_option maxRecDepth 20000 in
theorem ggX9_isLook_X9_isSize : GoodIn wsX9_isLook wsX9_isSize := goodIn_r _ [4, 5, 6, 7, 3, 8] (by decide +kernel) (by decide +kernel)
set_option maxRecDepth 20000 in
theorem gX9_isLook_X9_isSize : GoodIn wsX9_isLook (va_wsS RX9 116 yX9_isSize wsX9_isSize) := goodIn_app (goodIn_of _ (by decide +kernel)) ggX9_isLook_X9_isSize
set_option maxRecDepth 20000 in
theorem ggX9_isLook_X9_in : GoodIn wsX9_isLook wsX9_in := goodIn_r _ [8] (by decide +kernel) (by decide +kernel)
set_option maxRecDepth 20000 in
theorem gX9_isLook_X9_in : GoodIn wsX9_isLook (va_wsS RX9 95 yX9_in wsX9_in) := goodIn_app (goodIn_of _ (by decide +kernel)) ggX9_isLook_X9_in
theorem dX9_isLook_0 : decode cX9_isLook 0 = .ok (.iload_n 0, 1) := by decide +kernel
theorem dX9_isLook_1 : decode cX9_isLook 1 = .ok (.iload_n 1, 1) := by decide +kernel
theorem dX9_isLook_2 : decode cX9_isLook 2 = .ok (.invokestatic 116, 3) := by decide +kernel
theorem dX9_isLook_5 : decode cX9_isLook 5 = .ok (.ifCond .eq 24, 3) := by decide +kernel
theorem dX9_isLook_8 : decode cX9_isLook 8 = .ok (.iload_n 2, 1) := by decide +kernel
theorem dX9_isLook_9 : decode cX9_isLook 9 = .ok (.i2l, 1) := by decide +kernel
theorem dX9_isLook_10 : decode cX9_isLook 10 = .ok (.lconst 0, 1) := by decide +kernel
theorem dX9_isLook_11 : decode cX9_isLook 11 = .ok (.iconst 1, 1) := by decide +kernel
theorem dX9_isLook_12 : decode cX9_isLook 12 = .ok (.iload_n 0, 1) := by decide +kernel
theorem dX9_isLook_13 : decode cX9_isLook 13 = .ok (.iload_n 1, 1) := by decide +kernel
theorem dX9_isLook_14 : decode cX9_isLook 14 = .ok (.imul, 1) := by decide +kernel
theorem dX9_isLook_15 : decode cX9_isLook 15 = .ok (.ishl, 1) := by decide +kernel
theorem dX9_isLook_16 : decode cX9_isLook 16 = .ok (.iconst 1, 1) := by decide +kernel
theorem dX9_isLook_17 : decode cX9_isLook 17 = .ok (.isub, 1) := by decide +kernel
theorem dX9_isLook_18 : decode cX9_isLook 18 = .ok (.i2l, 1) := by decide +kernel
theorem dX9_isLook_19 : decode cX9_isLook 19 = .ok (.invokestatic 95, 3) := by decide +kernel
theorem dX9_isLook_22 : decode cX9_isLook 22 = .ok (.ifCond .eq 7, 3) := by decide +kernel
theorem dX9_isLook_25 : decode cX9_isLook 25 = .ok (.iconst 1, 1) := by decide +kernel
theorem dX9_isLook_26 : decode cX9_isLook 26 = .ok (.goto 4, 3) := by decide +kernel
theorem dX9_isLook_29 : decode cX9_isLook 29 = .ok (.iconst 0, 1) := by decide +kernel
theorem dX9_isLook_30 : decode cX9_isLook 30 = .ok (.ireturn, 1) := by decide +kernel
set_option maxRecDepth 20000 in
theorem ggX9_looks_X9_isLook : GoodIn wsX9_looks wsX9_isLook := goodIn_r _ [4, 5, 6, 3, 7, 8, 9, 10, 11] (by decide +kernel) (by decide +kernel)
set_option maxRecDepth 20000 in
theorem gX9_looks_X9_isLook : GoodIn wsX9_looks (va_wsS RX9 197 yX9_isLook wsX9_isLook) := goodIn_app (goodIn_of _ (by decide +kernel)) ggX9_looks_X9_isLook
set_option maxRecDepth 20000 in
theorem ggX9_looks_X9_countLook : GoodIn wsX9_looks wsX9_countLook := goodIn_r _ [15, 16, 17, 18, 19, 20, 3, 21, 22, 23, 24, 25, 26, 27, 28, 29, 30, 31, 32, 33, 34, 35, 36, 37, 38, 39, 40, 41, 42, 43, 44, 45, 46, 47, 48, 49, 50, 51, 52, 53, 54, 55, 56, 57, 58, 59, 60, 61, 62, 63, 64, 65, 66, 67, 68, 69, 70, 71, 72, 73, 74, 75, 76, 77, 78, 79, 80, 81, 82] (by decide +kernel) (by decide +kernel)
set_option maxRecDepth 20000 in
theorem gX9_looks_X9_countLook : GoodIn wsX9_looks (wsV RX9 200 RX9 yX9_countLook wsX9_countLook) := goodIn_app (goodIn_of _ (by decide +kernel)) ggX9_looks_X9_countLook
theorem dX9_looks_0 : decode cX9_looks 0 = .ok (.iload_n 1, 1) := by decide +kernel
theorem dX9_looks_1 : decode cX9_looks 1 = .ok (.iload_n 2, 1) := by decide +kernel
theorem dX9_looks_2 : decode cX9_looks 2 = .ok (.iload_n 3, 1) := by decide +kernel
theorem dX9_looks_3 : decode cX9_looks 3 = .ok (.invokestatic 197, 3) := by decide +kernel
theorem dX9_looks_6 : decode cX9_looks 6 = .ok (.ifCond .eq 14, 3) := by decide +kernel
theorem dX9_looks_9 : decode cX9_looks 9 = .ok (.aload_n 0, 1) := by decide +kernel
theorem dX9_looks_10 : decode cX9_looks 10 = .ok (.iload_n 1, 1) := by decide +kernel
theorem dX9_looks_11 : decode cX9_looks 11 = .ok (.iload_n 2, 1) := by decide +kernel
theorem dX9_looks_12 : decode cX9_looks 12 = .ok (.iload_n 3, 1) := by decide +kernel
theorem dX9_looks_13 : decode cX9_looks 13 = .ok (.invokevirtual 200, 3) := by decide +kernel
theorem dX9_looks_16 : decode cX9_looks 16 = .ok (.l2i, 1) := by decide +kernel
theorem dX9_looks_17 : decode cX9_looks 17 = .ok (.goto 5, 3) := by decide +kernel
theorem dX9_looks_20 : decode cX9_looks 20 = .ok (.bipush (-3), 2) := by decide +kernel
theorem dX9_looks_22 : decode cX9_looks 22 = .ok (.ireturn, 1) := by decide +kernel
set_option maxRecDepth 20000 in
theorem ggX9_look_X9_isLook : GoodIn wsX9_look wsX9_isLook := goodIn_r _ [5, 6, 7, 4, 8, 9, 10, 11, 12] (by decide +kernel) (by decide +kernel)
set_option maxRecDepth 20000 in
theorem gX9_look_X9_isLook : GoodIn wsX9_look (va_wsS RX9 197 yX9_isLook wsX9_isLook) := goodIn_app (goodIn_of _ (by decide +kernel)) ggX9_look_X9_isLook
set_option maxRecDepth 20000 in
theorem ggX9_look_X9_in : GoodIn wsX9_look wsX9_in := goodIn_r _ [12] (by decide +kernel) (by decide +kernel)
set_option maxRecDepth 20000 in
theorem gX9_look_X9_in : GoodIn wsX9_look (va_wsS RX9 95 yX9_in wsX9_in) := goodIn_app (goodIn_of _ (by decide +kernel)) ggX9_look_X9_in
set_option maxRecDepth 20000 in
theorem ggX9_look_X9_countLook : GoodIn wsX9_look wsX9_countLook := goodIn_r _ [16, 17, 18, 19, 20, 21, 4, 22, 23, 24, 25, 26, 27, 28, 29, 30, 31, 32, 33, 34, 35, 36, 37, 38, 39, 40, 41, 42, 43, 44, 45, 46, 47, 48, 49, 50, 51, 52, 53, 58, 59, 60, 61, 62, 63, 64, 65, 66, 67, 68, 69, 70, 71, 72, 73, 74, 75, 76, 77, 78, 79, 80, 81, 82, 83, 84, 85, 86, 87] (by decide +kernel) (by decide +kernel)
set_option maxRecDepth 20000 in
theorem gX9_look_X9_countLook : GoodIn wsX9_look (wsV RX9 200 RX9 yX9_countLook wsX9_countLook) := goodIn_app (goodIn_of _ (by decide +kernel)) ggX9_look_X9_countLook
set_option maxRecDepth 20000 in
theorem ggX9_look_X9_layFound : GoodIn wsX9_look wsX9_layFound := goodIn_r _ [57, 23, 25, 1, 49, 58, 59, 60, 61, 62, 63, 64, 65, 66, 67, 68, 69, 70, 71, 72, 73, 74, 75, 76, 77, 78, 79, 80, 81, 82, 83, 84, 85, 86, 87] (by decide +kernel) (by decide +kernel)
set_option maxRecDepth 20000 in
theorem gX9_look_X9_layFound : GoodIn wsX9_look (wsV RX9 182 RX9 yX9_layFound wsX9_layFound) := goodIn_app (goodIn_of _ (by decide +kernel)) ggX9_look_X9_layFound
set_option maxRecDepth 20000 in
theorem ggX9_look_X9_cellOf : GoodIn wsX9_look wsX9_cellOf := goodIn_r _ [39, 30, 58, 59, 60, 61, 62, 63, 64, 65, 66, 67, 68, 69, 70, 71, 72, 73, 74, 75, 76, 77, 78, 79, 80, 81, 82, 83, 84, 85, 86, 87] (by decide +kernel) (by decide +kernel)
set_option maxRecDepth 20000 in
theorem gX9_look_X9_cellOf : GoodIn wsX9_look (wsV RX9 146 RX9 yX9_cellOf wsX9_cellOf) := goodIn_app (goodIn_of _ (by decide +kernel)) ggX9_look_X9_cellOf
theorem dX9_look_0 : decode cX9_look 0 = .ok (.iload_n 1, 1) := by decide +kernel
theorem dX9_look_1 : decode cX9_look 1 = .ok (.iload_n 2, 1) := by decide +kernel
theorem dX9_look_2 : decode cX9_look 2 = .ok (.iload_n 3, 1) := by decide +kernel
theorem dX9_look_3 : decode cX9_look 3 = .ok (.invokestatic 197, 3) := by decide +kernel
theorem dX9_look_6 : decode cX9_look 6 = .ok (.ifCond .eq 19, 3) := by decide +kernel
theorem dX9_look_9 : decode cX9_look 9 = .ok (.iload 4, 2) := by decide +kernel
theorem dX9_look_11 : decode cX9_look 11 = .ok (.i2l, 1) := by decide +kernel
theorem dX9_look_12 : decode cX9_look 12 = .ok (.lconst 0, 1) := by decide +kernel
theorem dX9_look_13 : decode cX9_look 13 = .ok (.iload_n 1, 1) := by decide +kernel
theorem dX9_look_14 : decode cX9_look 14 = .ok (.iload_n 2, 1) := by decide +kernel
theorem dX9_look_15 : decode cX9_look 15 = .ok (.imul, 1) := by decide +kernel
theorem dX9_look_16 : decode cX9_look 16 = .ok (.iconst 1, 1) := by decide +kernel
theorem dX9_look_17 : decode cX9_look 17 = .ok (.isub, 1) := by decide +kernel
theorem dX9_look_18 : decode cX9_look 18 = .ok (.i2l, 1) := by decide +kernel
theorem dX9_look_19 : decode cX9_look 19 = .ok (.invokestatic 95, 3) := by decide +kernel
theorem dX9_look_22 : decode cX9_look 22 = .ok (.ifCond .ne 6, 3) := by decide +kernel
theorem dX9_look_25 : decode cX9_look 25 = .ok (.bipush (-3), 2) := by decide +kernel
theorem dX9_look_27 : decode cX9_look 27 = .ok (.ireturn, 1) := by decide +kernel
theorem dX9_look_28 : decode cX9_look 28 = .ok (.aload_n 0, 1) := by decide +kernel
theorem dX9_look_29 : decode cX9_look 29 = .ok (.iload_n 1, 1) := by decide +kernel
theorem dX9_look_30 : decode cX9_look 30 = .ok (.iload_n 2, 1) := by decide +kernel
theorem dX9_look_31 : decode cX9_look 31 = .ok (.iload_n 3, 1) := by decide +kernel
theorem dX9_look_32 : decode cX9_look 32 = .ok (.invokevirtual 200, 3) := by decide +kernel
theorem dX9_look_35 : decode cX9_look 35 = .ok (.lconst 0, 1) := by decide +kernel
theorem dX9_look_36 : decode cX9_look 36 = .ok (.lcmp, 1) := by decide +kernel
theorem dX9_look_37 : decode cX9_look 37 = .ok (.ifCond .ne 5, 3) := by decide +kernel
theorem dX9_look_40 : decode cX9_look 40 = .ok (.iconst (-1), 1) := by decide +kernel
theorem dX9_look_41 : decode cX9_look 41 = .ok (.ireturn, 1) := by decide +kernel
theorem dX9_look_42 : decode cX9_look 42 = .ok (.aload_n 0, 1) := by decide +kernel
theorem dX9_look_43 : decode cX9_look 43 = .ok (.iload_n 1, 1) := by decide +kernel
theorem dX9_look_44 : decode cX9_look 44 = .ok (.lconst 0, 1) := by decide +kernel
theorem dX9_look_45 : decode cX9_look 45 = .ok (.invokevirtual 182, 3) := by decide +kernel
theorem dX9_look_48 : decode cX9_look 48 = .ok (.aload_n 0, 1) := by decide +kernel
theorem dX9_look_49 : decode cX9_look 49 = .ok (.aload_n 0, 1) := by decide +kernel
theorem dX9_look_50 : decode cX9_look 50 = .ok (.getfield 56, 3) := by decide +kernel
theorem dX9_look_53 : decode cX9_look 53 = .ok (.iload 4, 2) := by decide +kernel
theorem dX9_look_55 : decode cX9_look 55 = .ok (.iload_n 2, 1) := by decide +kernel
theorem dX9_look_56 : decode cX9_look 56 = .ok (.idiv, 1) := by decide +kernel
theorem dX9_look_57 : decode cX9_look 57 = .ok (.iaload, 1) := by decide +kernel
theorem dX9_look_58 : decode cX9_look 58 = .ok (.iload 4, 2) := by decide +kernel
theorem dX9_look_60 : decode cX9_look 60 = .ok (.iload_n 2, 1) := by decide +kernel
theorem dX9_look_61 : decode cX9_look 61 = .ok (.irem, 1) := by decide +kernel
theorem dX9_look_62 : decode cX9_look 62 = .ok (.iload_n 2, 1) := by decide +kernel
theorem dX9_look_63 : decode cX9_look 63 = .ok (.invokevirtual 146, 3) := by decide +kernel
theorem dX9_look_66 : decode cX9_look 66 = .ok (.ireturn, 1) := by decide +kernel
set_option maxRecDepth 20000 in
theorem ggX9_views_X9_isSize : GoodIn wsX9_views wsX9_isSize := goodIn_r _ [8, 9, 10, 11, 7, 12] (by decide +kernel) (by decide +kernel)
set_option maxRecDepth 20000 in
theorem gX9_views_X9_isSize : GoodIn wsX9_views (va_wsS RX9 116 yX9_isSize wsX9_isSize) := goodIn_app (goodIn_of _ (by decide +kernel)) ggX9_views_X9_isSize
set_option maxRecDepth 20000 in
theorem ggX9_views_X9_layFits : GoodIn wsX9_views wsX9_layFits := goodIn_r _ [16, 1, 3, 4, 17, 18, 19, 20, 7, 21, 22, 23, 24, 25, 26, 27, 28, 29, 30, 31, 42, 43, 44, 45, 46, 47, 48, 49, 50, 51, 52, 53, 54, 55, 56, 57, 58, 59, 60, 61, 62, 63, 64, 65, 66, 67, 68, 69, 70, 71] (by decide +kernel) (by decide +kernel)
set_option maxRecDepth 20000 in
theorem gX9_views_X9_layFits : GoodIn wsX9_views (wsV RX9 166 RX9 yX9_layFits wsX9_layFits) := goodIn_app (goodIn_of _ (by decide +kernel)) ggX9_views_X9_layFits
set_option maxRecDepth 20000 in
theorem ggX9_views_X9_lookOf : GoodIn wsX9_views wsX9_lookOf := goodIn_r _ [35, 36, 28, 29, 30, 7, 31, 22, 42, 43, 44, 45, 46, 47, 48, 49, 50, 51, 52, 53, 54, 55, 56, 57, 58, 59, 60, 61, 62, 63, 64, 65, 66, 67, 68, 69, 70, 71] (by decide +kernel) (by decide +kernel)
set_option maxRecDepth 20000 in
theorem gX9_views_X9_lookOf : GoodIn wsX9_views (wsV RX9 194 RX9 yX9_lookOf wsX9_lookOf) := goodIn_app (goodIn_of _ (by decide +kernel)) ggX9_views_X9_lookOf
set_option maxRecDepth 20000 in
theorem ggX9_views_X9_goViews : GoodIn wsX9_views wsX9_goViews := goodIn_r _ [40, 1, 41, 17, 2, 32, 33, 34, 7, 35, 36, 28, 29, 30, 31, 22, 42, 43, 44, 45, 46, 47, 48, 49, 50, 51, 52, 53, 54, 55, 56, 57, 58, 59, 60, 61, 62, 63, 64, 65, 66, 67, 68, 69, 70, 71] (by decide +kernel) (by decide +kernel)
set_option maxRecDepth 20000 in
theorem gX9_views_X9_goViews : GoodIn wsX9_views (wsV RX9 204 RX9 yX9_goViews wsX9_goViews) := goodIn_app (goodIn_of _ (by decide +kernel)) ggX9_views_X9_goViews
theorem dX9_views_0 : decode cX9_views 0 = .ok (.iload_n 1, 1) := by decide +kernel
theorem dX9_views_1 : decode cX9_views 1 = .ok (.iload_n 2, 1) := by decide +kernel
theorem dX9_views_2 : decode cX9_views 2 = .ok (.invokestatic 116, 3) := by decide +kernel
theorem dX9_views_5 : decode cX9_views 5 = .ok (.ifCond .ne 6, 3) := by decide +kernel
theorem dX9_views_8 : decode cX9_views 8 = .ok (.bipush (-3), 2) := by decide +kernel
theorem dX9_views_10 : decode cX9_views 10 = .ok (.ireturn, 1) := by decide +kernel
theorem dX9_views_11 : decode cX9_views 11 = .ok (.iload_n 1, 1) := by decide +kernel
theorem dX9_views_12 : decode cX9_views 12 = .ok (.iload_n 2, 1) := by decide +kernel
theorem dX9_views_13 : decode cX9_views 13 = .ok (.imul, 1) := by decide +kernel
theorem dX9_views_14 : decode cX9_views 14 = .ok (.bipush 12, 2) := by decide +kernel
theorem dX9_views_16 : decode cX9_views 16 = .ok (.if_icmp .le 6, 3) := by decide +kernel
theorem dX9_views_19 : decode cX9_views 19 = .ok (.bipush (-4), 2) := by decide +kernel
theorem dX9_views_21 : decode cX9_views 21 = .ok (.ireturn, 1) := by decide +kernel
theorem dX9_views_22 : decode cX9_views 22 = .ok (.aload_n 0, 1) := by decide +kernel
theorem dX9_views_23 : decode cX9_views 23 = .ok (.iload_n 2, 1) := by decide +kernel
theorem dX9_views_24 : decode cX9_views 24 = .ok (.invokevirtual 166, 3) := by decide +kernel
theorem dX9_views_27 : decode cX9_views 27 = .ok (.iconst 1, 1) := by decide +kernel
theorem dX9_views_28 : decode cX9_views 28 = .ok (.iload_n 1, 1) := by decide +kernel
theorem dX9_views_29 : decode cX9_views 29 = .ok (.iload_n 2, 1) := by decide +kernel
theorem dX9_views_30 : decode cX9_views 30 = .ok (.imul, 1) := by decide +kernel
theorem dX9_views_31 : decode cX9_views 31 = .ok (.ishl, 1) := by decide +kernel
theorem dX9_views_32 : decode cX9_views 32 = .ok (.istore_n 3, 1) := by decide +kernel
theorem dX9_views_33 : decode cX9_views 33 = .ok (.iconst 0, 1) := by decide +kernel
theorem dX9_views_34 : decode cX9_views 34 = .ok (.istore 4, 2) := by decide +kernel
theorem dX9_views_36 : decode cX9_views 36 = .ok (.iload 4, 2) := by decide +kernel
theorem dX9_views_38 : decode cX9_views 38 = .ok (.aload_n 0, 1) := by decide +kernel
theorem dX9_views_39 : decode cX9_views 39 = .ok (.getfield 153, 3) := by decide +kernel
theorem dX9_views_42 : decode cX9_views 42 = .ok (.iload_n 3, 1) := by decide +kernel
theorem dX9_views_43 : decode cX9_views 43 = .ok (.imul, 1) := by decide +kernel
theorem dX9_views_44 : decode cX9_views 44 = .ok (.if_icmp .ge 17, 3) := by decide +kernel
theorem dX9_views_47 : decode cX9_views 47 = .ok (.aload_n 0, 1) := by decide +kernel
theorem dX9_views_48 : decode cX9_views 48 = .ok (.getfield 63, 3) := by decide +kernel
theorem dX9_views_51 : decode cX9_views 51 = .ok (.iload 4, 2) := by decide +kernel
theorem dX9_views_53 : decode cX9_views 53 = .ok (.iconst 0, 1) := by decide +kernel
theorem dX9_views_54 : decode cX9_views 54 = .ok (.bastore, 1) := by decide +kernel
theorem dX9_views_55 : decode cX9_views 55 = .ok (.iinc 4 1, 3) := by decide +kernel
theorem dX9_views_58 : decode cX9_views 58 = .ok (.goto (-22), 3) := by decide +kernel
theorem dX9_views_61 : decode cX9_views 61 = .ok (.iconst 0, 1) := by decide +kernel
theorem dX9_views_62 : decode cX9_views 62 = .ok (.istore 4, 2) := by decide +kernel
theorem dX9_views_64 : decode cX9_views 64 = .ok (.iload 4, 2) := by decide +kernel
theorem dX9_views_66 : decode cX9_views 66 = .ok (.aload_n 0, 1) := by decide +kernel
theorem dX9_views_67 : decode cX9_views 67 = .ok (.getfield 153, 3) := by decide +kernel
theorem dX9_views_70 : decode cX9_views 70 = .ok (.if_icmp .ge 33, 3) := by decide +kernel
theorem dX9_views_73 : decode cX9_views 73 = .ok (.aload_n 0, 1) := by decide +kernel
theorem dX9_views_74 : decode cX9_views 74 = .ok (.getfield 63, 3) := by decide +kernel
theorem dX9_views_77 : decode cX9_views 77 = .ok (.iload_n 3, 1) := by decide +kernel
theorem dX9_views_78 : decode cX9_views 78 = .ok (.iload 4, 2) := by decide +kernel
theorem dX9_views_80 : decode cX9_views 80 = .ok (.imul, 1) := by decide +kernel
theorem dX9_views_81 : decode cX9_views 81 = .ok (.aload_n 0, 1) := by decide +kernel
theorem dX9_views_82 : decode cX9_views 82 = .ok (.iload 4, 2) := by decide +kernel
theorem dX9_views_84 : decode cX9_views 84 = .ok (.iload_n 2, 1) := by decide +kernel
theorem dX9_views_85 : decode cX9_views 85 = .ok (.invokevirtual 194, 3) := by decide +kernel
theorem dX9_views_88 : decode cX9_views 88 = .ok (.iadd, 1) := by decide +kernel
theorem dX9_views_89 : decode cX9_views 89 = .ok (.aload_n 0, 1) := by decide +kernel
theorem dX9_views_90 : decode cX9_views 90 = .ok (.getfield 43, 3) := by decide +kernel
theorem dX9_views_93 : decode cX9_views 93 = .ok (.iload 4, 2) := by decide +kernel
theorem dX9_views_95 : decode cX9_views 95 = .ok (.baload, 1) := by decide +kernel
theorem dX9_views_96 : decode cX9_views 96 = .ok (.bastore, 1) := by decide +kernel
theorem dX9_views_97 : decode cX9_views 97 = .ok (.iinc 4 1, 3) := by decide +kernel
theorem dX9_views_100 : decode cX9_views 100 = .ok (.goto (-36), 3) := by decide +kernel
theorem dX9_views_103 : decode cX9_views 103 = .ok (.iconst 1, 1) := by decide +kernel
theorem dX9_views_104 : decode cX9_views 104 = .ok (.istore 4, 2) := by decide +kernel
theorem dX9_views_106 : decode cX9_views 106 = .ok (.iload 4, 2) := by decide +kernel
theorem dX9_views_108 : decode cX9_views 108 = .ok (.iload_n 1, 1) := by decide +kernel
theorem dX9_views_109 : decode cX9_views 109 = .ok (.if_icmp .ge 19, 3) := by decide +kernel
theorem dX9_views_112 : decode cX9_views 112 = .ok (.aload_n 0, 1) := by decide +kernel
theorem dX9_views_113 : decode cX9_views 113 = .ok (.iload_n 2, 1) := by decide +kernel
theorem dX9_views_114 : decode cX9_views 114 = .ok (.iload 4, 2) := by decide +kernel
theorem dX9_views_116 : decode cX9_views 116 = .ok (.imul, 1) := by decide +kernel
theorem dX9_views_117 : decode cX9_views 117 = .ok (.iload_n 2, 1) := by decide +kernel
theorem dX9_views_118 : decode cX9_views 118 = .ok (.iload_n 3, 1) := by decide +kernel
theorem dX9_views_119 : decode cX9_views 119 = .ok (.invokevirtual 204, 3) := by decide +kernel
theorem dX9_views_122 : decode cX9_views 122 = .ok (.iinc 4 1, 3) := by decide +kernel
theorem dX9_views_125 : decode cX9_views 125 = .ok (.goto (-19), 3) := by decide +kernel
theorem dX9_views_128 : decode cX9_views 128 = .ok (.iconst 0, 1) := by decide +kernel
theorem dX9_views_129 : decode cX9_views 129 = .ok (.istore 4, 2) := by decide +kernel
theorem dX9_views_131 : decode cX9_views 131 = .ok (.iconst 0, 1) := by decide +kernel
theorem dX9_views_132 : decode cX9_views 132 = .ok (.istore 5, 2) := by decide +kernel
theorem dX9_views_134 : decode cX9_views 134 = .ok (.iload 5, 2) := by decide +kernel
theorem dX9_views_136 : decode cX9_views 136 = .ok (.iload_n 3, 1) := by decide +kernel
theorem dX9_views_137 : decode cX9_views 137 = .ok (.if_icmp .ge 82, 3) := by decide +kernel
theorem dX9_views_140 : decode cX9_views 140 = .ok (.iconst 0, 1) := by decide +kernel
theorem dX9_views_141 : decode cX9_views 141 = .ok (.istore 6, 2) := by decide +kernel
theorem dX9_views_143 : decode cX9_views 143 = .ok (.iconst 0, 1) := by decide +kernel
theorem dX9_views_144 : decode cX9_views 144 = .ok (.istore 7, 2) := by decide +kernel
theorem dX9_views_146 : decode cX9_views 146 = .ok (.iload 7, 2) := by decide +kernel
theorem dX9_views_148 : decode cX9_views 148 = .ok (.aload_n 0, 1) := by decide +kernel
theorem dX9_views_149 : decode cX9_views 149 = .ok (.getfield 153, 3) := by decide +kernel
theorem dX9_views_152 : decode cX9_views 152 = .ok (.if_icmp .ge 46, 3) := by decide +kernel
theorem dX9_views_155 : decode cX9_views 155 = .ok (.iload 6, 2) := by decide +kernel
theorem dX9_views_157 : decode cX9_views 157 = .ok (.ifCond .ne 28, 3) := by decide +kernel
theorem dX9_views_160 : decode cX9_views 160 = .ok (.aload_n 0, 1) := by decide +kernel
theorem dX9_views_161 : decode cX9_views 161 = .ok (.getfield 46, 3) := by decide +kernel
theorem dX9_views_164 : decode cX9_views 164 = .ok (.iload 7, 2) := by decide +kernel
theorem dX9_views_166 : decode cX9_views 166 = .ok (.baload, 1) := by decide +kernel
theorem dX9_views_167 : decode cX9_views 167 = .ok (.ifCond .eq 22, 3) := by decide +kernel
theorem dX9_views_170 : decode cX9_views 170 = .ok (.aload_n 0, 1) := by decide +kernel
theorem dX9_views_171 : decode cX9_views 171 = .ok (.getfield 63, 3) := by decide +kernel
theorem dX9_views_174 : decode cX9_views 174 = .ok (.iload_n 3, 1) := by decide +kernel
theorem dX9_views_175 : decode cX9_views 175 = .ok (.iload 7, 2) := by decide +kernel
theorem dX9_views_177 : decode cX9_views 177 = .ok (.imul, 1) := by decide +kernel
theorem dX9_views_178 : decode cX9_views 178 = .ok (.iload 5, 2) := by decide +kernel
theorem dX9_views_180 : decode cX9_views 180 = .ok (.iadd, 1) := by decide +kernel
theorem dX9_views_181 : decode cX9_views 181 = .ok (.baload, 1) := by decide +kernel
theorem dX9_views_182 : decode cX9_views 182 = .ok (.ifCond .eq 7, 3) := by decide +kernel
theorem dX9_views_185 : decode cX9_views 185 = .ok (.iconst 1, 1) := by decide +kernel
theorem dX9_views_186 : decode cX9_views 186 = .ok (.goto 4, 3) := by decide +kernel
theorem dX9_views_189 : decode cX9_views 189 = .ok (.iconst 0, 1) := by decide +kernel
theorem dX9_views_190 : decode cX9_views 190 = .ok (.istore 6, 2) := by decide +kernel
theorem dX9_views_192 : decode cX9_views 192 = .ok (.iinc 7 1, 3) := by decide +kernel
theorem dX9_views_195 : decode cX9_views 195 = .ok (.goto (-49), 3) := by decide +kernel
theorem dX9_views_198 : decode cX9_views 198 = .ok (.iload 4, 2) := by decide +kernel
theorem dX9_views_200 : decode cX9_views 200 = .ok (.iload 6, 2) := by decide +kernel
theorem dX9_views_202 : decode cX9_views 202 = .ok (.ifCond .eq 7, 3) := by decide +kernel
theorem dX9_views_205 : decode cX9_views 205 = .ok (.iconst 1, 1) := by decide +kernel
theorem dX9_views_206 : decode cX9_views 206 = .ok (.goto 4, 3) := by decide +kernel
theorem dX9_views_209 : decode cX9_views 209 = .ok (.iconst 0, 1) := by decide +kernel
theorem dX9_views_210 : decode cX9_views 210 = .ok (.iadd, 1) := by decide +kernel
theorem dX9_views_211 : decode cX9_views 211 = .ok (.istore 4, 2) := by decide +kernel
theorem dX9_views_213 : decode cX9_views 213 = .ok (.iinc 5 1, 3) := by decide +kernel
theorem dX9_views_216 : decode cX9_views 216 = .ok (.goto (-82), 3) := by decide +kernel
theorem dX9_views_219 : decode cX9_views 219 = .ok (.iload 4, 2) := by decide +kernel
theorem dX9_views_221 : decode cX9_views 221 = .ok (.ireturn, 1) := by decide +kernel
set_option maxRecDepth 20000 in
theorem ggX9_goViews_X9_lookOf : GoodIn wsX9_goViews wsX9_lookOf := goodIn_r _ [9, 10, 11, 12, 13, 8, 14, 15, 16, 17, 18, 19, 20, 21, 22, 23, 24, 25, 26, 27, 28, 29, 30, 31, 32, 33, 34, 35, 36, 37, 38, 39, 40, 41, 42, 43, 44, 45] (by decide +kernel) (by decide +kernel)
set_option maxRecDepth 20000 in
theorem gX9_goViews_X9_lookOf : GoodIn wsX9_goViews (wsV RX9 194 RX9 yX9_lookOf wsX9_lookOf) := goodIn_app (goodIn_of _ (by decide +kernel)) ggX9_goViews_X9_lookOf
theorem dX9_goViews_0 : decode cX9_goViews 0 = .ok (.iconst 0, 1) := by decide +kernel
theorem dX9_goViews_1 : decode cX9_goViews 1 = .ok (.istore 4, 2) := by decide +kernel
theorem dX9_goViews_3 : decode cX9_goViews 3 = .ok (.iload 4, 2) := by decide +kernel
theorem dX9_goViews_5 : decode cX9_goViews 5 = .ok (.aload_n 0, 1) := by decide +kernel
theorem dX9_goViews_6 : decode cX9_goViews 6 = .ok (.getfield 153, 3) := by decide +kernel
theorem dX9_goViews_9 : decode cX9_goViews 9 = .ok (.iload_n 3, 1) := by decide +kernel
theorem dX9_goViews_10 : decode cX9_goViews 10 = .ok (.imul, 1) := by decide +kernel
theorem dX9_goViews_11 : decode cX9_goViews 11 = .ok (.if_icmp .ge 17, 3) := by decide +kernel
theorem dX9_goViews_14 : decode cX9_goViews 14 = .ok (.aload_n 0, 1) := by decide +kernel
theorem dX9_goViews_15 : decode cX9_goViews 15 = .ok (.getfield 66, 3) := by decide +kernel
theorem dX9_goViews_18 : decode cX9_goViews 18 = .ok (.iload 4, 2) := by decide +kernel
theorem dX9_goViews_20 : decode cX9_goViews 20 = .ok (.iconst 0, 1) := by decide +kernel
theorem dX9_goViews_21 : decode cX9_goViews 21 = .ok (.bastore, 1) := by decide +kernel
theorem dX9_goViews_22 : decode cX9_goViews 22 = .ok (.iinc 4 1, 3) := by decide +kernel
theorem dX9_goViews_25 : decode cX9_goViews 25 = .ok (.goto (-22), 3) := by decide +kernel
theorem dX9_goViews_28 : decode cX9_goViews 28 = .ok (.iconst 0, 1) := by decide +kernel
theorem dX9_goViews_29 : decode cX9_goViews 29 = .ok (.istore 4, 2) := by decide +kernel
theorem dX9_goViews_31 : decode cX9_goViews 31 = .ok (.iload 4, 2) := by decide +kernel
theorem dX9_goViews_33 : decode cX9_goViews 33 = .ok (.aload_n 0, 1) := by decide +kernel
theorem dX9_goViews_34 : decode cX9_goViews 34 = .ok (.getfield 153, 3) := by decide +kernel
theorem dX9_goViews_37 : decode cX9_goViews 37 = .ok (.if_icmp .ge 125, 3) := by decide +kernel
theorem dX9_goViews_40 : decode cX9_goViews 40 = .ok (.aload_n 0, 1) := by decide +kernel
theorem dX9_goViews_41 : decode cX9_goViews 41 = .ok (.iload 4, 2) := by decide +kernel
theorem dX9_goViews_43 : decode cX9_goViews 43 = .ok (.iload_n 2, 1) := by decide +kernel
theorem dX9_goViews_44 : decode cX9_goViews 44 = .ok (.invokevirtual 194, 3) := by decide +kernel
theorem dX9_goViews_47 : decode cX9_goViews 47 = .ok (.iload_n 1, 1) := by decide +kernel
theorem dX9_goViews_48 : decode cX9_goViews 48 = .ok (.ishl, 1) := by decide +kernel
theorem dX9_goViews_49 : decode cX9_goViews 49 = .ok (.istore 5, 2) := by decide +kernel
theorem dX9_goViews_51 : decode cX9_goViews 51 = .ok (.iconst 0, 1) := by decide +kernel
theorem dX9_goViews_52 : decode cX9_goViews 52 = .ok (.istore 6, 2) := by decide +kernel
theorem dX9_goViews_54 : decode cX9_goViews 54 = .ok (.iload 6, 2) := by decide +kernel
theorem dX9_goViews_56 : decode cX9_goViews 56 = .ok (.aload_n 0, 1) := by decide +kernel
theorem dX9_goViews_57 : decode cX9_goViews 57 = .ok (.getfield 153, 3) := by decide +kernel
theorem dX9_goViews_60 : decode cX9_goViews 60 = .ok (.if_icmp .ge 96, 3) := by decide +kernel
theorem dX9_goViews_63 : decode cX9_goViews 63 = .ok (.iconst 0, 1) := by decide +kernel
theorem dX9_goViews_64 : decode cX9_goViews 64 = .ok (.istore 7, 2) := by decide +kernel
theorem dX9_goViews_66 : decode cX9_goViews 66 = .ok (.aload_n 0, 1) := by decide +kernel
theorem dX9_goViews_67 : decode cX9_goViews 67 = .ok (.getfield 40, 3) := by decide +kernel
theorem dX9_goViews_70 : decode cX9_goViews 70 = .ok (.sipush 243, 3) := by decide +kernel
theorem dX9_goViews_73 : decode cX9_goViews 73 = .ok (.iload 6, 2) := by decide +kernel
theorem dX9_goViews_75 : decode cX9_goViews 75 = .ok (.imul, 1) := by decide +kernel
theorem dX9_goViews_76 : decode cX9_goViews 76 = .ok (.iload 4, 2) := by decide +kernel
theorem dX9_goViews_78 : decode cX9_goViews 78 = .ok (.iadd, 1) := by decide +kernel
theorem dX9_goViews_79 : decode cX9_goViews 79 = .ok (.baload, 1) := by decide +kernel
theorem dX9_goViews_80 : decode cX9_goViews 80 = .ok (.ifCond .eq 70, 3) := by decide +kernel
theorem dX9_goViews_83 : decode cX9_goViews 83 = .ok (.iload 7, 2) := by decide +kernel
theorem dX9_goViews_85 : decode cX9_goViews 85 = .ok (.iconst 1, 1) := by decide +kernel
theorem dX9_goViews_86 : decode cX9_goViews 86 = .ok (.iload_n 1, 1) := by decide +kernel
theorem dX9_goViews_87 : decode cX9_goViews 87 = .ok (.ishl, 1) := by decide +kernel
theorem dX9_goViews_88 : decode cX9_goViews 88 = .ok (.if_icmp .ge 62, 3) := by decide +kernel
theorem dX9_goViews_91 : decode cX9_goViews 91 = .ok (.aload_n 0, 1) := by decide +kernel
theorem dX9_goViews_92 : decode cX9_goViews 92 = .ok (.getfield 66, 3) := by decide +kernel
theorem dX9_goViews_95 : decode cX9_goViews 95 = .ok (.iload_n 3, 1) := by decide +kernel
theorem dX9_goViews_96 : decode cX9_goViews 96 = .ok (.iload 4, 2) := by decide +kernel
theorem dX9_goViews_98 : decode cX9_goViews 98 = .ok (.imul, 1) := by decide +kernel
theorem dX9_goViews_99 : decode cX9_goViews 99 = .ok (.iload 7, 2) := by decide +kernel
theorem dX9_goViews_101 : decode cX9_goViews 101 = .ok (.iadd, 1) := by decide +kernel
theorem dX9_goViews_102 : decode cX9_goViews 102 = .ok (.iload 5, 2) := by decide +kernel
theorem dX9_goViews_104 : decode cX9_goViews 104 = .ok (.iadd, 1) := by decide +kernel
theorem dX9_goViews_105 : decode cX9_goViews 105 = .ok (.aload_n 0, 1) := by decide +kernel
theorem dX9_goViews_106 : decode cX9_goViews 106 = .ok (.getfield 66, 3) := by decide +kernel
theorem dX9_goViews_109 : decode cX9_goViews 109 = .ok (.iload_n 3, 1) := by decide +kernel
theorem dX9_goViews_110 : decode cX9_goViews 110 = .ok (.iload 4, 2) := by decide +kernel
theorem dX9_goViews_112 : decode cX9_goViews 112 = .ok (.imul, 1) := by decide +kernel
theorem dX9_goViews_113 : decode cX9_goViews 113 = .ok (.iload 7, 2) := by decide +kernel
theorem dX9_goViews_115 : decode cX9_goViews 115 = .ok (.iadd, 1) := by decide +kernel
theorem dX9_goViews_116 : decode cX9_goViews 116 = .ok (.iload 5, 2) := by decide +kernel
theorem dX9_goViews_118 : decode cX9_goViews 118 = .ok (.iadd, 1) := by decide +kernel
theorem dX9_goViews_119 : decode cX9_goViews 119 = .ok (.baload, 1) := by decide +kernel
theorem dX9_goViews_120 : decode cX9_goViews 120 = .ok (.ifCond .ne 18, 3) := by decide +kernel
theorem dX9_goViews_123 : decode cX9_goViews 123 = .ok (.aload_n 0, 1) := by decide +kernel
theorem dX9_goViews_124 : decode cX9_goViews 124 = .ok (.getfield 63, 3) := by decide +kernel
theorem dX9_goViews_127 : decode cX9_goViews 127 = .ok (.iload_n 3, 1) := by decide +kernel
theorem dX9_goViews_128 : decode cX9_goViews 128 = .ok (.iload 6, 2) := by decide +kernel
theorem dX9_goViews_130 : decode cX9_goViews 130 = .ok (.imul, 1) := by decide +kernel
theorem dX9_goViews_131 : decode cX9_goViews 131 = .ok (.iload 7, 2) := by decide +kernel
theorem dX9_goViews_133 : decode cX9_goViews 133 = .ok (.iadd, 1) := by decide +kernel
theorem dX9_goViews_134 : decode cX9_goViews 134 = .ok (.baload, 1) := by decide +kernel
theorem dX9_goViews_135 : decode cX9_goViews 135 = .ok (.ifCond .eq 7, 3) := by decide +kernel
theorem dX9_goViews_138 : decode cX9_goViews 138 = .ok (.iconst 1, 1) := by decide +kernel
theorem dX9_goViews_139 : decode cX9_goViews 139 = .ok (.goto 4, 3) := by decide +kernel
theorem dX9_goViews_142 : decode cX9_goViews 142 = .ok (.iconst 0, 1) := by decide +kernel
theorem dX9_goViews_143 : decode cX9_goViews 143 = .ok (.bastore, 1) := by decide +kernel
theorem dX9_goViews_144 : decode cX9_goViews 144 = .ok (.iinc 7 1, 3) := by decide +kernel
theorem dX9_goViews_147 : decode cX9_goViews 147 = .ok (.goto (-81), 3) := by decide +kernel
theorem dX9_goViews_150 : decode cX9_goViews 150 = .ok (.iinc 6 1, 3) := by decide +kernel
theorem dX9_goViews_153 : decode cX9_goViews 153 = .ok (.goto (-99), 3) := by decide +kernel
theorem dX9_goViews_156 : decode cX9_goViews 156 = .ok (.iinc 4 1, 3) := by decide +kernel
theorem dX9_goViews_159 : decode cX9_goViews 159 = .ok (.goto (-128), 3) := by decide +kernel
theorem dX9_goViews_162 : decode cX9_goViews 162 = .ok (.iconst 0, 1) := by decide +kernel
theorem dX9_goViews_163 : decode cX9_goViews 163 = .ok (.istore 4, 2) := by decide +kernel
theorem dX9_goViews_165 : decode cX9_goViews 165 = .ok (.iload 4, 2) := by decide +kernel
theorem dX9_goViews_167 : decode cX9_goViews 167 = .ok (.aload_n 0, 1) := by decide +kernel
theorem dX9_goViews_168 : decode cX9_goViews 168 = .ok (.getfield 153, 3) := by decide +kernel
theorem dX9_goViews_171 : decode cX9_goViews 171 = .ok (.iload_n 3, 1) := by decide +kernel
theorem dX9_goViews_172 : decode cX9_goViews 172 = .ok (.imul, 1) := by decide +kernel
theorem dX9_goViews_173 : decode cX9_goViews 173 = .ok (.if_icmp .ge 23, 3) := by decide +kernel
theorem dX9_goViews_176 : decode cX9_goViews 176 = .ok (.aload_n 0, 1) := by decide +kernel
theorem dX9_goViews_177 : decode cX9_goViews 177 = .ok (.getfield 63, 3) := by decide +kernel
theorem dX9_goViews_180 : decode cX9_goViews 180 = .ok (.iload 4, 2) := by decide +kernel
theorem dX9_goViews_182 : decode cX9_goViews 182 = .ok (.aload_n 0, 1) := by decide +kernel
theorem dX9_goViews_183 : decode cX9_goViews 183 = .ok (.getfield 66, 3) := by decide +kernel
theorem dX9_goViews_186 : decode cX9_goViews 186 = .ok (.iload 4, 2) := by decide +kernel
theorem dX9_goViews_188 : decode cX9_goViews 188 = .ok (.baload, 1) := by decide +kernel
theorem dX9_goViews_189 : decode cX9_goViews 189 = .ok (.bastore, 1) := by decide +kernel
theorem dX9_goViews_190 : decode cX9_goViews 190 = .ok (.iinc 4 1, 3) := by decide +kernel
theorem dX9_goViews_193 : decode cX9_goViews 193 = .ok (.goto (-28), 3) := by decide +kernel
theorem dX9_goViews_196 : decode cX9_goViews 196 = .ok (.return_, 1) := by decide +kernel
theorem dX9_multiply_0 : decode cX9_multiply 0 = .ok (.iconst 0, 1) := by decide +kernel
theorem dX9_multiply_1 : decode cX9_multiply 1 = .ok (.istore_n 2, 1) := by decide +kernel
theorem dX9_multiply_2 : decode cX9_multiply 2 = .ok (.iload_n 2, 1) := by decide +kernel
theorem dX9_multiply_3 : decode cX9_multiply 3 = .ok (.aload_n 0, 1) := by decide +kernel
theorem dX9_multiply_4 : decode cX9_multiply 4 = .ok (.getfield 153, 3) := by decide +kernel
theorem dX9_multiply_7 : decode cX9_multiply 7 = .ok (.if_icmp .ge 116, 3) := by decide +kernel
theorem dX9_multiply_10 : decode cX9_multiply 10 = .ok (.iconst 0, 1) := by decide +kernel
theorem dX9_multiply_11 : decode cX9_multiply 11 = .ok (.istore_n 3, 1) := by decide +kernel
theorem dX9_multiply_12 : decode cX9_multiply 12 = .ok (.iload_n 3, 1) := by decide +kernel
theorem dX9_multiply_13 : decode cX9_multiply 13 = .ok (.aload_n 0, 1) := by decide +kernel
theorem dX9_multiply_14 : decode cX9_multiply 14 = .ok (.getfield 153, 3) := by decide +kernel
theorem dX9_multiply_17 : decode cX9_multiply 17 = .ok (.if_icmp .ge 100, 3) := by decide +kernel
theorem dX9_multiply_20 : decode cX9_multiply 20 = .ok (.lconst 0, 1) := by decide +kernel
theorem dX9_multiply_21 : decode cX9_multiply 21 = .ok (.lstore 4, 2) := by decide +kernel
theorem dX9_multiply_23 : decode cX9_multiply 23 = .ok (.iconst 0, 1) := by decide +kernel
theorem dX9_multiply_24 : decode cX9_multiply 24 = .ok (.istore 6, 2) := by decide +kernel
theorem dX9_multiply_26 : decode cX9_multiply 26 = .ok (.iload 6, 2) := by decide +kernel
theorem dX9_multiply_28 : decode cX9_multiply 28 = .ok (.aload_n 0, 1) := by decide +kernel
theorem dX9_multiply_29 : decode cX9_multiply 29 = .ok (.getfield 153, 3) := by decide +kernel
theorem dX9_multiply_32 : decode cX9_multiply 32 = .ok (.if_icmp .ge 66, 3) := by decide +kernel
theorem dX9_multiply_35 : decode cX9_multiply 35 = .ok (.iload_n 1, 1) := by decide +kernel
theorem dX9_multiply_36 : decode cX9_multiply 36 = .ok (.ifCond .eq 18, 3) := by decide +kernel
theorem dX9_multiply_39 : decode cX9_multiply 39 = .ok (.aload_n 0, 1) := by decide +kernel
theorem dX9_multiply_40 : decode cX9_multiply 40 = .ok (.getfield 72, 3) := by decide +kernel
theorem dX9_multiply_43 : decode cX9_multiply 43 = .ok (.bipush 27, 2) := by decide +kernel
theorem dX9_multiply_45 : decode cX9_multiply 45 = .ok (.iload_n 2, 1) := by decide +kernel
theorem dX9_multiply_46 : decode cX9_multiply 46 = .ok (.imul, 1) := by decide +kernel
theorem dX9_multiply_47 : decode cX9_multiply 47 = .ok (.iload 6, 2) := by decide +kernel
theorem dX9_multiply_49 : decode cX9_multiply 49 = .ok (.iadd, 1) := by decide +kernel
theorem dX9_multiply_50 : decode cX9_multiply 50 = .ok (.laload, 1) := by decide +kernel
theorem dX9_multiply_51 : decode cX9_multiply 51 = .ok (.goto 15, 3) := by decide +kernel
theorem dX9_multiply_54 : decode cX9_multiply 54 = .ok (.aload_n 0, 1) := by decide +kernel
theorem dX9_multiply_55 : decode cX9_multiply 55 = .ok (.getfield 69, 3) := by decide +kernel
theorem dX9_multiply_58 : decode cX9_multiply 58 = .ok (.bipush 27, 2) := by decide +kernel
theorem dX9_multiply_60 : decode cX9_multiply 60 = .ok (.iload_n 2, 1) := by decide +kernel
theorem dX9_multiply_61 : decode cX9_multiply 61 = .ok (.imul, 1) := by decide +kernel
theorem dX9_multiply_62 : decode cX9_multiply 62 = .ok (.iload 6, 2) := by decide +kernel
theorem dX9_multiply_64 : decode cX9_multiply 64 = .ok (.iadd, 1) := by decide +kernel
theorem dX9_multiply_65 : decode cX9_multiply 65 = .ok (.laload, 1) := by decide +kernel
theorem dX9_multiply_66 : decode cX9_multiply 66 = .ok (.lstore 7, 2) := by decide +kernel
theorem dX9_multiply_68 : decode cX9_multiply 68 = .ok (.lload 4, 2) := by decide +kernel
theorem dX9_multiply_70 : decode cX9_multiply 70 = .ok (.lload 7, 2) := by decide +kernel
theorem dX9_multiply_72 : decode cX9_multiply 72 = .ok (.aload_n 0, 1) := by decide +kernel
theorem dX9_multiply_73 : decode cX9_multiply 73 = .ok (.getfield 72, 3) := by decide +kernel
theorem dX9_multiply_76 : decode cX9_multiply 76 = .ok (.bipush 27, 2) := by decide +kernel
theorem dX9_multiply_78 : decode cX9_multiply 78 = .ok (.iload 6, 2) := by decide +kernel
theorem dX9_multiply_80 : decode cX9_multiply 80 = .ok (.imul, 1) := by decide +kernel
theorem dX9_multiply_81 : decode cX9_multiply 81 = .ok (.iload_n 3, 1) := by decide +kernel
theorem dX9_multiply_82 : decode cX9_multiply 82 = .ok (.iadd, 1) := by decide +kernel
theorem dX9_multiply_83 : decode cX9_multiply 83 = .ok (.laload, 1) := by decide +kernel
theorem dX9_multiply_84 : decode cX9_multiply 84 = .ok (.lmul, 1) := by decide +kernel
theorem dX9_multiply_85 : decode cX9_multiply 85 = .ok (.ladd, 1) := by decide +kernel
theorem dX9_multiply_86 : decode cX9_multiply 86 = .ok (.ldc2_w 208, 3) := by decide +kernel
theorem dX9_multiply_89 : decode cX9_multiply 89 = .ok (.lrem, 1) := by decide +kernel
theorem dX9_multiply_90 : decode cX9_multiply 90 = .ok (.lstore 4, 2) := by decide +kernel
theorem dX9_multiply_92 : decode cX9_multiply 92 = .ok (.iinc 6 1, 3) := by decide +kernel
theorem dX9_multiply_95 : decode cX9_multiply 95 = .ok (.goto (-69), 3) := by decide +kernel
theorem dX9_multiply_98 : decode cX9_multiply 98 = .ok (.aload_n 0, 1) := by decide +kernel
theorem dX9_multiply_99 : decode cX9_multiply 99 = .ok (.getfield 75, 3) := by decide +kernel
theorem dX9_multiply_102 : decode cX9_multiply 102 = .ok (.bipush 27, 2) := by decide +kernel
theorem dX9_multiply_104 : decode cX9_multiply 104 = .ok (.iload_n 2, 1) := by decide +kernel
theorem dX9_multiply_105 : decode cX9_multiply 105 = .ok (.imul, 1) := by decide +kernel
theorem dX9_multiply_106 : decode cX9_multiply 106 = .ok (.iload_n 3, 1) := by decide +kernel
theorem dX9_multiply_107 : decode cX9_multiply 107 = .ok (.iadd, 1) := by decide +kernel
theorem dX9_multiply_108 : decode cX9_multiply 108 = .ok (.lload 4, 2) := by decide +kernel
theorem dX9_multiply_110 : decode cX9_multiply 110 = .ok (.lastore, 1) := by decide +kernel
theorem dX9_multiply_111 : decode cX9_multiply 111 = .ok (.iinc 3 1, 3) := by decide +kernel
theorem dX9_multiply_114 : decode cX9_multiply 114 = .ok (.goto (-102), 3) := by decide +kernel
theorem dX9_multiply_117 : decode cX9_multiply 117 = .ok (.iinc 2 1, 3) := by decide +kernel
theorem dX9_multiply_120 : decode cX9_multiply 120 = .ok (.goto (-118), 3) := by decide +kernel
theorem dX9_multiply_123 : decode cX9_multiply 123 = .ok (.return_, 1) := by decide +kernel
set_option maxRecDepth 20000 in
theorem ggX9_isTall_X9_in : GoodIn wsX9_isTall wsX9_in := goodIn_r _ [5] (by decide +kernel) (by decide +kernel)
set_option maxRecDepth 20000 in
theorem gX9_isTall_X9_in : GoodIn wsX9_isTall (va_wsS RX9 95 yX9_in wsX9_in) := goodIn_app (goodIn_of _ (by decide +kernel)) ggX9_isTall_X9_in
theorem dX9_isTall_0 : decode cX9_isTall 0 = .ok (.iload_n 0, 1) := by decide +kernel
theorem dX9_isTall_1 : decode cX9_isTall 1 = .ok (.i2l, 1) := by decide +kernel
theorem dX9_isTall_2 : decode cX9_isTall 2 = .ok (.lconst 1, 1) := by decide +kernel
theorem dX9_isTall_3 : decode cX9_isTall 3 = .ok (.ldc2_w 101, 3) := by decide +kernel
theorem dX9_isTall_6 : decode cX9_isTall 6 = .ok (.invokestatic 95, 3) := by decide +kernel
theorem dX9_isTall_9 : decode cX9_isTall 9 = .ok (.ireturn, 1) := by decide +kernel
set_option maxRecDepth 20000 in
theorem ggX9_tall_X9_isTall : GoodIn wsX9_tall wsX9_isTall := goodIn_r _ [13, 14, 15, 16, 12, 17] (by decide +kernel) (by decide +kernel)
set_option maxRecDepth 20000 in
theorem gX9_tall_X9_isTall : GoodIn wsX9_tall (va_wsS RX9 210 yX9_isTall wsX9_isTall) := goodIn_app (goodIn_of _ (by decide +kernel)) ggX9_tall_X9_isTall
set_option maxRecDepth 20000 in
theorem ggX9_tall_X9_in : GoodIn wsX9_tall wsX9_in := goodIn_r _ [17] (by decide +kernel) (by decide +kernel)
set_option maxRecDepth 20000 in
theorem gX9_tall_X9_in : GoodIn wsX9_tall (va_wsS RX9 95 yX9_in wsX9_in) := goodIn_app (goodIn_of _ (by decide +kernel)) ggX9_tall_X9_in
set_option maxRecDepth 20000 in
theorem ggX9_tall_X9_layFits : GoodIn wsX9_tall wsX9_layFits := goodIn_r _ [21, 2, 7, 8, 5, 22, 23, 24, 12, 25, 26, 27, 28, 29, 30, 31, 32, 33, 34, 35, 40, 41, 42, 43, 44, 45, 46, 47, 48, 49, 50, 51, 52, 53, 54, 55, 56, 57, 58, 59, 60, 61, 62, 63, 64, 65, 66, 67, 68, 69] (by decide +kernel) (by decide +kernel)
set_option maxRecDepth 20000 in
theorem gX9_tall_X9_layFits : GoodIn wsX9_tall (wsV RX9 166 RX9 yX9_layFits wsX9_layFits) := goodIn_app (goodIn_of _ (by decide +kernel)) ggX9_tall_X9_layFits
set_option maxRecDepth 20000 in
theorem ggX9_tall_X9_multiply : GoodIn wsX9_tall wsX9_multiply := goodIn_r _ [39, 2, 4, 3, 9, 6, 40, 41, 42, 43, 44, 45, 46, 47, 48, 49, 50, 51, 52, 53, 54, 55, 56, 57, 58, 59, 60, 61, 62, 63, 64, 65, 66, 67, 68, 69] (by decide +kernel) (by decide +kernel)
set_option maxRecDepth 20000 in
theorem gX9_tall_X9_multiply : GoodIn wsX9_tall (wsV RX9 215 RX9 yX9_multiply wsX9_multiply) := goodIn_app (goodIn_of _ (by decide +kernel)) ggX9_tall_X9_multiply
theorem dX9_tall_0 : decode cX9_tall 0 = .ok (.iload_n 1, 1) := by decide +kernel
theorem dX9_tall_1 : decode cX9_tall 1 = .ok (.invokestatic 210, 3) := by decide +kernel
theorem dX9_tall_4 : decode cX9_tall 4 = .ok (.ifCond .eq 15, 3) := by decide +kernel
theorem dX9_tall_7 : decode cX9_tall 7 = .ok (.iload_n 2, 1) := by decide +kernel
theorem dX9_tall_8 : decode cX9_tall 8 = .ok (.i2l, 1) := by decide +kernel
theorem dX9_tall_9 : decode cX9_tall 9 = .ok (.lconst 1, 1) := by decide +kernel
theorem dX9_tall_10 : decode cX9_tall 10 = .ok (.ldc2_w 213, 3) := by decide +kernel
theorem dX9_tall_13 : decode cX9_tall 13 = .ok (.invokestatic 95, 3) := by decide +kernel
theorem dX9_tall_16 : decode cX9_tall 16 = .ok (.ifCond .ne 6, 3) := by decide +kernel
theorem dX9_tall_19 : decode cX9_tall 19 = .ok (.bipush (-3), 2) := by decide +kernel
theorem dX9_tall_21 : decode cX9_tall 21 = .ok (.ireturn, 1) := by decide +kernel
theorem dX9_tall_22 : decode cX9_tall 22 = .ok (.aload_n 0, 1) := by decide +kernel
theorem dX9_tall_23 : decode cX9_tall 23 = .ok (.iload_n 1, 1) := by decide +kernel
theorem dX9_tall_24 : decode cX9_tall 24 = .ok (.invokevirtual 166, 3) := by decide +kernel
theorem dX9_tall_27 : decode cX9_tall 27 = .ok (.iconst 0, 1) := by decide +kernel
theorem dX9_tall_28 : decode cX9_tall 28 = .ok (.istore_n 3, 1) := by decide +kernel
theorem dX9_tall_29 : decode cX9_tall 29 = .ok (.iload_n 3, 1) := by decide +kernel
theorem dX9_tall_30 : decode cX9_tall 30 = .ok (.aload_n 0, 1) := by decide +kernel
theorem dX9_tall_31 : decode cX9_tall 31 = .ok (.getfield 153, 3) := by decide +kernel
theorem dX9_tall_34 : decode cX9_tall 34 = .ok (.if_icmp .ge 83, 3) := by decide +kernel
theorem dX9_tall_37 : decode cX9_tall 37 = .ok (.iconst 0, 1) := by decide +kernel
theorem dX9_tall_38 : decode cX9_tall 38 = .ok (.istore 4, 2) := by decide +kernel
theorem dX9_tall_40 : decode cX9_tall 40 = .ok (.iload 4, 2) := by decide +kernel
theorem dX9_tall_42 : decode cX9_tall 42 = .ok (.aload_n 0, 1) := by decide +kernel
theorem dX9_tall_43 : decode cX9_tall 43 = .ok (.getfield 153, 3) := by decide +kernel
theorem dX9_tall_46 : decode cX9_tall 46 = .ok (.if_icmp .ge 65, 3) := by decide +kernel
theorem dX9_tall_49 : decode cX9_tall 49 = .ok (.aload_n 0, 1) := by decide +kernel
theorem dX9_tall_50 : decode cX9_tall 50 = .ok (.getfield 69, 3) := by decide +kernel
theorem dX9_tall_53 : decode cX9_tall 53 = .ok (.bipush 27, 2) := by decide +kernel
theorem dX9_tall_55 : decode cX9_tall 55 = .ok (.iload_n 3, 1) := by decide +kernel
theorem dX9_tall_56 : decode cX9_tall 56 = .ok (.imul, 1) := by decide +kernel
theorem dX9_tall_57 : decode cX9_tall 57 = .ok (.iload 4, 2) := by decide +kernel
theorem dX9_tall_59 : decode cX9_tall 59 = .ok (.iadd, 1) := by decide +kernel
theorem dX9_tall_60 : decode cX9_tall 60 = .ok (.iload_n 3, 1) := by decide +kernel
theorem dX9_tall_61 : decode cX9_tall 61 = .ok (.iload 4, 2) := by decide +kernel
theorem dX9_tall_63 : decode cX9_tall 63 = .ok (.if_icmp .ne 7, 3) := by decide +kernel
theorem dX9_tall_66 : decode cX9_tall 66 = .ok (.lconst 1, 1) := by decide +kernel
theorem dX9_tall_67 : decode cX9_tall 67 = .ok (.goto 4, 3) := by decide +kernel
theorem dX9_tall_70 : decode cX9_tall 70 = .ok (.lconst 0, 1) := by decide +kernel
theorem dX9_tall_71 : decode cX9_tall 71 = .ok (.lastore, 1) := by decide +kernel
theorem dX9_tall_72 : decode cX9_tall 72 = .ok (.aload_n 0, 1) := by decide +kernel
theorem dX9_tall_73 : decode cX9_tall 73 = .ok (.getfield 72, 3) := by decide +kernel
theorem dX9_tall_76 : decode cX9_tall 76 = .ok (.bipush 27, 2) := by decide +kernel
theorem dX9_tall_78 : decode cX9_tall 78 = .ok (.iload_n 3, 1) := by decide +kernel
theorem dX9_tall_79 : decode cX9_tall 79 = .ok (.imul, 1) := by decide +kernel
theorem dX9_tall_80 : decode cX9_tall 80 = .ok (.iload 4, 2) := by decide +kernel
theorem dX9_tall_82 : decode cX9_tall 82 = .ok (.iadd, 1) := by decide +kernel
theorem dX9_tall_83 : decode cX9_tall 83 = .ok (.aload_n 0, 1) := by decide +kernel
theorem dX9_tall_84 : decode cX9_tall 84 = .ok (.getfield 40, 3) := by decide +kernel
theorem dX9_tall_87 : decode cX9_tall 87 = .ok (.sipush 243, 3) := by decide +kernel
theorem dX9_tall_90 : decode cX9_tall 90 = .ok (.iload_n 3, 1) := by decide +kernel
theorem dX9_tall_91 : decode cX9_tall 91 = .ok (.imul, 1) := by decide +kernel
theorem dX9_tall_92 : decode cX9_tall 92 = .ok (.iload 4, 2) := by decide +kernel
theorem dX9_tall_94 : decode cX9_tall 94 = .ok (.iadd, 1) := by decide +kernel
theorem dX9_tall_95 : decode cX9_tall 95 = .ok (.baload, 1) := by decide +kernel
theorem dX9_tall_96 : decode cX9_tall 96 = .ok (.ifCond .eq 7, 3) := by decide +kernel
theorem dX9_tall_99 : decode cX9_tall 99 = .ok (.lconst 1, 1) := by decide +kernel
theorem dX9_tall_100 : decode cX9_tall 100 = .ok (.goto 4, 3) := by decide +kernel
theorem dX9_tall_103 : decode cX9_tall 103 = .ok (.lconst 0, 1) := by decide +kernel
theorem dX9_tall_104 : decode cX9_tall 104 = .ok (.lastore, 1) := by decide +kernel
theorem dX9_tall_105 : decode cX9_tall 105 = .ok (.iinc 4 1, 3) := by decide +kernel
theorem dX9_tall_108 : decode cX9_tall 108 = .ok (.goto (-68), 3) := by decide +kernel
theorem dX9_tall_111 : decode cX9_tall 111 = .ok (.iinc 3 1, 3) := by decide +kernel
theorem dX9_tall_114 : decode cX9_tall 114 = .ok (.goto (-85), 3) := by decide +kernel
theorem dX9_tall_117 : decode cX9_tall 117 = .ok (.iload_n 2, 1) := by decide +kernel
theorem dX9_tall_118 : decode cX9_tall 118 = .ok (.iconst 1, 1) := by decide +kernel
theorem dX9_tall_119 : decode cX9_tall 119 = .ok (.isub, 1) := by decide +kernel
theorem dX9_tall_120 : decode cX9_tall 120 = .ok (.istore_n 3, 1) := by decide +kernel
theorem dX9_tall_121 : decode cX9_tall 121 = .ok (.iload_n 3, 1) := by decide +kernel
theorem dX9_tall_122 : decode cX9_tall 122 = .ok (.ifCond .le 89, 3) := by decide +kernel
theorem dX9_tall_125 : decode cX9_tall 125 = .ok (.iload_n 3, 1) := by decide +kernel
theorem dX9_tall_126 : decode cX9_tall 126 = .ok (.iconst 2, 1) := by decide +kernel
theorem dX9_tall_127 : decode cX9_tall 127 = .ok (.irem, 1) := by decide +kernel
theorem dX9_tall_128 : decode cX9_tall 128 = .ok (.iconst 1, 1) := by decide +kernel
theorem dX9_tall_129 : decode cX9_tall 129 = .ok (.if_icmp .ne 39, 3) := by decide +kernel
theorem dX9_tall_132 : decode cX9_tall 132 = .ok (.aload_n 0, 1) := by decide +kernel
theorem dX9_tall_133 : decode cX9_tall 133 = .ok (.iconst 0, 1) := by decide +kernel
theorem dX9_tall_134 : decode cX9_tall 134 = .ok (.invokevirtual 215, 3) := by decide +kernel
theorem dX9_tall_137 : decode cX9_tall 137 = .ok (.iconst 0, 1) := by decide +kernel
theorem dX9_tall_138 : decode cX9_tall 138 = .ok (.istore 4, 2) := by decide +kernel
theorem dX9_tall_140 : decode cX9_tall 140 = .ok (.iload 4, 2) := by decide +kernel
theorem dX9_tall_142 : decode cX9_tall 142 = .ok (.sipush 729, 3) := by decide +kernel
theorem dX9_tall_145 : decode cX9_tall 145 = .ok (.if_icmp .ge 23, 3) := by decide +kernel
theorem dX9_tall_148 : decode cX9_tall 148 = .ok (.aload_n 0, 1) := by decide +kernel
theorem dX9_tall_149 : decode cX9_tall 149 = .ok (.getfield 69, 3) := by decide +kernel
theorem dX9_tall_152 : decode cX9_tall 152 = .ok (.iload 4, 2) := by decide +kernel
theorem dX9_tall_154 : decode cX9_tall 154 = .ok (.aload_n 0, 1) := by decide +kernel
theorem dX9_tall_155 : decode cX9_tall 155 = .ok (.getfield 75, 3) := by decide +kernel
theorem dX9_tall_158 : decode cX9_tall 158 = .ok (.iload 4, 2) := by decide +kernel
theorem dX9_tall_160 : decode cX9_tall 160 = .ok (.laload, 1) := by decide +kernel
theorem dX9_tall_161 : decode cX9_tall 161 = .ok (.lastore, 1) := by decide +kernel
theorem dX9_tall_162 : decode cX9_tall 162 = .ok (.iinc 4 1, 3) := by decide +kernel
theorem dX9_tall_165 : decode cX9_tall 165 = .ok (.goto (-25), 3) := by decide +kernel
theorem dX9_tall_168 : decode cX9_tall 168 = .ok (.aload_n 0, 1) := by decide +kernel
theorem dX9_tall_169 : decode cX9_tall 169 = .ok (.iconst 1, 1) := by decide +kernel
theorem dX9_tall_170 : decode cX9_tall 170 = .ok (.invokevirtual 215, 3) := by decide +kernel
theorem dX9_tall_173 : decode cX9_tall 173 = .ok (.iconst 0, 1) := by decide +kernel
theorem dX9_tall_174 : decode cX9_tall 174 = .ok (.istore 4, 2) := by decide +kernel
theorem dX9_tall_176 : decode cX9_tall 176 = .ok (.iload 4, 2) := by decide +kernel
theorem dX9_tall_178 : decode cX9_tall 178 = .ok (.sipush 729, 3) := by decide +kernel
theorem dX9_tall_181 : decode cX9_tall 181 = .ok (.if_icmp .ge 23, 3) := by decide +kernel
theorem dX9_tall_184 : decode cX9_tall 184 = .ok (.aload_n 0, 1) := by decide +kernel
theorem dX9_tall_185 : decode cX9_tall 185 = .ok (.getfield 72, 3) := by decide +kernel
theorem dX9_tall_188 : decode cX9_tall 188 = .ok (.iload 4, 2) := by decide +kernel
theorem dX9_tall_190 : decode cX9_tall 190 = .ok (.aload_n 0, 1) := by decide +kernel
theorem dX9_tall_191 : decode cX9_tall 191 = .ok (.getfield 75, 3) := by decide +kernel
theorem dX9_tall_194 : decode cX9_tall 194 = .ok (.iload 4, 2) := by decide +kernel
theorem dX9_tall_196 : decode cX9_tall 196 = .ok (.laload, 1) := by decide +kernel
theorem dX9_tall_197 : decode cX9_tall 197 = .ok (.lastore, 1) := by decide +kernel
theorem dX9_tall_198 : decode cX9_tall 198 = .ok (.iinc 4 1, 3) := by decide +kernel
theorem dX9_tall_201 : decode cX9_tall 201 = .ok (.goto (-25), 3) := by decide +kernel
theorem dX9_tall_204 : decode cX9_tall 204 = .ok (.iload_n 3, 1) := by decide +kernel
theorem dX9_tall_205 : decode cX9_tall 205 = .ok (.iconst 2, 1) := by decide +kernel
theorem dX9_tall_206 : decode cX9_tall 206 = .ok (.idiv, 1) := by decide +kernel
theorem dX9_tall_207 : decode cX9_tall 207 = .ok (.istore_n 3, 1) := by decide +kernel
theorem dX9_tall_208 : decode cX9_tall 208 = .ok (.goto (-87), 3) := by decide +kernel
theorem dX9_tall_211 : decode cX9_tall 211 = .ok (.lconst 0, 1) := by decide +kernel
theorem dX9_tall_212 : decode cX9_tall 212 = .ok (.lstore_n 3, 1) := by decide +kernel
theorem dX9_tall_213 : decode cX9_tall 213 = .ok (.iconst 0, 1) := by decide +kernel
theorem dX9_tall_214 : decode cX9_tall 214 = .ok (.istore 5, 2) := by decide +kernel
theorem dX9_tall_216 : decode cX9_tall 216 = .ok (.iload 5, 2) := by decide +kernel
theorem dX9_tall_218 : decode cX9_tall 218 = .ok (.aload_n 0, 1) := by decide +kernel
theorem dX9_tall_219 : decode cX9_tall 219 = .ok (.getfield 153, 3) := by decide +kernel
theorem dX9_tall_222 : decode cX9_tall 222 = .ok (.if_icmp .ge 67, 3) := by decide +kernel
theorem dX9_tall_225 : decode cX9_tall 225 = .ok (.iconst 0, 1) := by decide +kernel
theorem dX9_tall_226 : decode cX9_tall 226 = .ok (.istore 6, 2) := by decide +kernel
theorem dX9_tall_228 : decode cX9_tall 228 = .ok (.iload 6, 2) := by decide +kernel
theorem dX9_tall_230 : decode cX9_tall 230 = .ok (.aload_n 0, 1) := by decide +kernel
theorem dX9_tall_231 : decode cX9_tall 231 = .ok (.getfield 153, 3) := by decide +kernel
theorem dX9_tall_234 : decode cX9_tall 234 = .ok (.if_icmp .ge 49, 3) := by decide +kernel
theorem dX9_tall_237 : decode cX9_tall 237 = .ok (.lload_n 3, 1) := by decide +kernel
theorem dX9_tall_238 : decode cX9_tall 238 = .ok (.aload_n 0, 1) := by decide +kernel
theorem dX9_tall_239 : decode cX9_tall 239 = .ok (.getfield 43, 3) := by decide +kernel
theorem dX9_tall_242 : decode cX9_tall 242 = .ok (.iload 5, 2) := by decide +kernel
theorem dX9_tall_244 : decode cX9_tall 244 = .ok (.baload, 1) := by decide +kernel
theorem dX9_tall_245 : decode cX9_tall 245 = .ok (.ifCond .eq 29, 3) := by decide +kernel
theorem dX9_tall_248 : decode cX9_tall 248 = .ok (.aload_n 0, 1) := by decide +kernel
theorem dX9_tall_249 : decode cX9_tall 249 = .ok (.getfield 46, 3) := by decide +kernel
theorem dX9_tall_252 : decode cX9_tall 252 = .ok (.iload 6, 2) := by decide +kernel
theorem dX9_tall_254 : decode cX9_tall 254 = .ok (.baload, 1) := by decide +kernel
theorem dX9_tall_255 : decode cX9_tall 255 = .ok (.ifCond .eq 19, 3) := by decide +kernel
theorem dX9_tall_258 : decode cX9_tall 258 = .ok (.aload_n 0, 1) := by decide +kernel
theorem dX9_tall_259 : decode cX9_tall 259 = .ok (.getfield 69, 3) := by decide +kernel
theorem dX9_tall_262 : decode cX9_tall 262 = .ok (.bipush 27, 2) := by decide +kernel
theorem dX9_tall_264 : decode cX9_tall 264 = .ok (.iload 5, 2) := by decide +kernel
theorem dX9_tall_266 : decode cX9_tall 266 = .ok (.imul, 1) := by decide +kernel
theorem dX9_tall_267 : decode cX9_tall 267 = .ok (.iload 6, 2) := by decide +kernel
theorem dX9_tall_269 : decode cX9_tall 269 = .ok (.iadd, 1) := by decide +kernel
theorem dX9_tall_270 : decode cX9_tall 270 = .ok (.laload, 1) := by decide +kernel
theorem dX9_tall_271 : decode cX9_tall 271 = .ok (.goto 4, 3) := by decide +kernel
theorem dX9_tall_274 : decode cX9_tall 274 = .ok (.lconst 0, 1) := by decide +kernel
theorem dX9_tall_275 : decode cX9_tall 275 = .ok (.ladd, 1) := by decide +kernel
theorem dX9_tall_276 : decode cX9_tall 276 = .ok (.lstore_n 3, 1) := by decide +kernel
theorem dX9_tall_277 : decode cX9_tall 277 = .ok (.iinc 6 1, 3) := by decide +kernel
theorem dX9_tall_280 : decode cX9_tall 280 = .ok (.goto (-52), 3) := by decide +kernel
theorem dX9_tall_283 : decode cX9_tall 283 = .ok (.iinc 5 1, 3) := by decide +kernel
theorem dX9_tall_286 : decode cX9_tall 286 = .ok (.goto (-70), 3) := by decide +kernel
theorem dX9_tall_289 : decode cX9_tall 289 = .ok (.lload_n 3, 1) := by decide +kernel
theorem dX9_tall_290 : decode cX9_tall 290 = .ok (.ldc2_w 208, 3) := by decide +kernel
theorem dX9_tall_293 : decode cX9_tall 293 = .ok (.lrem, 1) := by decide +kernel
theorem dX9_tall_294 : decode cX9_tall 294 = .ok (.l2i, 1) := by decide +kernel
theorem dX9_tall_295 : decode cX9_tall 295 = .ok (.ireturn, 1) := by decide +kernel
set_option maxRecDepth 20000 in
theorem ggX9_layLive_X9_layFits : GoodIn wsX9_layLive wsX9_layFits := goodIn_r _ [12, 1, 3, 5, 6, 13, 14, 15, 11, 16, 17, 18, 19, 20, 21, 22, 23, 24, 25, 26, 27, 28, 29, 30, 31, 32, 33, 34, 35, 36, 37, 38, 39, 40, 41, 42, 43, 44, 45, 46, 47, 48, 49, 50, 51, 52, 53, 54, 55, 56] (by decide +kernel) (by decide +kernel)
set_option maxRecDepth 20000 in
theorem gX9_layLive_X9_layFits : GoodIn wsX9_layLive (wsV RX9 166 RX9 yX9_layFits wsX9_layFits) := goodIn_app (goodIn_of _ (by decide +kernel)) ggX9_layLive_X9_layFits
theorem dX9_layLive_0 : decode cX9_layLive 0 = .ok (.aload_n 0, 1) := by decide +kernel
theorem dX9_layLive_1 : decode cX9_layLive 1 = .ok (.iload_n 1, 1) := by decide +kernel
theorem dX9_layLive_2 : decode cX9_layLive 2 = .ok (.invokevirtual 166, 3) := by decide +kernel
theorem dX9_layLive_5 : decode cX9_layLive 5 = .ok (.iconst 0, 1) := by decide +kernel
theorem dX9_layLive_6 : decode cX9_layLive 6 = .ok (.istore_n 2, 1) := by decide +kernel
theorem dX9_layLive_7 : decode cX9_layLive 7 = .ok (.iload_n 2, 1) := by decide +kernel
theorem dX9_layLive_8 : decode cX9_layLive 8 = .ok (.aload_n 0, 1) := by decide +kernel
theorem dX9_layLive_9 : decode cX9_layLive 9 = .ok (.getfield 153, 3) := by decide +kernel
theorem dX9_layLive_12 : decode cX9_layLive 12 = .ok (.if_icmp .ge 33, 3) := by decide +kernel
theorem dX9_layLive_15 : decode cX9_layLive 15 = .ok (.aload_n 0, 1) := by decide +kernel
theorem dX9_layLive_16 : decode cX9_layLive 16 = .ok (.getfield 81, 3) := by decide +kernel
theorem dX9_layLive_19 : decode cX9_layLive 19 = .ok (.iload_n 2, 1) := by decide +kernel
theorem dX9_layLive_20 : decode cX9_layLive 20 = .ok (.aload_n 0, 1) := by decide +kernel
theorem dX9_layLive_21 : decode cX9_layLive 21 = .ok (.getfield 43, 3) := by decide +kernel
theorem dX9_layLive_24 : decode cX9_layLive 24 = .ok (.iload_n 2, 1) := by decide +kernel
theorem dX9_layLive_25 : decode cX9_layLive 25 = .ok (.baload, 1) := by decide +kernel
theorem dX9_layLive_26 : decode cX9_layLive 26 = .ok (.bastore, 1) := by decide +kernel
theorem dX9_layLive_27 : decode cX9_layLive 27 = .ok (.aload_n 0, 1) := by decide +kernel
theorem dX9_layLive_28 : decode cX9_layLive 28 = .ok (.getfield 84, 3) := by decide +kernel
theorem dX9_layLive_31 : decode cX9_layLive 31 = .ok (.iload_n 2, 1) := by decide +kernel
theorem dX9_layLive_32 : decode cX9_layLive 32 = .ok (.aload_n 0, 1) := by decide +kernel
theorem dX9_layLive_33 : decode cX9_layLive 33 = .ok (.getfield 46, 3) := by decide +kernel
theorem dX9_layLive_36 : decode cX9_layLive 36 = .ok (.iload_n 2, 1) := by decide +kernel
theorem dX9_layLive_37 : decode cX9_layLive 37 = .ok (.baload, 1) := by decide +kernel
theorem dX9_layLive_38 : decode cX9_layLive 38 = .ok (.bastore, 1) := by decide +kernel
theorem dX9_layLive_39 : decode cX9_layLive 39 = .ok (.iinc 2 1, 3) := by decide +kernel
theorem dX9_layLive_42 : decode cX9_layLive 42 = .ok (.goto (-35), 3) := by decide +kernel
theorem dX9_layLive_45 : decode cX9_layLive 45 = .ok (.iconst 1, 1) := by decide +kernel
theorem dX9_layLive_46 : decode cX9_layLive 46 = .ok (.istore_n 2, 1) := by decide +kernel
theorem dX9_layLive_47 : decode cX9_layLive 47 = .ok (.iload_n 2, 1) := by decide +kernel
theorem dX9_layLive_48 : decode cX9_layLive 48 = .ok (.ifCond .eq 124, 3) := by decide +kernel
theorem dX9_layLive_51 : decode cX9_layLive 51 = .ok (.iconst 0, 1) := by decide +kernel
theorem dX9_layLive_52 : decode cX9_layLive 52 = .ok (.istore_n 2, 1) := by decide +kernel
theorem dX9_layLive_53 : decode cX9_layLive 53 = .ok (.iconst 0, 1) := by decide +kernel
theorem dX9_layLive_54 : decode cX9_layLive 54 = .ok (.istore_n 3, 1) := by decide +kernel
theorem dX9_layLive_55 : decode cX9_layLive 55 = .ok (.iload_n 3, 1) := by decide +kernel
theorem dX9_layLive_56 : decode cX9_layLive 56 = .ok (.aload_n 0, 1) := by decide +kernel
theorem dX9_layLive_57 : decode cX9_layLive 57 = .ok (.getfield 153, 3) := by decide +kernel
theorem dX9_layLive_60 : decode cX9_layLive 60 = .ok (.if_icmp .ge 109, 3) := by decide +kernel
theorem dX9_layLive_63 : decode cX9_layLive 63 = .ok (.iconst 0, 1) := by decide +kernel
theorem dX9_layLive_64 : decode cX9_layLive 64 = .ok (.istore 4, 2) := by decide +kernel
theorem dX9_layLive_66 : decode cX9_layLive 66 = .ok (.iload 4, 2) := by decide +kernel
theorem dX9_layLive_68 : decode cX9_layLive 68 = .ok (.aload_n 0, 1) := by decide +kernel
theorem dX9_layLive_69 : decode cX9_layLive 69 = .ok (.getfield 153, 3) := by decide +kernel
theorem dX9_layLive_72 : decode cX9_layLive 72 = .ok (.if_icmp .ge 91, 3) := by decide +kernel
theorem dX9_layLive_75 : decode cX9_layLive 75 = .ok (.aload_n 0, 1) := by decide +kernel
theorem dX9_layLive_76 : decode cX9_layLive 76 = .ok (.getfield 40, 3) := by decide +kernel
theorem dX9_layLive_79 : decode cX9_layLive 79 = .ok (.sipush 243, 3) := by decide +kernel
theorem dX9_layLive_82 : decode cX9_layLive 82 = .ok (.iload_n 3, 1) := by decide +kernel
theorem dX9_layLive_83 : decode cX9_layLive 83 = .ok (.imul, 1) := by decide +kernel
theorem dX9_layLive_84 : decode cX9_layLive 84 = .ok (.iload 4, 2) := by decide +kernel
theorem dX9_layLive_86 : decode cX9_layLive 86 = .ok (.iadd, 1) := by decide +kernel
theorem dX9_layLive_87 : decode cX9_layLive 87 = .ok (.baload, 1) := by decide +kernel
theorem dX9_layLive_88 : decode cX9_layLive 88 = .ok (.istore 5, 2) := by decide +kernel
theorem dX9_layLive_90 : decode cX9_layLive 90 = .ok (.iload 5, 2) := by decide +kernel
theorem dX9_layLive_92 : decode cX9_layLive 92 = .ok (.ifCond .eq 32, 3) := by decide +kernel
theorem dX9_layLive_95 : decode cX9_layLive 95 = .ok (.aload_n 0, 1) := by decide +kernel
theorem dX9_layLive_96 : decode cX9_layLive 96 = .ok (.getfield 81, 3) := by decide +kernel
theorem dX9_layLive_99 : decode cX9_layLive 99 = .ok (.iload_n 3, 1) := by decide +kernel
theorem dX9_layLive_100 : decode cX9_layLive 100 = .ok (.baload, 1) := by decide +kernel
theorem dX9_layLive_101 : decode cX9_layLive 101 = .ok (.ifCond .eq 23, 3) := by decide +kernel
theorem dX9_layLive_104 : decode cX9_layLive 104 = .ok (.aload_n 0, 1) := by decide +kernel
theorem dX9_layLive_105 : decode cX9_layLive 105 = .ok (.getfield 81, 3) := by decide +kernel
theorem dX9_layLive_108 : decode cX9_layLive 108 = .ok (.iload 4, 2) := by decide +kernel
theorem dX9_layLive_110 : decode cX9_layLive 110 = .ok (.baload, 1) := by decide +kernel
theorem dX9_layLive_111 : decode cX9_layLive 111 = .ok (.ifCond .ne 13, 3) := by decide +kernel
theorem dX9_layLive_114 : decode cX9_layLive 114 = .ok (.aload_n 0, 1) := by decide +kernel
theorem dX9_layLive_115 : decode cX9_layLive 115 = .ok (.getfield 81, 3) := by decide +kernel
theorem dX9_layLive_118 : decode cX9_layLive 118 = .ok (.iload 4, 2) := by decide +kernel
theorem dX9_layLive_120 : decode cX9_layLive 120 = .ok (.iconst 1, 1) := by decide +kernel
theorem dX9_layLive_121 : decode cX9_layLive 121 = .ok (.bastore, 1) := by decide +kernel
theorem dX9_layLive_122 : decode cX9_layLive 122 = .ok (.iconst 1, 1) := by decide +kernel
theorem dX9_layLive_123 : decode cX9_layLive 123 = .ok (.istore_n 2, 1) := by decide +kernel
theorem dX9_layLive_124 : decode cX9_layLive 124 = .ok (.iload 5, 2) := by decide +kernel
theorem dX9_layLive_126 : decode cX9_layLive 126 = .ok (.ifCond .eq 31, 3) := by decide +kernel
theorem dX9_layLive_129 : decode cX9_layLive 129 = .ok (.aload_n 0, 1) := by decide +kernel
theorem dX9_layLive_130 : decode cX9_layLive 130 = .ok (.getfield 84, 3) := by decide +kernel
theorem dX9_layLive_133 : decode cX9_layLive 133 = .ok (.iload 4, 2) := by decide +kernel
theorem dX9_layLive_135 : decode cX9_layLive 135 = .ok (.baload, 1) := by decide +kernel
theorem dX9_layLive_136 : decode cX9_layLive 136 = .ok (.ifCond .eq 21, 3) := by decide +kernel
theorem dX9_layLive_139 : decode cX9_layLive 139 = .ok (.aload_n 0, 1) := by decide +kernel
theorem dX9_layLive_140 : decode cX9_layLive 140 = .ok (.getfield 84, 3) := by decide +kernel
theorem dX9_layLive_143 : decode cX9_layLive 143 = .ok (.iload_n 3, 1) := by decide +kernel
theorem dX9_layLive_144 : decode cX9_layLive 144 = .ok (.baload, 1) := by decide +kernel
theorem dX9_layLive_145 : decode cX9_layLive 145 = .ok (.ifCond .ne 12, 3) := by decide +kernel
theorem dX9_layLive_148 : decode cX9_layLive 148 = .ok (.aload_n 0, 1) := by decide +kernel
theorem dX9_layLive_149 : decode cX9_layLive 149 = .ok (.getfield 84, 3) := by decide +kernel
theorem dX9_layLive_152 : decode cX9_layLive 152 = .ok (.iload_n 3, 1) := by decide +kernel
theorem dX9_layLive_153 : decode cX9_layLive 153 = .ok (.iconst 1, 1) := by decide +kernel
theorem dX9_layLive_154 : decode cX9_layLive 154 = .ok (.bastore, 1) := by decide +kernel
theorem dX9_layLive_155 : decode cX9_layLive 155 = .ok (.iconst 1, 1) := by decide +kernel
theorem dX9_layLive_156 : decode cX9_layLive 156 = .ok (.istore_n 2, 1) := by decide +kernel
theorem dX9_layLive_157 : decode cX9_layLive 157 = .ok (.iinc 4 1, 3) := by decide +kernel
theorem dX9_layLive_160 : decode cX9_layLive 160 = .ok (.goto (-94), 3) := by decide +kernel
theorem dX9_layLive_163 : decode cX9_layLive 163 = .ok (.iinc 3 1, 3) := by decide +kernel
theorem dX9_layLive_166 : decode cX9_layLive 166 = .ok (.goto (-111), 3) := by decide +kernel
theorem dX9_layLive_169 : decode cX9_layLive 169 = .ok (.goto (-122), 3) := by decide +kernel
theorem dX9_layLive_172 : decode cX9_layLive 172 = .ok (.iconst 0, 1) := by decide +kernel
theorem dX9_layLive_173 : decode cX9_layLive 173 = .ok (.istore_n 3, 1) := by decide +kernel
theorem dX9_layLive_174 : decode cX9_layLive 174 = .ok (.iload_n 3, 1) := by decide +kernel
theorem dX9_layLive_175 : decode cX9_layLive 175 = .ok (.aload_n 0, 1) := by decide +kernel
theorem dX9_layLive_176 : decode cX9_layLive 176 = .ok (.getfield 153, 3) := by decide +kernel
theorem dX9_layLive_179 : decode cX9_layLive 179 = .ok (.if_icmp .ge 38, 3) := by decide +kernel
theorem dX9_layLive_182 : decode cX9_layLive 182 = .ok (.aload_n 0, 1) := by decide +kernel
theorem dX9_layLive_183 : decode cX9_layLive 183 = .ok (.getfield 78, 3) := by decide +kernel
theorem dX9_layLive_186 : decode cX9_layLive 186 = .ok (.iload_n 3, 1) := by decide +kernel
theorem dX9_layLive_187 : decode cX9_layLive 187 = .ok (.aload_n 0, 1) := by decide +kernel
theorem dX9_layLive_188 : decode cX9_layLive 188 = .ok (.getfield 81, 3) := by decide +kernel
theorem dX9_layLive_191 : decode cX9_layLive 191 = .ok (.iload_n 3, 1) := by decide +kernel
theorem dX9_layLive_192 : decode cX9_layLive 192 = .ok (.baload, 1) := by decide +kernel
theorem dX9_layLive_193 : decode cX9_layLive 193 = .ok (.ifCond .eq 16, 3) := by decide +kernel
theorem dX9_layLive_196 : decode cX9_layLive 196 = .ok (.aload_n 0, 1) := by decide +kernel
theorem dX9_layLive_197 : decode cX9_layLive 197 = .ok (.getfield 84, 3) := by decide +kernel
theorem dX9_layLive_200 : decode cX9_layLive 200 = .ok (.iload_n 3, 1) := by decide +kernel
theorem dX9_layLive_201 : decode cX9_layLive 201 = .ok (.baload, 1) := by decide +kernel
theorem dX9_layLive_202 : decode cX9_layLive 202 = .ok (.ifCond .eq 7, 3) := by decide +kernel
theorem dX9_layLive_205 : decode cX9_layLive 205 = .ok (.iconst 1, 1) := by decide +kernel
theorem dX9_layLive_206 : decode cX9_layLive 206 = .ok (.goto 4, 3) := by decide +kernel
theorem dX9_layLive_209 : decode cX9_layLive 209 = .ok (.iconst 0, 1) := by decide +kernel
theorem dX9_layLive_210 : decode cX9_layLive 210 = .ok (.bastore, 1) := by decide +kernel
theorem dX9_layLive_211 : decode cX9_layLive 211 = .ok (.iinc 3 1, 3) := by decide +kernel
theorem dX9_layLive_214 : decode cX9_layLive 214 = .ok (.goto (-40), 3) := by decide +kernel
theorem dX9_layLive_217 : decode cX9_layLive 217 = .ok (.return_, 1) := by decide +kernel
set_option maxRecDepth 20000 in
theorem ggX9_live_X9_isTall : GoodIn wsX9_live wsX9_isTall := goodIn_r _ [6, 7, 8, 9, 5, 10] (by decide +kernel) (by decide +kernel)
set_option maxRecDepth 20000 in
theorem gX9_live_X9_isTall : GoodIn wsX9_live (va_wsS RX9 210 yX9_isTall wsX9_isTall) := goodIn_app (goodIn_of _ (by decide +kernel)) ggX9_live_X9_isTall
set_option maxRecDepth 20000 in
theorem ggX9_live_X9_layLive : GoodIn wsX9_live wsX9_layLive := goodIn_r _ [14, 1, 15, 16, 17, 18, 19, 2, 20, 21, 22, 5, 23, 24, 25, 26, 27, 28, 29, 30, 31, 32, 33, 34, 35, 36, 37, 38, 39, 40, 41, 42, 43, 44, 45, 46, 47, 48, 49, 50, 51, 52, 53, 54, 55, 56, 57, 58, 59, 60, 61, 62, 63, 64, 65, 66, 67] (by decide +kernel) (by decide +kernel)
set_option maxRecDepth 20000 in
theorem gX9_live_X9_layLive : GoodIn wsX9_live (wsV RX9 219 RX9 yX9_layLive wsX9_layLive) := goodIn_app (goodIn_of _ (by decide +kernel)) ggX9_live_X9_layLive
theorem dX9_live_0 : decode cX9_live 0 = .ok (.iload_n 1, 1) := by decide +kernel
theorem dX9_live_1 : decode cX9_live 1 = .ok (.invokestatic 210, 3) := by decide +kernel
theorem dX9_live_4 : decode cX9_live 4 = .ok (.ifCond .ne 6, 3) := by decide +kernel
theorem dX9_live_7 : decode cX9_live 7 = .ok (.bipush (-3), 2) := by decide +kernel
theorem dX9_live_9 : decode cX9_live 9 = .ok (.ireturn, 1) := by decide +kernel
theorem dX9_live_10 : decode cX9_live 10 = .ok (.aload_n 0, 1) := by decide +kernel
theorem dX9_live_11 : decode cX9_live 11 = .ok (.iload_n 1, 1) := by decide +kernel
theorem dX9_live_12 : decode cX9_live 12 = .ok (.invokevirtual 219, 3) := by decide +kernel
theorem dX9_live_15 : decode cX9_live 15 = .ok (.iconst 0, 1) := by decide +kernel
theorem dX9_live_16 : decode cX9_live 16 = .ok (.istore_n 2, 1) := by decide +kernel
theorem dX9_live_17 : decode cX9_live 17 = .ok (.iconst 0, 1) := by decide +kernel
theorem dX9_live_18 : decode cX9_live 18 = .ok (.istore_n 3, 1) := by decide +kernel
theorem dX9_live_19 : decode cX9_live 19 = .ok (.iload_n 3, 1) := by decide +kernel
theorem dX9_live_20 : decode cX9_live 20 = .ok (.aload_n 0, 1) := by decide +kernel
theorem dX9_live_21 : decode cX9_live 21 = .ok (.getfield 153, 3) := by decide +kernel
theorem dX9_live_24 : decode cX9_live 24 = .ok (.if_icmp .ge 26, 3) := by decide +kernel
theorem dX9_live_27 : decode cX9_live 27 = .ok (.iload_n 2, 1) := by decide +kernel
theorem dX9_live_28 : decode cX9_live 28 = .ok (.aload_n 0, 1) := by decide +kernel
theorem dX9_live_29 : decode cX9_live 29 = .ok (.getfield 78, 3) := by decide +kernel
theorem dX9_live_32 : decode cX9_live 32 = .ok (.iload_n 3, 1) := by decide +kernel
theorem dX9_live_33 : decode cX9_live 33 = .ok (.baload, 1) := by decide +kernel
theorem dX9_live_34 : decode cX9_live 34 = .ok (.ifCond .eq 7, 3) := by decide +kernel
theorem dX9_live_37 : decode cX9_live 37 = .ok (.iconst 1, 1) := by decide +kernel
theorem dX9_live_38 : decode cX9_live 38 = .ok (.goto 4, 3) := by decide +kernel
theorem dX9_live_41 : decode cX9_live 41 = .ok (.iconst 0, 1) := by decide +kernel
theorem dX9_live_42 : decode cX9_live 42 = .ok (.iadd, 1) := by decide +kernel
theorem dX9_live_43 : decode cX9_live 43 = .ok (.istore_n 2, 1) := by decide +kernel
theorem dX9_live_44 : decode cX9_live 44 = .ok (.iinc 3 1, 3) := by decide +kernel
theorem dX9_live_47 : decode cX9_live 47 = .ok (.goto (-28), 3) := by decide +kernel
theorem dX9_live_50 : decode cX9_live 50 = .ok (.iload_n 2, 1) := by decide +kernel
theorem dX9_live_51 : decode cX9_live 51 = .ok (.ireturn, 1) := by decide +kernel
set_option maxRecDepth 20000 in
theorem ggX9_endless_X9_isTall : GoodIn wsX9_endless wsX9_isTall := goodIn_r _ [7, 8, 9, 10, 6, 11] (by decide +kernel) (by decide +kernel)
set_option maxRecDepth 20000 in
theorem gX9_endless_X9_isTall : GoodIn wsX9_endless (va_wsS RX9 210 yX9_isTall wsX9_isTall) := goodIn_app (goodIn_of _ (by decide +kernel)) ggX9_endless_X9_isTall
set_option maxRecDepth 20000 in
theorem ggX9_endless_X9_layLive : GoodIn wsX9_endless wsX9_layLive := goodIn_r _ [15, 1, 16, 17, 18, 19, 2, 3, 20, 21, 22, 6, 23, 24, 25, 26, 27, 28, 29, 30, 31, 32, 33, 34, 35, 36, 37, 38, 39, 40, 41, 42, 43, 44, 45, 46, 47, 48, 49, 50, 51, 52, 53, 54, 55, 56, 57, 58, 59, 60, 61, 62, 63, 64, 65, 66, 67] (by decide +kernel) (by decide +kernel)
set_option maxRecDepth 20000 in
theorem gX9_endless_X9_layLive : GoodIn wsX9_endless (wsV RX9 219 RX9 yX9_layLive wsX9_layLive) := goodIn_app (goodIn_of _ (by decide +kernel)) ggX9_endless_X9_layLive
theorem dX9_endless_0 : decode cX9_endless 0 = .ok (.iload_n 1, 1) := by decide +kernel
theorem dX9_endless_1 : decode cX9_endless 1 = .ok (.invokestatic 210, 3) := by decide +kernel
theorem dX9_endless_4 : decode cX9_endless 4 = .ok (.ifCond .ne 6, 3) := by decide +kernel
theorem dX9_endless_7 : decode cX9_endless 7 = .ok (.bipush (-3), 2) := by decide +kernel
theorem dX9_endless_9 : decode cX9_endless 9 = .ok (.ireturn, 1) := by decide +kernel
theorem dX9_endless_10 : decode cX9_endless 10 = .ok (.aload_n 0, 1) := by decide +kernel
theorem dX9_endless_11 : decode cX9_endless 11 = .ok (.iload_n 1, 1) := by decide +kernel
theorem dX9_endless_12 : decode cX9_endless 12 = .ok (.invokevirtual 219, 3) := by decide +kernel
theorem dX9_endless_15 : decode cX9_endless 15 = .ok (.iconst 1, 1) := by decide +kernel
theorem dX9_endless_16 : decode cX9_endless 16 = .ok (.istore_n 2, 1) := by decide +kernel
theorem dX9_endless_17 : decode cX9_endless 17 = .ok (.iload_n 2, 1) := by decide +kernel
theorem dX9_endless_18 : decode cX9_endless 18 = .ok (.ifCond .eq 106, 3) := by decide +kernel
theorem dX9_endless_21 : decode cX9_endless 21 = .ok (.iconst 0, 1) := by decide +kernel
theorem dX9_endless_22 : decode cX9_endless 22 = .ok (.istore_n 2, 1) := by decide +kernel
theorem dX9_endless_23 : decode cX9_endless 23 = .ok (.iconst 0, 1) := by decide +kernel
theorem dX9_endless_24 : decode cX9_endless 24 = .ok (.istore_n 3, 1) := by decide +kernel
theorem dX9_endless_25 : decode cX9_endless 25 = .ok (.iload_n 3, 1) := by decide +kernel
theorem dX9_endless_26 : decode cX9_endless 26 = .ok (.aload_n 0, 1) := by decide +kernel
theorem dX9_endless_27 : decode cX9_endless 27 = .ok (.getfield 153, 3) := by decide +kernel
theorem dX9_endless_30 : decode cX9_endless 30 = .ok (.if_icmp .ge 91, 3) := by decide +kernel
theorem dX9_endless_33 : decode cX9_endless 33 = .ok (.iconst 0, 1) := by decide +kernel
theorem dX9_endless_34 : decode cX9_endless 34 = .ok (.istore 4, 2) := by decide +kernel
theorem dX9_endless_36 : decode cX9_endless 36 = .ok (.iconst 0, 1) := by decide +kernel
theorem dX9_endless_37 : decode cX9_endless 37 = .ok (.istore 5, 2) := by decide +kernel
theorem dX9_endless_39 : decode cX9_endless 39 = .ok (.iload 5, 2) := by decide +kernel
theorem dX9_endless_41 : decode cX9_endless 41 = .ok (.aload_n 0, 1) := by decide +kernel
theorem dX9_endless_42 : decode cX9_endless 42 = .ok (.getfield 153, 3) := by decide +kernel
theorem dX9_endless_45 : decode cX9_endless 45 = .ok (.if_icmp .ge 47, 3) := by decide +kernel
theorem dX9_endless_48 : decode cX9_endless 48 = .ok (.iload 4, 2) := by decide +kernel
theorem dX9_endless_50 : decode cX9_endless 50 = .ok (.ifCond .ne 29, 3) := by decide +kernel
theorem dX9_endless_53 : decode cX9_endless 53 = .ok (.aload_n 0, 1) := by decide +kernel
theorem dX9_endless_54 : decode cX9_endless 54 = .ok (.getfield 40, 3) := by decide +kernel
theorem dX9_endless_57 : decode cX9_endless 57 = .ok (.sipush 243, 3) := by decide +kernel
theorem dX9_endless_60 : decode cX9_endless 60 = .ok (.iload_n 3, 1) := by decide +kernel
theorem dX9_endless_61 : decode cX9_endless 61 = .ok (.imul, 1) := by decide +kernel
theorem dX9_endless_62 : decode cX9_endless 62 = .ok (.iload 5, 2) := by decide +kernel
theorem dX9_endless_64 : decode cX9_endless 64 = .ok (.iadd, 1) := by decide +kernel
theorem dX9_endless_65 : decode cX9_endless 65 = .ok (.baload, 1) := by decide +kernel
theorem dX9_endless_66 : decode cX9_endless 66 = .ok (.ifCond .eq 17, 3) := by decide +kernel
theorem dX9_endless_69 : decode cX9_endless 69 = .ok (.aload_n 0, 1) := by decide +kernel
theorem dX9_endless_70 : decode cX9_endless 70 = .ok (.getfield 78, 3) := by decide +kernel
theorem dX9_endless_73 : decode cX9_endless 73 = .ok (.iload 5, 2) := by decide +kernel
theorem dX9_endless_75 : decode cX9_endless 75 = .ok (.baload, 1) := by decide +kernel
theorem dX9_endless_76 : decode cX9_endless 76 = .ok (.ifCond .eq 7, 3) := by decide +kernel
theorem dX9_endless_79 : decode cX9_endless 79 = .ok (.iconst 1, 1) := by decide +kernel
theorem dX9_endless_80 : decode cX9_endless 80 = .ok (.goto 4, 3) := by decide +kernel
theorem dX9_endless_83 : decode cX9_endless 83 = .ok (.iconst 0, 1) := by decide +kernel
theorem dX9_endless_84 : decode cX9_endless 84 = .ok (.istore 4, 2) := by decide +kernel
theorem dX9_endless_86 : decode cX9_endless 86 = .ok (.iinc 5 1, 3) := by decide +kernel
theorem dX9_endless_89 : decode cX9_endless 89 = .ok (.goto (-50), 3) := by decide +kernel
theorem dX9_endless_92 : decode cX9_endless 92 = .ok (.aload_n 0, 1) := by decide +kernel
theorem dX9_endless_93 : decode cX9_endless 93 = .ok (.getfield 78, 3) := by decide +kernel
theorem dX9_endless_96 : decode cX9_endless 96 = .ok (.iload_n 3, 1) := by decide +kernel
theorem dX9_endless_97 : decode cX9_endless 97 = .ok (.baload, 1) := by decide +kernel
theorem dX9_endless_98 : decode cX9_endless 98 = .ok (.ifCond .eq 17, 3) := by decide +kernel
theorem dX9_endless_101 : decode cX9_endless 101 = .ok (.iload 4, 2) := by decide +kernel
theorem dX9_endless_103 : decode cX9_endless 103 = .ok (.ifCond .ne 12, 3) := by decide +kernel
theorem dX9_endless_106 : decode cX9_endless 106 = .ok (.aload_n 0, 1) := by decide +kernel
theorem dX9_endless_107 : decode cX9_endless 107 = .ok (.getfield 78, 3) := by decide +kernel
theorem dX9_endless_110 : decode cX9_endless 110 = .ok (.iload_n 3, 1) := by decide +kernel
theorem dX9_endless_111 : decode cX9_endless 111 = .ok (.iconst 0, 1) := by decide +kernel
theorem dX9_endless_112 : decode cX9_endless 112 = .ok (.bastore, 1) := by decide +kernel
theorem dX9_endless_113 : decode cX9_endless 113 = .ok (.iconst 1, 1) := by decide +kernel
theorem dX9_endless_114 : decode cX9_endless 114 = .ok (.istore_n 2, 1) := by decide +kernel
theorem dX9_endless_115 : decode cX9_endless 115 = .ok (.iinc 3 1, 3) := by decide +kernel
theorem dX9_endless_118 : decode cX9_endless 118 = .ok (.goto (-93), 3) := by decide +kernel
theorem dX9_endless_121 : decode cX9_endless 121 = .ok (.goto (-104), 3) := by decide +kernel
theorem dX9_endless_124 : decode cX9_endless 124 = .ok (.iconst 0, 1) := by decide +kernel
theorem dX9_endless_125 : decode cX9_endless 125 = .ok (.istore_n 3, 1) := by decide +kernel
theorem dX9_endless_126 : decode cX9_endless 126 = .ok (.iconst 0, 1) := by decide +kernel
theorem dX9_endless_127 : decode cX9_endless 127 = .ok (.istore 4, 2) := by decide +kernel
theorem dX9_endless_129 : decode cX9_endless 129 = .ok (.iload 4, 2) := by decide +kernel
theorem dX9_endless_131 : decode cX9_endless 131 = .ok (.aload_n 0, 1) := by decide +kernel
theorem dX9_endless_132 : decode cX9_endless 132 = .ok (.getfield 153, 3) := by decide +kernel
theorem dX9_endless_135 : decode cX9_endless 135 = .ok (.if_icmp .ge 29, 3) := by decide +kernel
theorem dX9_endless_138 : decode cX9_endless 138 = .ok (.iload_n 3, 1) := by decide +kernel
theorem dX9_endless_139 : decode cX9_endless 139 = .ok (.ifCond .ne 13, 3) := by decide +kernel
theorem dX9_endless_142 : decode cX9_endless 142 = .ok (.aload_n 0, 1) := by decide +kernel
theorem dX9_endless_143 : decode cX9_endless 143 = .ok (.getfield 78, 3) := by decide +kernel
theorem dX9_endless_146 : decode cX9_endless 146 = .ok (.iload 4, 2) := by decide +kernel
theorem dX9_endless_148 : decode cX9_endless 148 = .ok (.baload, 1) := by decide +kernel
theorem dX9_endless_149 : decode cX9_endless 149 = .ok (.ifCond .eq 7, 3) := by decide +kernel
theorem dX9_endless_152 : decode cX9_endless 152 = .ok (.iconst 1, 1) := by decide +kernel
theorem dX9_endless_153 : decode cX9_endless 153 = .ok (.goto 4, 3) := by decide +kernel
theorem dX9_endless_156 : decode cX9_endless 156 = .ok (.iconst 0, 1) := by decide +kernel
theorem dX9_endless_157 : decode cX9_endless 157 = .ok (.istore_n 3, 1) := by decide +kernel
theorem dX9_endless_158 : decode cX9_endless 158 = .ok (.iinc 4 1, 3) := by decide +kernel
theorem dX9_endless_161 : decode cX9_endless 161 = .ok (.goto (-32), 3) := by decide +kernel
theorem dX9_endless_164 : decode cX9_endless 164 = .ok (.iload_n 3, 1) := by decide +kernel
theorem dX9_endless_165 : decode cX9_endless 165 = .ok (.ifCond .eq 7, 3) := by decide +kernel
theorem dX9_endless_168 : decode cX9_endless 168 = .ok (.iconst 1, 1) := by decide +kernel
theorem dX9_endless_169 : decode cX9_endless 169 = .ok (.goto 4, 3) := by decide +kernel
theorem dX9_endless_172 : decode cX9_endless 172 = .ok (.iconst 0, 1) := by decide +kernel
theorem dX9_endless_173 : decode cX9_endless 173 = .ok (.ireturn, 1) := by decide +kernel
set_option maxRecDepth 20000 in
theorem ggX9_lowest_X9_isTall : GoodIn wsX9_lowest wsX9_isTall := goodIn_r _ [10, 11, 12, 13, 9, 14] (by decide +kernel) (by decide +kernel)
set_option maxRecDepth 20000 in
theorem gX9_lowest_X9_isTall : GoodIn wsX9_lowest (va_wsS RX9 210 yX9_isTall wsX9_isTall) := goodIn_app (goodIn_of _ (by decide +kernel)) ggX9_lowest_X9_isTall
set_option maxRecDepth 20000 in
theorem ggX9_lowest_X9_layFits : GoodIn wsX9_lowest wsX9_layFits := goodIn_r _ [18, 1, 3, 4, 6, 19, 20, 21, 9, 22, 23, 24, 25, 26, 27, 28, 29, 30, 31, 32, 33, 34, 35, 36, 37, 38, 39, 40, 41, 42, 43, 44, 45, 46, 47, 48, 49, 50, 51, 52, 53, 54, 55, 56, 57, 58, 59, 60, 61, 62] (by decide +kernel) (by decide +kernel)
set_option maxRecDepth 20000 in
theorem gX9_lowest_X9_layFits : GoodIn wsX9_lowest (wsV RX9 166 RX9 yX9_layFits wsX9_layFits) := goodIn_app (goodIn_of _ (by decide +kernel)) ggX9_lowest_X9_layFits
theorem dX9_lowest_0 : decode cX9_lowest 0 = .ok (.iload_n 1, 1) := by decide +kernel
theorem dX9_lowest_1 : decode cX9_lowest 1 = .ok (.invokestatic 210, 3) := by decide +kernel
theorem dX9_lowest_4 : decode cX9_lowest 4 = .ok (.ifCond .ne 6, 3) := by decide +kernel
theorem dX9_lowest_7 : decode cX9_lowest 7 = .ok (.bipush (-3), 2) := by decide +kernel
theorem dX9_lowest_9 : decode cX9_lowest 9 = .ok (.ireturn, 1) := by decide +kernel
theorem dX9_lowest_10 : decode cX9_lowest 10 = .ok (.aload_n 0, 1) := by decide +kernel
theorem dX9_lowest_11 : decode cX9_lowest 11 = .ok (.iload_n 1, 1) := by decide +kernel
theorem dX9_lowest_12 : decode cX9_lowest 12 = .ok (.invokevirtual 166, 3) := by decide +kernel
theorem dX9_lowest_15 : decode cX9_lowest 15 = .ok (.iconst 0, 1) := by decide +kernel
theorem dX9_lowest_16 : decode cX9_lowest 16 = .ok (.istore_n 2, 1) := by decide +kernel
theorem dX9_lowest_17 : decode cX9_lowest 17 = .ok (.iload_n 2, 1) := by decide +kernel
theorem dX9_lowest_18 : decode cX9_lowest 18 = .ok (.aload_n 0, 1) := by decide +kernel
theorem dX9_lowest_19 : decode cX9_lowest 19 = .ok (.getfield 153, 3) := by decide +kernel
theorem dX9_lowest_22 : decode cX9_lowest 22 = .ok (.if_icmp .ge 21, 3) := by decide +kernel
theorem dX9_lowest_25 : decode cX9_lowest 25 = .ok (.aload_n 0, 1) := by decide +kernel
theorem dX9_lowest_26 : decode cX9_lowest 26 = .ok (.getfield 81, 3) := by decide +kernel
theorem dX9_lowest_29 : decode cX9_lowest 29 = .ok (.iload_n 2, 1) := by decide +kernel
theorem dX9_lowest_30 : decode cX9_lowest 30 = .ok (.aload_n 0, 1) := by decide +kernel
theorem dX9_lowest_31 : decode cX9_lowest 31 = .ok (.getfield 43, 3) := by decide +kernel
theorem dX9_lowest_34 : decode cX9_lowest 34 = .ok (.iload_n 2, 1) := by decide +kernel
theorem dX9_lowest_35 : decode cX9_lowest 35 = .ok (.baload, 1) := by decide +kernel
theorem dX9_lowest_36 : decode cX9_lowest 36 = .ok (.bastore, 1) := by decide +kernel
theorem dX9_lowest_37 : decode cX9_lowest 37 = .ok (.iinc 2 1, 3) := by decide +kernel
theorem dX9_lowest_40 : decode cX9_lowest 40 = .ok (.goto (-23), 3) := by decide +kernel
theorem dX9_lowest_43 : decode cX9_lowest 43 = .ok (.iconst 1, 1) := by decide +kernel
theorem dX9_lowest_44 : decode cX9_lowest 44 = .ok (.istore_n 2, 1) := by decide +kernel
theorem dX9_lowest_45 : decode cX9_lowest 45 = .ok (.iload_n 2, 1) := by decide +kernel
theorem dX9_lowest_46 : decode cX9_lowest 46 = .ok (.aload_n 0, 1) := by decide +kernel
theorem dX9_lowest_47 : decode cX9_lowest 47 = .ok (.getfield 153, 3) := by decide +kernel
theorem dX9_lowest_50 : decode cX9_lowest 50 = .ok (.if_icmp .gt 161, 3) := by decide +kernel
theorem dX9_lowest_53 : decode cX9_lowest 53 = .ok (.iconst 0, 1) := by decide +kernel
theorem dX9_lowest_54 : decode cX9_lowest 54 = .ok (.istore_n 3, 1) := by decide +kernel
theorem dX9_lowest_55 : decode cX9_lowest 55 = .ok (.iload_n 3, 1) := by decide +kernel
theorem dX9_lowest_56 : decode cX9_lowest 56 = .ok (.aload_n 0, 1) := by decide +kernel
theorem dX9_lowest_57 : decode cX9_lowest 57 = .ok (.getfield 153, 3) := by decide +kernel
theorem dX9_lowest_60 : decode cX9_lowest 60 = .ok (.if_icmp .ge 36, 3) := by decide +kernel
theorem dX9_lowest_63 : decode cX9_lowest 63 = .ok (.aload_n 0, 1) := by decide +kernel
theorem dX9_lowest_64 : decode cX9_lowest 64 = .ok (.getfield 81, 3) := by decide +kernel
theorem dX9_lowest_67 : decode cX9_lowest 67 = .ok (.iload_n 3, 1) := by decide +kernel
theorem dX9_lowest_68 : decode cX9_lowest 68 = .ok (.baload, 1) := by decide +kernel
theorem dX9_lowest_69 : decode cX9_lowest 69 = .ok (.ifCond .eq 14, 3) := by decide +kernel
theorem dX9_lowest_72 : decode cX9_lowest 72 = .ok (.aload_n 0, 1) := by decide +kernel
theorem dX9_lowest_73 : decode cX9_lowest 73 = .ok (.getfield 46, 3) := by decide +kernel
theorem dX9_lowest_76 : decode cX9_lowest 76 = .ok (.iload_n 3, 1) := by decide +kernel
theorem dX9_lowest_77 : decode cX9_lowest 77 = .ok (.baload, 1) := by decide +kernel
theorem dX9_lowest_78 : decode cX9_lowest 78 = .ok (.ifCond .eq 5, 3) := by decide +kernel
theorem dX9_lowest_81 : decode cX9_lowest 81 = .ok (.iload_n 2, 1) := by decide +kernel
theorem dX9_lowest_82 : decode cX9_lowest 82 = .ok (.ireturn, 1) := by decide +kernel
theorem dX9_lowest_83 : decode cX9_lowest 83 = .ok (.aload_n 0, 1) := by decide +kernel
theorem dX9_lowest_84 : decode cX9_lowest 84 = .ok (.getfield 84, 3) := by decide +kernel
theorem dX9_lowest_87 : decode cX9_lowest 87 = .ok (.iload_n 3, 1) := by decide +kernel
theorem dX9_lowest_88 : decode cX9_lowest 88 = .ok (.iconst 0, 1) := by decide +kernel
theorem dX9_lowest_89 : decode cX9_lowest 89 = .ok (.bastore, 1) := by decide +kernel
theorem dX9_lowest_90 : decode cX9_lowest 90 = .ok (.iinc 3 1, 3) := by decide +kernel
theorem dX9_lowest_93 : decode cX9_lowest 93 = .ok (.goto (-38), 3) := by decide +kernel
theorem dX9_lowest_96 : decode cX9_lowest 96 = .ok (.iconst 0, 1) := by decide +kernel
theorem dX9_lowest_97 : decode cX9_lowest 97 = .ok (.istore_n 3, 1) := by decide +kernel
theorem dX9_lowest_98 : decode cX9_lowest 98 = .ok (.iload_n 3, 1) := by decide +kernel
theorem dX9_lowest_99 : decode cX9_lowest 99 = .ok (.aload_n 0, 1) := by decide +kernel
theorem dX9_lowest_100 : decode cX9_lowest 100 = .ok (.getfield 153, 3) := by decide +kernel
theorem dX9_lowest_103 : decode cX9_lowest 103 = .ok (.if_icmp .ge 74, 3) := by decide +kernel
theorem dX9_lowest_106 : decode cX9_lowest 106 = .ok (.iconst 0, 1) := by decide +kernel
theorem dX9_lowest_107 : decode cX9_lowest 107 = .ok (.istore 4, 2) := by decide +kernel
theorem dX9_lowest_109 : decode cX9_lowest 109 = .ok (.iload 4, 2) := by decide +kernel
theorem dX9_lowest_111 : decode cX9_lowest 111 = .ok (.aload_n 0, 1) := by decide +kernel
theorem dX9_lowest_112 : decode cX9_lowest 112 = .ok (.getfield 153, 3) := by decide +kernel
theorem dX9_lowest_115 : decode cX9_lowest 115 = .ok (.if_icmp .ge 56, 3) := by decide +kernel
theorem dX9_lowest_118 : decode cX9_lowest 118 = .ok (.aload_n 0, 1) := by decide +kernel
theorem dX9_lowest_119 : decode cX9_lowest 119 = .ok (.getfield 84, 3) := by decide +kernel
theorem dX9_lowest_122 : decode cX9_lowest 122 = .ok (.iload 4, 2) := by decide +kernel
theorem dX9_lowest_124 : decode cX9_lowest 124 = .ok (.aload_n 0, 1) := by decide +kernel
theorem dX9_lowest_125 : decode cX9_lowest 125 = .ok (.getfield 84, 3) := by decide +kernel
theorem dX9_lowest_128 : decode cX9_lowest 128 = .ok (.iload 4, 2) := by decide +kernel
theorem dX9_lowest_130 : decode cX9_lowest 130 = .ok (.baload, 1) := by decide +kernel
theorem dX9_lowest_131 : decode cX9_lowest 131 = .ok (.ifCond .ne 28, 3) := by decide +kernel
theorem dX9_lowest_134 : decode cX9_lowest 134 = .ok (.aload_n 0, 1) := by decide +kernel
theorem dX9_lowest_135 : decode cX9_lowest 135 = .ok (.getfield 81, 3) := by decide +kernel
theorem dX9_lowest_138 : decode cX9_lowest 138 = .ok (.iload_n 3, 1) := by decide +kernel
theorem dX9_lowest_139 : decode cX9_lowest 139 = .ok (.baload, 1) := by decide +kernel
theorem dX9_lowest_140 : decode cX9_lowest 140 = .ok (.ifCond .eq 23, 3) := by decide +kernel
theorem dX9_lowest_143 : decode cX9_lowest 143 = .ok (.aload_n 0, 1) := by decide +kernel
theorem dX9_lowest_144 : decode cX9_lowest 144 = .ok (.getfield 40, 3) := by decide +kernel
theorem dX9_lowest_147 : decode cX9_lowest 147 = .ok (.sipush 243, 3) := by decide +kernel
theorem dX9_lowest_150 : decode cX9_lowest 150 = .ok (.iload_n 3, 1) := by decide +kernel
theorem dX9_lowest_151 : decode cX9_lowest 151 = .ok (.imul, 1) := by decide +kernel
theorem dX9_lowest_152 : decode cX9_lowest 152 = .ok (.iload 4, 2) := by decide +kernel
theorem dX9_lowest_154 : decode cX9_lowest 154 = .ok (.iadd, 1) := by decide +kernel
theorem dX9_lowest_155 : decode cX9_lowest 155 = .ok (.baload, 1) := by decide +kernel
theorem dX9_lowest_156 : decode cX9_lowest 156 = .ok (.ifCond .eq 7, 3) := by decide +kernel
theorem dX9_lowest_159 : decode cX9_lowest 159 = .ok (.iconst 1, 1) := by decide +kernel
theorem dX9_lowest_160 : decode cX9_lowest 160 = .ok (.goto 4, 3) := by decide +kernel
theorem dX9_lowest_163 : decode cX9_lowest 163 = .ok (.iconst 0, 1) := by decide +kernel
theorem dX9_lowest_164 : decode cX9_lowest 164 = .ok (.bastore, 1) := by decide +kernel
theorem dX9_lowest_165 : decode cX9_lowest 165 = .ok (.iinc 4 1, 3) := by decide +kernel
theorem dX9_lowest_168 : decode cX9_lowest 168 = .ok (.goto (-59), 3) := by decide +kernel
theorem dX9_lowest_171 : decode cX9_lowest 171 = .ok (.iinc 3 1, 3) := by decide +kernel
theorem dX9_lowest_174 : decode cX9_lowest 174 = .ok (.goto (-76), 3) := by decide +kernel
theorem dX9_lowest_177 : decode cX9_lowest 177 = .ok (.iconst 0, 1) := by decide +kernel
theorem dX9_lowest_178 : decode cX9_lowest 178 = .ok (.istore_n 3, 1) := by decide +kernel
theorem dX9_lowest_179 : decode cX9_lowest 179 = .ok (.iload_n 3, 1) := by decide +kernel
theorem dX9_lowest_180 : decode cX9_lowest 180 = .ok (.aload_n 0, 1) := by decide +kernel
theorem dX9_lowest_181 : decode cX9_lowest 181 = .ok (.getfield 153, 3) := by decide +kernel
theorem dX9_lowest_184 : decode cX9_lowest 184 = .ok (.if_icmp .ge 21, 3) := by decide +kernel
theorem dX9_lowest_187 : decode cX9_lowest 187 = .ok (.aload_n 0, 1) := by decide +kernel
theorem dX9_lowest_188 : decode cX9_lowest 188 = .ok (.getfield 81, 3) := by decide +kernel
theorem dX9_lowest_191 : decode cX9_lowest 191 = .ok (.iload_n 3, 1) := by decide +kernel
theorem dX9_lowest_192 : decode cX9_lowest 192 = .ok (.aload_n 0, 1) := by decide +kernel
theorem dX9_lowest_193 : decode cX9_lowest 193 = .ok (.getfield 84, 3) := by decide +kernel
theorem dX9_lowest_196 : decode cX9_lowest 196 = .ok (.iload_n 3, 1) := by decide +kernel
theorem dX9_lowest_197 : decode cX9_lowest 197 = .ok (.baload, 1) := by decide +kernel
theorem dX9_lowest_198 : decode cX9_lowest 198 = .ok (.bastore, 1) := by decide +kernel
theorem dX9_lowest_199 : decode cX9_lowest 199 = .ok (.iinc 3 1, 3) := by decide +kernel
theorem dX9_lowest_202 : decode cX9_lowest 202 = .ok (.goto (-23), 3) := by decide +kernel
theorem dX9_lowest_205 : decode cX9_lowest 205 = .ok (.iinc 2 1, 3) := by decide +kernel
theorem dX9_lowest_208 : decode cX9_lowest 208 = .ok (.goto (-163), 3) := by decide +kernel
theorem dX9_lowest_211 : decode cX9_lowest 211 = .ok (.iconst (-1), 1) := by decide +kernel
theorem dX9_lowest_212 : decode cX9_lowest 212 = .ok (.ireturn, 1) := by decide +kernel
theorem dX9_clearWalker_0 : decode cX9_clearWalker 0 = .ok (.aload_n 0, 1) := by decide +kernel
theorem dX9_clearWalker_1 : decode cX9_clearWalker 1 = .ok (.iload_n 1, 1) := by decide +kernel
theorem dX9_clearWalker_2 : decode cX9_clearWalker 2 = .ok (.putfield 30, 3) := by decide +kernel
theorem dX9_clearWalker_5 : decode cX9_clearWalker 5 = .ok (.iconst 0, 1) := by decide +kernel
theorem dX9_clearWalker_6 : decode cX9_clearWalker 6 = .ok (.istore_n 2, 1) := by decide +kernel
theorem dX9_clearWalker_7 : decode cX9_clearWalker 7 = .ok (.iload_n 2, 1) := by decide +kernel
theorem dX9_clearWalker_8 : decode cX9_clearWalker 8 = .ok (.bipush 20, 2) := by decide +kernel
theorem dX9_clearWalker_10 : decode cX9_clearWalker 10 = .ok (.if_icmp .ge 23, 3) := by decide +kernel
theorem dX9_clearWalker_13 : decode cX9_clearWalker 13 = .ok (.aload_n 0, 1) := by decide +kernel
theorem dX9_clearWalker_14 : decode cX9_clearWalker 14 = .ok (.getfield 33, 3) := by decide +kernel
theorem dX9_clearWalker_17 : decode cX9_clearWalker 17 = .ok (.iload_n 2, 1) := by decide +kernel
theorem dX9_clearWalker_18 : decode cX9_clearWalker 18 = .ok (.iconst 5, 1) := by decide +kernel
theorem dX9_clearWalker_19 : decode cX9_clearWalker 19 = .ok (.iastore, 1) := by decide +kernel
theorem dX9_clearWalker_20 : decode cX9_clearWalker 20 = .ok (.aload_n 0, 1) := by decide +kernel
theorem dX9_clearWalker_21 : decode cX9_clearWalker 21 = .ok (.getfield 36, 3) := by decide +kernel
theorem dX9_clearWalker_24 : decode cX9_clearWalker 24 = .ok (.iload_n 2, 1) := by decide +kernel
theorem dX9_clearWalker_25 : decode cX9_clearWalker 25 = .ok (.iconst 0, 1) := by decide +kernel
theorem dX9_clearWalker_26 : decode cX9_clearWalker 26 = .ok (.iastore, 1) := by decide +kernel
theorem dX9_clearWalker_27 : decode cX9_clearWalker 27 = .ok (.iinc 2 1, 3) := by decide +kernel
theorem dX9_clearWalker_30 : decode cX9_clearWalker 30 = .ok (.goto (-23), 3) := by decide +kernel
theorem dX9_clearWalker_33 : decode cX9_clearWalker 33 = .ok (.return_, 1) := by decide +kernel
set_option maxRecDepth 20000 in
theorem ggX9_walker_X9_in : GoodIn wsX9_walker wsX9_in := goodIn_r _ [5] (by decide +kernel) (by decide +kernel)
set_option maxRecDepth 20000 in
theorem gX9_walker_X9_in : GoodIn wsX9_walker (va_wsS RX9 95 yX9_in wsX9_in) := goodIn_app (goodIn_of _ (by decide +kernel)) ggX9_walker_X9_in
set_option maxRecDepth 20000 in
theorem ggX9_walker_X9_clearWalker : GoodIn wsX9_walker wsX9_clearWalker := goodIn_r _ [9, 10, 11, 12, 13, 14, 15, 16, 17, 18, 19, 20, 21, 22, 23, 24, 25, 26, 27, 28, 29, 30, 31, 32, 33, 34, 35, 36, 37, 38, 39, 40, 41, 42] (by decide +kernel) (by decide +kernel)
set_option maxRecDepth 20000 in
theorem gX9_walker_X9_clearWalker : GoodIn wsX9_walker (wsV RX9 103 RX9 yX9_clearWalker wsX9_clearWalker) := goodIn_app (goodIn_of _ (by decide +kernel)) ggX9_walker_X9_clearWalker
theorem dX9_walker_0 : decode cX9_walker 0 = .ok (.iload_n 1, 1) := by decide +kernel
theorem dX9_walker_1 : decode cX9_walker 1 = .ok (.i2l, 1) := by decide +kernel
theorem dX9_walker_2 : decode cX9_walker 2 = .ok (.lconst 1, 1) := by decide +kernel
theorem dX9_walker_3 : decode cX9_walker 3 = .ok (.ldc2_w 93, 3) := by decide +kernel
theorem dX9_walker_6 : decode cX9_walker 6 = .ok (.invokestatic 95, 3) := by decide +kernel
theorem dX9_walker_9 : decode cX9_walker 9 = .ok (.ifCond .ne 6, 3) := by decide +kernel
theorem dX9_walker_12 : decode cX9_walker 12 = .ok (.bipush (-3), 2) := by decide +kernel
theorem dX9_walker_14 : decode cX9_walker 14 = .ok (.ireturn, 1) := by decide +kernel
theorem dX9_walker_15 : decode cX9_walker 15 = .ok (.aload_n 0, 1) := by decide +kernel
theorem dX9_walker_16 : decode cX9_walker 16 = .ok (.iload_n 1, 1) := by decide +kernel
theorem dX9_walker_17 : decode cX9_walker 17 = .ok (.invokevirtual 103, 3) := by decide +kernel
theorem dX9_walker_20 : decode cX9_walker 20 = .ok (.iconst 1, 1) := by decide +kernel
theorem dX9_walker_21 : decode cX9_walker 21 = .ok (.ireturn, 1) := by decide +kernel
set_option maxRecDepth 20000 in
theorem ggX9_isState_X9_in : GoodIn wsX9_isState wsX9_in := goodIn_r _ [5] (by decide +kernel) (by decide +kernel)
set_option maxRecDepth 20000 in
theorem gX9_isState_X9_in : GoodIn wsX9_isState (va_wsS RX9 95 yX9_in wsX9_in) := goodIn_app (goodIn_of _ (by decide +kernel)) ggX9_isState_X9_in
theorem dX9_isState_0 : decode cX9_isState 0 = .ok (.iload_n 1, 1) := by decide +kernel
theorem dX9_isState_1 : decode cX9_isState 1 = .ok (.i2l, 1) := by decide +kernel
theorem dX9_isState_2 : decode cX9_isState 2 = .ok (.lconst 0, 1) := by decide +kernel
theorem dX9_isState_3 : decode cX9_isState 3 = .ok (.aload_n 0, 1) := by decide +kernel
theorem dX9_isState_4 : decode cX9_isState 4 = .ok (.getfield 30, 3) := by decide +kernel
theorem dX9_isState_7 : decode cX9_isState 7 = .ok (.iconst 1, 1) := by decide +kernel
theorem dX9_isState_8 : decode cX9_isState 8 = .ok (.isub, 1) := by decide +kernel
theorem dX9_isState_9 : decode cX9_isState 9 = .ok (.i2l, 1) := by decide +kernel
theorem dX9_isState_10 : decode cX9_isState 10 = .ok (.invokestatic 95, 3) := by decide +kernel
theorem dX9_isState_13 : decode cX9_isState 13 = .ok (.ireturn, 1) := by decide +kernel
set_option maxRecDepth 20000 in
theorem ggX9_act_X9_isState : GoodIn wsX9_act wsX9_isState := goodIn_r _ [9, 10, 11, 12, 8, 13, 14, 15, 16, 17, 18, 19, 20, 21, 22, 23, 24, 25, 26, 27, 28, 29, 30, 31, 32, 33, 34, 35, 36, 37, 38, 39, 40, 41, 42, 43] (by decide +kernel) (by decide +kernel)
set_option maxRecDepth 20000 in
theorem gX9_act_X9_isState : GoodIn wsX9_act (wsV RX9 222 RX9 yX9_isState wsX9_isState) := goodIn_app (goodIn_of _ (by decide +kernel)) ggX9_act_X9_isState
set_option maxRecDepth 20000 in
theorem ggX9_act_X9_in : GoodIn wsX9_act wsX9_in := goodIn_r _ [13] (by decide +kernel) (by decide +kernel)
set_option maxRecDepth 20000 in
theorem gX9_act_X9_in : GoodIn wsX9_act (va_wsS RX9 95 yX9_in wsX9_in) := goodIn_app (goodIn_of _ (by decide +kernel)) ggX9_act_X9_in
theorem dX9_act_0 : decode cX9_act 0 = .ok (.aload_n 0, 1) := by decide +kernel
theorem dX9_act_1 : decode cX9_act 1 = .ok (.iload_n 1, 1) := by decide +kernel
theorem dX9_act_2 : decode cX9_act 2 = .ok (.invokevirtual 222, 3) := by decide +kernel
theorem dX9_act_5 : decode cX9_act 5 = .ok (.ifCond .eq 12, 3) := by decide +kernel
theorem dX9_act_8 : decode cX9_act 8 = .ok (.aload_n 0, 1) := by decide +kernel
theorem dX9_act_9 : decode cX9_act 9 = .ok (.iload 4, 2) := by decide +kernel
theorem dX9_act_11 : decode cX9_act 11 = .ok (.invokevirtual 222, 3) := by decide +kernel
theorem dX9_act_14 : decode cX9_act 14 = .ok (.ifCond .ne 6, 3) := by decide +kernel
theorem dX9_act_17 : decode cX9_act 17 = .ok (.bipush (-2), 2) := by decide +kernel
theorem dX9_act_19 : decode cX9_act 19 = .ok (.ireturn, 1) := by decide +kernel
theorem dX9_act_20 : decode cX9_act 20 = .ok (.iload_n 2, 1) := by decide +kernel
theorem dX9_act_21 : decode cX9_act 21 = .ok (.i2l, 1) := by decide +kernel
theorem dX9_act_22 : decode cX9_act 22 = .ok (.lconst 0, 1) := by decide +kernel
theorem dX9_act_23 : decode cX9_act 23 = .ok (.ldc2_w 101, 3) := by decide +kernel
theorem dX9_act_26 : decode cX9_act 26 = .ok (.invokestatic 95, 3) := by decide +kernel
theorem dX9_act_29 : decode cX9_act 29 = .ok (.ifCond .eq 15, 3) := by decide +kernel
theorem dX9_act_32 : decode cX9_act 32 = .ok (.iload_n 3, 1) := by decide +kernel
theorem dX9_act_33 : decode cX9_act 33 = .ok (.i2l, 1) := by decide +kernel
theorem dX9_act_34 : decode cX9_act 34 = .ok (.lconst 0, 1) := by decide +kernel
theorem dX9_act_35 : decode cX9_act 35 = .ok (.ldc2_w 93, 3) := by decide +kernel
theorem dX9_act_38 : decode cX9_act 38 = .ok (.invokestatic 95, 3) := by decide +kernel
theorem dX9_act_41 : decode cX9_act 41 = .ok (.ifCond .ne 6, 3) := by decide +kernel
theorem dX9_act_44 : decode cX9_act 44 = .ok (.bipush (-3), 2) := by decide +kernel
theorem dX9_act_46 : decode cX9_act 46 = .ok (.ireturn, 1) := by decide +kernel
theorem dX9_act_47 : decode cX9_act 47 = .ok (.aload_n 0, 1) := by decide +kernel
theorem dX9_act_48 : decode cX9_act 48 = .ok (.getfield 33, 3) := by decide +kernel
theorem dX9_act_51 : decode cX9_act 51 = .ok (.iconst 4, 1) := by decide +kernel
theorem dX9_act_52 : decode cX9_act 52 = .ok (.iload_n 1, 1) := by decide +kernel
theorem dX9_act_53 : decode cX9_act 53 = .ok (.imul, 1) := by decide +kernel
theorem dX9_act_54 : decode cX9_act 54 = .ok (.iload_n 2, 1) := by decide +kernel
theorem dX9_act_55 : decode cX9_act 55 = .ok (.iadd, 1) := by decide +kernel
theorem dX9_act_56 : decode cX9_act 56 = .ok (.iload_n 3, 1) := by decide +kernel
theorem dX9_act_57 : decode cX9_act 57 = .ok (.iastore, 1) := by decide +kernel
theorem dX9_act_58 : decode cX9_act 58 = .ok (.aload_n 0, 1) := by decide +kernel
theorem dX9_act_59 : decode cX9_act 59 = .ok (.getfield 36, 3) := by decide +kernel
theorem dX9_act_62 : decode cX9_act 62 = .ok (.iconst 4, 1) := by decide +kernel
theorem dX9_act_63 : decode cX9_act 63 = .ok (.iload_n 1, 1) := by decide +kernel
theorem dX9_act_64 : decode cX9_act 64 = .ok (.imul, 1) := by decide +kernel
theorem dX9_act_65 : decode cX9_act 65 = .ok (.iload_n 2, 1) := by decide +kernel
theorem dX9_act_66 : decode cX9_act 66 = .ok (.iadd, 1) := by decide +kernel
theorem dX9_act_67 : decode cX9_act 67 = .ok (.iload 4, 2) := by decide +kernel
theorem dX9_act_69 : decode cX9_act 69 = .ok (.iastore, 1) := by decide +kernel
theorem dX9_act_70 : decode cX9_act 70 = .ok (.iconst 1, 1) := by decide +kernel
theorem dX9_act_71 : decode cX9_act 71 = .ok (.ireturn, 1) := by decide +kernel
set_option maxRecDepth 20000 in
theorem ggX9_go_X9_in : GoodIn wsX9_go wsX9_in := goodIn_r _ [12] (by decide +kernel) (by decide +kernel)
set_option maxRecDepth 20000 in
theorem gX9_go_X9_in : GoodIn wsX9_go (va_wsS RX9 95 yX9_in wsX9_in) := goodIn_app (goodIn_of _ (by decide +kernel)) ggX9_go_X9_in
theorem dX9_go_0 : decode cX9_go 0 = .ok (.iconst 0, 1) := by decide +kernel
theorem dX9_go_1 : decode cX9_go 1 = .ok (.istore_n 3, 1) := by decide +kernel
theorem dX9_go_2 : decode cX9_go 2 = .ok (.iload_n 3, 1) := by decide +kernel
theorem dX9_go_3 : decode cX9_go 3 = .ok (.sipush 245, 3) := by decide +kernel
theorem dX9_go_6 : decode cX9_go 6 = .ok (.if_icmp .ge 16, 3) := by decide +kernel
theorem dX9_go_9 : decode cX9_go 9 = .ok (.aload_n 0, 1) := by decide +kernel
theorem dX9_go_10 : decode cX9_go 10 = .ok (.getfield 90, 3) := by decide +kernel
theorem dX9_go_13 : decode cX9_go 13 = .ok (.iload_n 3, 1) := by decide +kernel
theorem dX9_go_14 : decode cX9_go 14 = .ok (.iconst 0, 1) := by decide +kernel
theorem dX9_go_15 : decode cX9_go 15 = .ok (.bastore, 1) := by decide +kernel
theorem dX9_go_16 : decode cX9_go 16 = .ok (.iinc 3 1, 3) := by decide +kernel
theorem dX9_go_19 : decode cX9_go 19 = .ok (.goto (-17), 3) := by decide +kernel
theorem dX9_go_22 : decode cX9_go 22 = .ok (.iconst 0, 1) := by decide +kernel
theorem dX9_go_23 : decode cX9_go 23 = .ok (.istore_n 3, 1) := by decide +kernel
theorem dX9_go_24 : decode cX9_go 24 = .ok (.iconst 0, 1) := by decide +kernel
theorem dX9_go_25 : decode cX9_go 25 = .ok (.istore 4, 2) := by decide +kernel
theorem dX9_go_27 : decode cX9_go 27 = .ok (.aload_n 0, 1) := by decide +kernel
theorem dX9_go_28 : decode cX9_go 28 = .ok (.iconst 0, 1) := by decide +kernel
theorem dX9_go_29 : decode cX9_go 29 = .ok (.putfield 225, 3) := by decide +kernel
theorem dX9_go_32 : decode cX9_go 32 = .ok (.aload_n 0, 1) := by decide +kernel
theorem dX9_go_33 : decode cX9_go 33 = .ok (.iconst 0, 1) := by decide +kernel
theorem dX9_go_34 : decode cX9_go 34 = .ok (.putfield 228, 3) := by decide +kernel
theorem dX9_go_37 : decode cX9_go 37 = .ok (.aload_n 0, 1) := by decide +kernel
theorem dX9_go_38 : decode cX9_go 38 = .ok (.iconst (-1), 1) := by decide +kernel
theorem dX9_go_39 : decode cX9_go 39 = .ok (.putfield 231, 3) := by decide +kernel
theorem dX9_go_42 : decode cX9_go 42 = .ok (.aload_n 0, 1) := by decide +kernel
theorem dX9_go_43 : decode cX9_go 43 = .ok (.getfield 231, 3) := by decide +kernel
theorem dX9_go_46 : decode cX9_go 46 = .ok (.iconst (-1), 1) := by decide +kernel
theorem dX9_go_47 : decode cX9_go 47 = .ok (.if_icmp .ne 275, 3) := by decide +kernel
theorem dX9_go_50 : decode cX9_go 50 = .ok (.bipush 49, 2) := by decide +kernel
theorem dX9_go_52 : decode cX9_go 52 = .ok (.aload_n 0, 1) := by decide +kernel
theorem dX9_go_53 : decode cX9_go 53 = .ok (.getfield 225, 3) := by decide +kernel
theorem dX9_go_56 : decode cX9_go 56 = .ok (.imul, 1) := by decide +kernel
theorem dX9_go_57 : decode cX9_go 57 = .ok (.bipush 7, 2) := by decide +kernel
theorem dX9_go_59 : decode cX9_go 59 = .ok (.iload 4, 2) := by decide +kernel
theorem dX9_go_61 : decode cX9_go 61 = .ok (.iconst 1, 1) := by decide +kernel
theorem dX9_go_62 : decode cX9_go 62 = .ok (.iadd, 1) := by decide +kernel
theorem dX9_go_63 : decode cX9_go 63 = .ok (.imul, 1) := by decide +kernel
theorem dX9_go_64 : decode cX9_go 64 = .ok (.iadd, 1) := by decide +kernel
theorem dX9_go_65 : decode cX9_go 65 = .ok (.iload_n 3, 1) := by decide +kernel
theorem dX9_go_66 : decode cX9_go 66 = .ok (.iadd, 1) := by decide +kernel
theorem dX9_go_67 : decode cX9_go 67 = .ok (.iconst 1, 1) := by decide +kernel
theorem dX9_go_68 : decode cX9_go 68 = .ok (.iadd, 1) := by decide +kernel
theorem dX9_go_69 : decode cX9_go 69 = .ok (.istore 5, 2) := by decide +kernel
theorem dX9_go_71 : decode cX9_go 71 = .ok (.iload_n 3, 1) := by decide +kernel
theorem dX9_go_72 : decode cX9_go 72 = .ok (.i2l, 1) := by decide +kernel
theorem dX9_go_73 : decode cX9_go 73 = .ok (.lconst 0, 1) := by decide +kernel
theorem dX9_go_74 : decode cX9_go 74 = .ok (.iload_n 2, 1) := by decide +kernel
theorem dX9_go_75 : decode cX9_go 75 = .ok (.iconst 1, 1) := by decide +kernel
theorem dX9_go_76 : decode cX9_go 76 = .ok (.isub, 1) := by decide +kernel
theorem dX9_go_77 : decode cX9_go 77 = .ok (.i2l, 1) := by decide +kernel
theorem dX9_go_78 : decode cX9_go 78 = .ok (.invokestatic 95, 3) := by decide +kernel
theorem dX9_go_81 : decode cX9_go 81 = .ok (.ifCond .eq 21, 3) := by decide +kernel
theorem dX9_go_84 : decode cX9_go 84 = .ok (.iload 4, 2) := by decide +kernel
theorem dX9_go_86 : decode cX9_go 86 = .ok (.i2l, 1) := by decide +kernel
theorem dX9_go_87 : decode cX9_go 87 = .ok (.lconst 0, 1) := by decide +kernel
theorem dX9_go_88 : decode cX9_go 88 = .ok (.iload_n 1, 1) := by decide +kernel
theorem dX9_go_89 : decode cX9_go 89 = .ok (.iconst 1, 1) := by decide +kernel
theorem dX9_go_90 : decode cX9_go 90 = .ok (.isub, 1) := by decide +kernel
theorem dX9_go_91 : decode cX9_go 91 = .ok (.i2l, 1) := by decide +kernel
theorem dX9_go_92 : decode cX9_go 92 = .ok (.invokestatic 95, 3) := by decide +kernel
theorem dX9_go_95 : decode cX9_go 95 = .ok (.ifCond .eq 7, 3) := by decide +kernel
theorem dX9_go_98 : decode cX9_go 98 = .ok (.iconst 1, 1) := by decide +kernel
theorem dX9_go_99 : decode cX9_go 99 = .ok (.goto 4, 3) := by decide +kernel
theorem dX9_go_102 : decode cX9_go 102 = .ok (.iconst 0, 1) := by decide +kernel
theorem dX9_go_103 : decode cX9_go 103 = .ok (.istore 6, 2) := by decide +kernel
theorem dX9_go_105 : decode cX9_go 105 = .ok (.iconst 4, 1) := by decide +kernel
theorem dX9_go_106 : decode cX9_go 106 = .ok (.aload_n 0, 1) := by decide +kernel
theorem dX9_go_107 : decode cX9_go 107 = .ok (.getfield 225, 3) := by decide +kernel
theorem dX9_go_110 : decode cX9_go 110 = .ok (.imul, 1) := by decide +kernel
theorem dX9_go_111 : decode cX9_go 111 = .ok (.iload 6, 2) := by decide +kernel
theorem dX9_go_113 : decode cX9_go 113 = .ok (.ifCond .eq 17, 3) := by decide +kernel
theorem dX9_go_116 : decode cX9_go 116 = .ok (.aload_n 0, 1) := by decide +kernel
theorem dX9_go_117 : decode cX9_go 117 = .ok (.getfield 87, 3) := by decide +kernel
theorem dX9_go_120 : decode cX9_go 120 = .ok (.iload_n 2, 1) := by decide +kernel
theorem dX9_go_121 : decode cX9_go 121 = .ok (.iload 4, 2) := by decide +kernel
theorem dX9_go_123 : decode cX9_go 123 = .ok (.imul, 1) := by decide +kernel
theorem dX9_go_124 : decode cX9_go 124 = .ok (.iload_n 3, 1) := by decide +kernel
theorem dX9_go_125 : decode cX9_go 125 = .ok (.iadd, 1) := by decide +kernel
theorem dX9_go_126 : decode cX9_go 126 = .ok (.iaload, 1) := by decide +kernel
theorem dX9_go_127 : decode cX9_go 127 = .ok (.goto 4, 3) := by decide +kernel
theorem dX9_go_130 : decode cX9_go 130 = .ok (.iconst 3, 1) := by decide +kernel
theorem dX9_go_131 : decode cX9_go 131 = .ok (.iadd, 1) := by decide +kernel
theorem dX9_go_132 : decode cX9_go 132 = .ok (.istore 7, 2) := by decide +kernel
theorem dX9_go_134 : decode cX9_go 134 = .ok (.aload_n 0, 1) := by decide +kernel
theorem dX9_go_135 : decode cX9_go 135 = .ok (.getfield 90, 3) := by decide +kernel
theorem dX9_go_138 : decode cX9_go 138 = .ok (.iload 5, 2) := by decide +kernel
theorem dX9_go_140 : decode cX9_go 140 = .ok (.baload, 1) := by decide +kernel
theorem dX9_go_141 : decode cX9_go 141 = .ok (.ifCond .eq 11, 3) := by decide +kernel
theorem dX9_go_144 : decode cX9_go 144 = .ok (.aload_n 0, 1) := by decide +kernel
theorem dX9_go_145 : decode cX9_go 145 = .ok (.iconst 2, 1) := by decide +kernel
theorem dX9_go_146 : decode cX9_go 146 = .ok (.putfield 231, 3) := by decide +kernel
theorem dX9_go_149 : decode cX9_go 149 = .ok (.goto 170, 3) := by decide +kernel
theorem dX9_go_152 : decode cX9_go 152 = .ok (.aload_n 0, 1) := by decide +kernel
theorem dX9_go_153 : decode cX9_go 153 = .ok (.getfield 33, 3) := by decide +kernel
theorem dX9_go_156 : decode cX9_go 156 = .ok (.iload 7, 2) := by decide +kernel
theorem dX9_go_158 : decode cX9_go 158 = .ok (.iaload, 1) := by decide +kernel
theorem dX9_go_159 : decode cX9_go 159 = .ok (.iconst 3, 1) := by decide +kernel
theorem dX9_go_160 : decode cX9_go 160 = .ok (.if_icmp .le 26, 3) := by decide +kernel
theorem dX9_go_163 : decode cX9_go 163 = .ok (.aload_n 0, 1) := by decide +kernel
theorem dX9_go_164 : decode cX9_go 164 = .ok (.aload_n 0, 1) := by decide +kernel
theorem dX9_go_165 : decode cX9_go 165 = .ok (.getfield 33, 3) := by decide +kernel
theorem dX9_go_168 : decode cX9_go 168 = .ok (.iload 7, 2) := by decide +kernel
theorem dX9_go_170 : decode cX9_go 170 = .ok (.iaload, 1) := by decide +kernel
theorem dX9_go_171 : decode cX9_go 171 = .ok (.iconst 4, 1) := by decide +kernel
theorem dX9_go_172 : decode cX9_go 172 = .ok (.if_icmp .ne 7, 3) := by decide +kernel
theorem dX9_go_175 : decode cX9_go 175 = .ok (.iconst 1, 1) := by decide +kernel
theorem dX9_go_176 : decode cX9_go 176 = .ok (.goto 4, 3) := by decide +kernel
theorem dX9_go_179 : decode cX9_go 179 = .ok (.iconst 0, 1) := by decide +kernel
theorem dX9_go_180 : decode cX9_go 180 = .ok (.putfield 231, 3) := by decide +kernel
theorem dX9_go_183 : decode cX9_go 183 = .ok (.goto 136, 3) := by decide +kernel
theorem dX9_go_186 : decode cX9_go 186 = .ok (.aload_n 0, 1) := by decide +kernel
theorem dX9_go_187 : decode cX9_go 187 = .ok (.getfield 90, 3) := by decide +kernel
theorem dX9_go_190 : decode cX9_go 190 = .ok (.iload 5, 2) := by decide +kernel
theorem dX9_go_192 : decode cX9_go 192 = .ok (.iconst 1, 1) := by decide +kernel
theorem dX9_go_193 : decode cX9_go 193 = .ok (.bastore, 1) := by decide +kernel
theorem dX9_go_194 : decode cX9_go 194 = .ok (.iload_n 3, 1) := by decide +kernel
theorem dX9_go_195 : decode cX9_go 195 = .ok (.aload_n 0, 1) := by decide +kernel
theorem dX9_go_196 : decode cX9_go 196 = .ok (.getfield 33, 3) := by decide +kernel
theorem dX9_go_199 : decode cX9_go 199 = .ok (.iload 7, 2) := by decide +kernel
theorem dX9_go_201 : decode cX9_go 201 = .ok (.iaload, 1) := by decide +kernel
theorem dX9_go_202 : decode cX9_go 202 = .ok (.ifCond .ne 7, 3) := by decide +kernel
theorem dX9_go_205 : decode cX9_go 205 = .ok (.iconst 1, 1) := by decide +kernel
theorem dX9_go_206 : decode cX9_go 206 = .ok (.goto 19, 3) := by decide +kernel
theorem dX9_go_209 : decode cX9_go 209 = .ok (.aload_n 0, 1) := by decide +kernel
theorem dX9_go_210 : decode cX9_go 210 = .ok (.getfield 33, 3) := by decide +kernel
theorem dX9_go_213 : decode cX9_go 213 = .ok (.iload 7, 2) := by decide +kernel
theorem dX9_go_215 : decode cX9_go 215 = .ok (.iaload, 1) := by decide +kernel
theorem dX9_go_216 : decode cX9_go 216 = .ok (.iconst 2, 1) := by decide +kernel
theorem dX9_go_217 : decode cX9_go 217 = .ok (.if_icmp .ne 7, 3) := by decide +kernel
theorem dX9_go_220 : decode cX9_go 220 = .ok (.iconst (-1), 1) := by decide +kernel
theorem dX9_go_221 : decode cX9_go 221 = .ok (.goto 4, 3) := by decide +kernel
theorem dX9_go_224 : decode cX9_go 224 = .ok (.iconst 0, 1) := by decide +kernel
theorem dX9_go_225 : decode cX9_go 225 = .ok (.iadd, 1) := by decide +kernel
theorem dX9_go_226 : decode cX9_go 226 = .ok (.istore_n 3, 1) := by decide +kernel
theorem dX9_go_227 : decode cX9_go 227 = .ok (.iload 4, 2) := by decide +kernel
theorem dX9_go_229 : decode cX9_go 229 = .ok (.aload_n 0, 1) := by decide +kernel
theorem dX9_go_230 : decode cX9_go 230 = .ok (.getfield 33, 3) := by decide +kernel
theorem dX9_go_233 : decode cX9_go 233 = .ok (.iload 7, 2) := by decide +kernel
theorem dX9_go_235 : decode cX9_go 235 = .ok (.iaload, 1) := by decide +kernel
theorem dX9_go_236 : decode cX9_go 236 = .ok (.iconst 1, 1) := by decide +kernel
theorem dX9_go_237 : decode cX9_go 237 = .ok (.if_icmp .ne 7, 3) := by decide +kernel
theorem dX9_go_240 : decode cX9_go 240 = .ok (.iconst 1, 1) := by decide +kernel
theorem dX9_go_241 : decode cX9_go 241 = .ok (.goto 19, 3) := by decide +kernel
theorem dX9_go_244 : decode cX9_go 244 = .ok (.aload_n 0, 1) := by decide +kernel
theorem dX9_go_245 : decode cX9_go 245 = .ok (.getfield 33, 3) := by decide +kernel
theorem dX9_go_248 : decode cX9_go 248 = .ok (.iload 7, 2) := by decide +kernel
theorem dX9_go_250 : decode cX9_go 250 = .ok (.iaload, 1) := by decide +kernel
theorem dX9_go_251 : decode cX9_go 251 = .ok (.iconst 3, 1) := by decide +kernel
theorem dX9_go_252 : decode cX9_go 252 = .ok (.if_icmp .ne 7, 3) := by decide +kernel
theorem dX9_go_255 : decode cX9_go 255 = .ok (.iconst (-1), 1) := by decide +kernel
theorem dX9_go_256 : decode cX9_go 256 = .ok (.goto 4, 3) := by decide +kernel
theorem dX9_go_259 : decode cX9_go 259 = .ok (.iconst 0, 1) := by decide +kernel
theorem dX9_go_260 : decode cX9_go 260 = .ok (.iadd, 1) := by decide +kernel
theorem dX9_go_261 : decode cX9_go 261 = .ok (.istore 4, 2) := by decide +kernel
theorem dX9_go_263 : decode cX9_go 263 = .ok (.aload_n 0, 1) := by decide +kernel
theorem dX9_go_264 : decode cX9_go 264 = .ok (.dup, 1) := by decide +kernel
theorem dX9_go_265 : decode cX9_go 265 = .ok (.getfield 228, 3) := by decide +kernel
theorem dX9_go_268 : decode cX9_go 268 = .ok (.iconst 1, 1) := by decide +kernel
theorem dX9_go_269 : decode cX9_go 269 = .ok (.iadd, 1) := by decide +kernel
theorem dX9_go_270 : decode cX9_go 270 = .ok (.putfield 228, 3) := by decide +kernel
theorem dX9_go_273 : decode cX9_go 273 = .ok (.iload_n 3, 1) := by decide +kernel
theorem dX9_go_274 : decode cX9_go 274 = .ok (.i2l, 1) := by decide +kernel
theorem dX9_go_275 : decode cX9_go 275 = .ok (.ldc2_w 123, 3) := by decide +kernel
theorem dX9_go_278 : decode cX9_go 278 = .ok (.iload_n 2, 1) := by decide +kernel
theorem dX9_go_279 : decode cX9_go 279 = .ok (.i2l, 1) := by decide +kernel
theorem dX9_go_280 : decode cX9_go 280 = .ok (.invokestatic 95, 3) := by decide +kernel
theorem dX9_go_283 : decode cX9_go 283 = .ok (.ifCond .eq 31, 3) := by decide +kernel
theorem dX9_go_286 : decode cX9_go 286 = .ok (.iload 4, 2) := by decide +kernel
theorem dX9_go_288 : decode cX9_go 288 = .ok (.i2l, 1) := by decide +kernel
theorem dX9_go_289 : decode cX9_go 289 = .ok (.ldc2_w 123, 3) := by decide +kernel
theorem dX9_go_292 : decode cX9_go 292 = .ok (.iload_n 1, 1) := by decide +kernel
theorem dX9_go_293 : decode cX9_go 293 = .ok (.i2l, 1) := by decide +kernel
theorem dX9_go_294 : decode cX9_go 294 = .ok (.invokestatic 95, 3) := by decide +kernel
theorem dX9_go_297 : decode cX9_go 297 = .ok (.ifCond .eq 17, 3) := by decide +kernel
theorem dX9_go_300 : decode cX9_go 300 = .ok (.aload_n 0, 1) := by decide +kernel
theorem dX9_go_301 : decode cX9_go 301 = .ok (.aload_n 0, 1) := by decide +kernel
theorem dX9_go_302 : decode cX9_go 302 = .ok (.getfield 36, 3) := by decide +kernel
theorem dX9_go_305 : decode cX9_go 305 = .ok (.iload 7, 2) := by decide +kernel
theorem dX9_go_307 : decode cX9_go 307 = .ok (.iaload, 1) := by decide +kernel
theorem dX9_go_308 : decode cX9_go 308 = .ok (.putfield 225, 3) := by decide +kernel
theorem dX9_go_311 : decode cX9_go 311 = .ok (.goto 8, 3) := by decide +kernel
theorem dX9_go_314 : decode cX9_go 314 = .ok (.aload_n 0, 1) := by decide +kernel
theorem dX9_go_315 : decode cX9_go 315 = .ok (.iconst 0, 1) := by decide +kernel
theorem dX9_go_316 : decode cX9_go 316 = .ok (.putfield 231, 3) := by decide +kernel
theorem dX9_go_319 : decode cX9_go 319 = .ok (.goto (-277), 3) := by decide +kernel
theorem dX9_go_322 : decode cX9_go 322 = .ok (.return_, 1) := by decide +kernel
set_option maxRecDepth 20000 in
theorem ggX9_walk_X9_in : GoodIn wsX9_walk wsX9_in := goodIn_r _ [12] (by decide +kernel) (by decide +kernel)
set_option maxRecDepth 20000 in
theorem gX9_walk_X9_in : GoodIn wsX9_walk (va_wsS RX9 95 yX9_in wsX9_in) := goodIn_app (goodIn_of _ (by decide +kernel)) ggX9_walk_X9_in
set_option maxRecDepth 20000 in
theorem ggX9_walk_X9_gaps : GoodIn wsX9_walk wsX9_gaps := goodIn_r _ [16, 2, 3, 5, 25, 26, 27, 28, 29, 30, 31, 32, 33, 34, 35, 36, 37, 38, 39, 40, 41, 42, 43, 44, 45, 46, 47, 48, 49, 50, 51, 52, 53, 54] (by decide +kernel) (by decide +kernel)
set_option maxRecDepth 20000 in
theorem gX9_walk_X9_gaps : GoodIn wsX9_walk (wsV RX9 129 RX9 yX9_gaps wsX9_gaps) := goodIn_app (goodIn_of _ (by decide +kernel)) ggX9_walk_X9_gaps
set_option maxRecDepth 20000 in
theorem ggX9_walk_X9_go : GoodIn wsX9_walk wsX9_go := goodIn_r _ [20, 21, 8, 7, 6, 4, 22, 23, 24, 9, 10, 11, 12, 25, 26, 27, 28, 29, 30, 31, 32, 33, 34, 35, 36, 37, 38, 39, 40, 41, 42, 43, 44, 45, 46, 47, 48, 49, 50, 51, 52, 53, 54] (by decide +kernel) (by decide +kernel)
set_option maxRecDepth 20000 in
theorem gX9_walk_X9_go : GoodIn wsX9_walk (wsV RX9 234 RX9 yX9_go wsX9_go) := goodIn_app (goodIn_of _ (by decide +kernel)) ggX9_walk_X9_go
theorem dX9_walk_0 : decode cX9_walk 0 = .ok (.iload_n 1, 1) := by decide +kernel
theorem dX9_walk_1 : decode cX9_walk 1 = .ok (.i2l, 1) := by decide +kernel
theorem dX9_walk_2 : decode cX9_walk 2 = .ok (.lconst 0, 1) := by decide +kernel
theorem dX9_walk_3 : decode cX9_walk 3 = .ok (.ldc2_w 99, 3) := by decide +kernel
theorem dX9_walk_6 : decode cX9_walk 6 = .ok (.invokestatic 95, 3) := by decide +kernel
theorem dX9_walk_9 : decode cX9_walk 9 = .ok (.ifCond .ne 6, 3) := by decide +kernel
theorem dX9_walk_12 : decode cX9_walk 12 = .ok (.bipush (-3), 2) := by decide +kernel
theorem dX9_walk_14 : decode cX9_walk 14 = .ok (.ireturn, 1) := by decide +kernel
theorem dX9_walk_15 : decode cX9_walk 15 = .ok (.aload_n 0, 1) := by decide +kernel
theorem dX9_walk_16 : decode cX9_walk 16 = .ok (.invokevirtual 129, 3) := by decide +kernel
theorem dX9_walk_19 : decode cX9_walk 19 = .ok (.ifCond .le 6, 3) := by decide +kernel
theorem dX9_walk_22 : decode cX9_walk 22 = .ok (.bipush (-4), 2) := by decide +kernel
theorem dX9_walk_24 : decode cX9_walk 24 = .ok (.ireturn, 1) := by decide +kernel
theorem dX9_walk_25 : decode cX9_walk 25 = .ok (.iconst 0, 1) := by decide +kernel
theorem dX9_walk_26 : decode cX9_walk 26 = .ok (.istore_n 2, 1) := by decide +kernel
theorem dX9_walk_27 : decode cX9_walk 27 = .ok (.iload_n 2, 1) := by decide +kernel
theorem dX9_walk_28 : decode cX9_walk 28 = .ok (.aload_n 0, 1) := by decide +kernel
theorem dX9_walk_29 : decode cX9_walk 29 = .ok (.getfield 17, 3) := by decide +kernel
theorem dX9_walk_32 : decode cX9_walk 32 = .ok (.aload_n 0, 1) := by decide +kernel
theorem dX9_walk_33 : decode cX9_walk 33 = .ok (.getfield 20, 3) := by decide +kernel
theorem dX9_walk_36 : decode cX9_walk 36 = .ok (.imul, 1) := by decide +kernel
theorem dX9_walk_37 : decode cX9_walk 37 = .ok (.if_icmp .ge 21, 3) := by decide +kernel
theorem dX9_walk_40 : decode cX9_walk 40 = .ok (.aload_n 0, 1) := by decide +kernel
theorem dX9_walk_41 : decode cX9_walk 41 = .ok (.getfield 87, 3) := by decide +kernel
theorem dX9_walk_44 : decode cX9_walk 44 = .ok (.iload_n 2, 1) := by decide +kernel
theorem dX9_walk_45 : decode cX9_walk 45 = .ok (.aload_n 0, 1) := by decide +kernel
theorem dX9_walk_46 : decode cX9_walk 46 = .ok (.getfield 23, 3) := by decide +kernel
theorem dX9_walk_49 : decode cX9_walk 49 = .ok (.iload_n 2, 1) := by decide +kernel
theorem dX9_walk_50 : decode cX9_walk 50 = .ok (.iaload, 1) := by decide +kernel
theorem dX9_walk_51 : decode cX9_walk 51 = .ok (.iastore, 1) := by decide +kernel
theorem dX9_walk_52 : decode cX9_walk 52 = .ok (.iinc 2 1, 3) := by decide +kernel
theorem dX9_walk_55 : decode cX9_walk 55 = .ok (.goto (-28), 3) := by decide +kernel
theorem dX9_walk_58 : decode cX9_walk 58 = .ok (.aload_n 0, 1) := by decide +kernel
theorem dX9_walk_59 : decode cX9_walk 59 = .ok (.aload_n 0, 1) := by decide +kernel
theorem dX9_walk_60 : decode cX9_walk 60 = .ok (.getfield 17, 3) := by decide +kernel
theorem dX9_walk_63 : decode cX9_walk 63 = .ok (.aload_n 0, 1) := by decide +kernel
theorem dX9_walk_64 : decode cX9_walk 64 = .ok (.getfield 20, 3) := by decide +kernel
theorem dX9_walk_67 : decode cX9_walk 67 = .ok (.invokevirtual 234, 3) := by decide +kernel
theorem dX9_walk_70 : decode cX9_walk 70 = .ok (.iload_n 1, 1) := by decide +kernel
theorem dX9_walk_71 : decode cX9_walk 71 = .ok (.ifCond .ne 10, 3) := by decide +kernel
theorem dX9_walk_74 : decode cX9_walk 74 = .ok (.aload_n 0, 1) := by decide +kernel
theorem dX9_walk_75 : decode cX9_walk 75 = .ok (.getfield 231, 3) := by decide +kernel
theorem dX9_walk_78 : decode cX9_walk 78 = .ok (.goto 19, 3) := by decide +kernel
theorem dX9_walk_81 : decode cX9_walk 81 = .ok (.iload_n 1, 1) := by decide +kernel
theorem dX9_walk_82 : decode cX9_walk 82 = .ok (.iconst 1, 1) := by decide +kernel
theorem dX9_walk_83 : decode cX9_walk 83 = .ok (.if_icmp .ne 10, 3) := by decide +kernel
theorem dX9_walk_86 : decode cX9_walk 86 = .ok (.aload_n 0, 1) := by decide +kernel
theorem dX9_walk_87 : decode cX9_walk 87 = .ok (.getfield 228, 3) := by decide +kernel
theorem dX9_walk_90 : decode cX9_walk 90 = .ok (.goto 7, 3) := by decide +kernel
theorem dX9_walk_93 : decode cX9_walk 93 = .ok (.aload_n 0, 1) := by decide +kernel
theorem dX9_walk_94 : decode cX9_walk 94 = .ok (.getfield 225, 3) := by decide +kernel
theorem dX9_walk_97 : decode cX9_walk 97 = .ok (.ireturn, 1) := by decide +kernel
set_option maxRecDepth 20000 in
theorem ggX9_walked_X9_isSize : GoodIn wsX9_walked wsX9_isSize := goodIn_r _ [7, 8, 9, 10, 6, 11] (by decide +kernel) (by decide +kernel)
set_option maxRecDepth 20000 in
theorem gX9_walked_X9_isSize : GoodIn wsX9_walked (va_wsS RX9 116 yX9_isSize wsX9_isSize) := goodIn_app (goodIn_of _ (by decide +kernel)) ggX9_walked_X9_isSize
set_option maxRecDepth 20000 in
theorem ggX9_walked_X9_countAll : GoodIn wsX9_walked wsX9_countAll := goodIn_r _ [15, 16, 17, 18, 6, 19, 20, 21, 22, 23, 24, 25, 26, 27, 28, 29, 30, 31, 32, 33, 34, 35, 36, 37, 38, 39, 40, 41, 42, 43, 44, 45, 46, 47, 48, 49, 50, 51, 66, 67, 68, 69, 70, 71, 72, 73, 74, 75, 76, 77, 78, 79, 80, 81, 82, 83, 84, 85, 86, 87, 88, 89, 90, 91, 92, 93, 94, 95] (by decide +kernel) (by decide +kernel)
set_option maxRecDepth 20000 in
theorem gX9_walked_X9_countAll : GoodIn wsX9_walked (wsV RX9 176 RX9 yX9_countAll wsX9_countAll) := goodIn_app (goodIn_of _ (by decide +kernel)) ggX9_walked_X9_countAll
set_option maxRecDepth 20000 in
theorem ggX9_walked_X9_layFound : GoodIn wsX9_walked wsX9_layFound := goodIn_r _ [55, 21, 23, 2, 47, 66, 67, 68, 69, 70, 71, 72, 73, 74, 75, 76, 77, 78, 79, 80, 81, 82, 83, 84, 85, 86, 87, 88, 89, 90, 91, 92, 93, 94, 95] (by decide +kernel) (by decide +kernel)
set_option maxRecDepth 20000 in
theorem gX9_walked_X9_layFound : GoodIn wsX9_walked (wsV RX9 182 RX9 yX9_layFound wsX9_layFound) := goodIn_app (goodIn_of _ (by decide +kernel)) ggX9_walked_X9_layFound
set_option maxRecDepth 20000 in
theorem ggX9_walked_X9_cellOf : GoodIn wsX9_walked wsX9_cellOf := goodIn_r _ [37, 28, 66, 67, 68, 69, 70, 71, 72, 73, 74, 75, 76, 77, 78, 79, 80, 81, 82, 83, 84, 85, 86, 87, 88, 89, 90, 91, 92, 93, 94, 95] (by decide +kernel) (by decide +kernel)
set_option maxRecDepth 20000 in
theorem gX9_walked_X9_cellOf : GoodIn wsX9_walked (wsV RX9 146 RX9 yX9_cellOf wsX9_cellOf) := goodIn_app (goodIn_of _ (by decide +kernel)) ggX9_walked_X9_cellOf
set_option maxRecDepth 20000 in
theorem ggX9_walked_X9_go : GoodIn wsX9_walked wsX9_go := goodIn_r _ [59, 60, 61, 62, 3, 1, 63, 64, 65, 9, 10, 6, 11, 66, 67, 68, 69, 70, 71, 72, 73, 74, 75, 76, 77, 78, 79, 80, 81, 82, 83, 84, 85, 86, 87, 88, 89, 90, 91, 92, 93, 94, 95] (by decide +kernel) (by decide +kernel)
set_option maxRecDepth 20000 in
theorem gX9_walked_X9_go : GoodIn wsX9_walked (wsV RX9 234 RX9 yX9_go wsX9_go) := goodIn_app (goodIn_of _ (by decide +kernel)) ggX9_walked_X9_go
theorem dX9_walked_0 : decode cX9_walked 0 = .ok (.iload_n 1, 1) := by decide +kernel
theorem dX9_walked_1 : decode cX9_walked 1 = .ok (.iload_n 2, 1) := by decide +kernel
theorem dX9_walked_2 : decode cX9_walked 2 = .ok (.invokestatic 116, 3) := by decide +kernel
theorem dX9_walked_5 : decode cX9_walked 5 = .ok (.ifCond .ne 6, 3) := by decide +kernel
theorem dX9_walked_8 : decode cX9_walked 8 = .ok (.bipush (-3), 2) := by decide +kernel
theorem dX9_walked_10 : decode cX9_walked 10 = .ok (.ireturn, 1) := by decide +kernel
theorem dX9_walked_11 : decode cX9_walked 11 = .ok (.iload_n 1, 1) := by decide +kernel
theorem dX9_walked_12 : decode cX9_walked 12 = .ok (.iload_n 2, 1) := by decide +kernel
theorem dX9_walked_13 : decode cX9_walked 13 = .ok (.imul, 1) := by decide +kernel
theorem dX9_walked_14 : decode cX9_walked 14 = .ok (.bipush 9, 2) := by decide +kernel
theorem dX9_walked_16 : decode cX9_walked 16 = .ok (.if_icmp .le 6, 3) := by decide +kernel
theorem dX9_walked_19 : decode cX9_walked 19 = .ok (.bipush (-4), 2) := by decide +kernel
theorem dX9_walked_21 : decode cX9_walked 21 = .ok (.ireturn, 1) := by decide +kernel
theorem dX9_walked_22 : decode cX9_walked 22 = .ok (.aload_n 0, 1) := by decide +kernel
theorem dX9_walked_23 : decode cX9_walked 23 = .ok (.iload_n 1, 1) := by decide +kernel
theorem dX9_walked_24 : decode cX9_walked 24 = .ok (.iload_n 2, 1) := by decide +kernel
theorem dX9_walked_25 : decode cX9_walked 25 = .ok (.invokevirtual 176, 3) := by decide +kernel
theorem dX9_walked_28 : decode cX9_walked 28 = .ok (.l2i, 1) := by decide +kernel
theorem dX9_walked_29 : decode cX9_walked 29 = .ok (.istore_n 3, 1) := by decide +kernel
theorem dX9_walked_30 : decode cX9_walked 30 = .ok (.iconst 0, 1) := by decide +kernel
theorem dX9_walked_31 : decode cX9_walked 31 = .ok (.istore 4, 2) := by decide +kernel
theorem dX9_walked_33 : decode cX9_walked 33 = .ok (.iconst 0, 1) := by decide +kernel
theorem dX9_walked_34 : decode cX9_walked 34 = .ok (.istore 5, 2) := by decide +kernel
theorem dX9_walked_36 : decode cX9_walked 36 = .ok (.iload 5, 2) := by decide +kernel
theorem dX9_walked_38 : decode cX9_walked 38 = .ok (.iload_n 3, 1) := by decide +kernel
theorem dX9_walked_39 : decode cX9_walked 39 = .ok (.if_icmp .ge 83, 3) := by decide +kernel
theorem dX9_walked_42 : decode cX9_walked 42 = .ok (.aload_n 0, 1) := by decide +kernel
theorem dX9_walked_43 : decode cX9_walked 43 = .ok (.iload_n 1, 1) := by decide +kernel
theorem dX9_walked_44 : decode cX9_walked 44 = .ok (.iload 5, 2) := by decide +kernel
theorem dX9_walked_46 : decode cX9_walked 46 = .ok (.i2l, 1) := by decide +kernel
theorem dX9_walked_47 : decode cX9_walked 47 = .ok (.invokevirtual 182, 3) := by decide +kernel
theorem dX9_walked_50 : decode cX9_walked 50 = .ok (.iconst 0, 1) := by decide +kernel
theorem dX9_walked_51 : decode cX9_walked 51 = .ok (.istore 6, 2) := by decide +kernel
theorem dX9_walked_53 : decode cX9_walked 53 = .ok (.iload 6, 2) := by decide +kernel
theorem dX9_walked_55 : decode cX9_walked 55 = .ok (.iload_n 1, 1) := by decide +kernel
theorem dX9_walked_56 : decode cX9_walked 56 = .ok (.iload_n 2, 1) := by decide +kernel
theorem dX9_walked_57 : decode cX9_walked 57 = .ok (.imul, 1) := by decide +kernel
theorem dX9_walked_58 : decode cX9_walked 58 = .ok (.if_icmp .ge 34, 3) := by decide +kernel
theorem dX9_walked_61 : decode cX9_walked 61 = .ok (.aload_n 0, 1) := by decide +kernel
theorem dX9_walked_62 : decode cX9_walked 62 = .ok (.getfield 87, 3) := by decide +kernel
theorem dX9_walked_65 : decode cX9_walked 65 = .ok (.iload 6, 2) := by decide +kernel
theorem dX9_walked_67 : decode cX9_walked 67 = .ok (.aload_n 0, 1) := by decide +kernel
theorem dX9_walked_68 : decode cX9_walked 68 = .ok (.aload_n 0, 1) := by decide +kernel
theorem dX9_walked_69 : decode cX9_walked 69 = .ok (.getfield 56, 3) := by decide +kernel
theorem dX9_walked_72 : decode cX9_walked 72 = .ok (.iload 6, 2) := by decide +kernel
theorem dX9_walked_74 : decode cX9_walked 74 = .ok (.iload_n 2, 1) := by decide +kernel
theorem dX9_walked_75 : decode cX9_walked 75 = .ok (.idiv, 1) := by decide +kernel
theorem dX9_walked_76 : decode cX9_walked 76 = .ok (.iaload, 1) := by decide +kernel
theorem dX9_walked_77 : decode cX9_walked 77 = .ok (.iload 6, 2) := by decide +kernel
theorem dX9_walked_79 : decode cX9_walked 79 = .ok (.iload_n 2, 1) := by decide +kernel
theorem dX9_walked_80 : decode cX9_walked 80 = .ok (.irem, 1) := by decide +kernel
theorem dX9_walked_81 : decode cX9_walked 81 = .ok (.iload_n 2, 1) := by decide +kernel
theorem dX9_walked_82 : decode cX9_walked 82 = .ok (.invokevirtual 146, 3) := by decide +kernel
theorem dX9_walked_85 : decode cX9_walked 85 = .ok (.iastore, 1) := by decide +kernel
theorem dX9_walked_86 : decode cX9_walked 86 = .ok (.iinc 6 1, 3) := by decide +kernel
theorem dX9_walked_89 : decode cX9_walked 89 = .ok (.goto (-36), 3) := by decide +kernel
theorem dX9_walked_92 : decode cX9_walked 92 = .ok (.aload_n 0, 1) := by decide +kernel
theorem dX9_walked_93 : decode cX9_walked 93 = .ok (.iload_n 1, 1) := by decide +kernel
theorem dX9_walked_94 : decode cX9_walked 94 = .ok (.iload_n 2, 1) := by decide +kernel
theorem dX9_walked_95 : decode cX9_walked 95 = .ok (.invokevirtual 234, 3) := by decide +kernel
theorem dX9_walked_98 : decode cX9_walked 98 = .ok (.iload 4, 2) := by decide +kernel
theorem dX9_walked_100 : decode cX9_walked 100 = .ok (.aload_n 0, 1) := by decide +kernel
theorem dX9_walked_101 : decode cX9_walked 101 = .ok (.getfield 231, 3) := by decide +kernel
theorem dX9_walked_104 : decode cX9_walked 104 = .ok (.iconst 1, 1) := by decide +kernel
theorem dX9_walked_105 : decode cX9_walked 105 = .ok (.if_icmp .ne 7, 3) := by decide +kernel
theorem dX9_walked_108 : decode cX9_walked 108 = .ok (.iconst 1, 1) := by decide +kernel
theorem dX9_walked_109 : decode cX9_walked 109 = .ok (.goto 4, 3) := by decide +kernel
theorem dX9_walked_112 : decode cX9_walked 112 = .ok (.iconst 0, 1) := by decide +kernel
theorem dX9_walked_113 : decode cX9_walked 113 = .ok (.iadd, 1) := by decide +kernel
theorem dX9_walked_114 : decode cX9_walked 114 = .ok (.istore 4, 2) := by decide +kernel
theorem dX9_walked_116 : decode cX9_walked 116 = .ok (.iinc 5 1, 3) := by decide +kernel
theorem dX9_walked_119 : decode cX9_walked 119 = .ok (.goto (-83), 3) := by decide +kernel
theorem dX9_walked_122 : decode cX9_walked 122 = .ok (.iload 4, 2) := by decide +kernel
theorem dX9_walked_124 : decode cX9_walked 124 = .ok (.ireturn, 1) := by decide +kernel
set_option maxRecDepth 20000 in
theorem ggX9_count_X9_gaps : GoodIn wsX9_count wsX9_gaps := goodIn_r _ [9, 2, 3, 10, 11, 12, 13, 14, 15, 16, 17, 18, 19, 20, 21, 22, 23, 24, 25, 26, 27, 28, 29, 30, 31, 32, 33, 34, 35, 36, 37, 38, 39, 40] (by decide +kernel) (by decide +kernel)
set_option maxRecDepth 20000 in
theorem gX9_count_X9_gaps : GoodIn wsX9_count (wsV RX9 129 RX9 yX9_gaps wsX9_gaps) := goodIn_app (goodIn_of _ (by decide +kernel)) ggX9_count_X9_gaps
theorem dX9_count_0 : decode cX9_count 0 = .ok (.iload_n 1, 1) := by decide +kernel
theorem dX9_count_1 : decode cX9_count 1 = .ok (.tableswitch 60 0 4 #[35, 40, 45, 50, 55], 35) := by decide +kernel
theorem dX9_count_36 : decode cX9_count 36 = .ok (.aload_n 0, 1) := by decide +kernel
theorem dX9_count_37 : decode cX9_count 37 = .ok (.getfield 7, 3) := by decide +kernel
theorem dX9_count_40 : decode cX9_count 40 = .ok (.ireturn, 1) := by decide +kernel
theorem dX9_count_41 : decode cX9_count 41 = .ok (.aload_n 0, 1) := by decide +kernel
theorem dX9_count_42 : decode cX9_count 42 = .ok (.getfield 17, 3) := by decide +kernel
theorem dX9_count_45 : decode cX9_count 45 = .ok (.ireturn, 1) := by decide +kernel
theorem dX9_count_46 : decode cX9_count 46 = .ok (.aload_n 0, 1) := by decide +kernel
theorem dX9_count_47 : decode cX9_count 47 = .ok (.getfield 20, 3) := by decide +kernel
theorem dX9_count_50 : decode cX9_count 50 = .ok (.ireturn, 1) := by decide +kernel
theorem dX9_count_51 : decode cX9_count 51 = .ok (.aload_n 0, 1) := by decide +kernel
theorem dX9_count_52 : decode cX9_count 52 = .ok (.invokevirtual 129, 3) := by decide +kernel
theorem dX9_count_55 : decode cX9_count 55 = .ok (.ireturn, 1) := by decide +kernel
theorem dX9_count_56 : decode cX9_count 56 = .ok (.aload_n 0, 1) := by decide +kernel
theorem dX9_count_57 : decode cX9_count 57 = .ok (.getfield 30, 3) := by decide +kernel
theorem dX9_count_60 : decode cX9_count 60 = .ok (.ireturn, 1) := by decide +kernel
theorem dX9_count_61 : decode cX9_count 61 = .ok (.bipush (-3), 2) := by decide +kernel
theorem dX9_count_63 : decode cX9_count 63 = .ok (.ireturn, 1) := by decide +kernel
theorem dJ6_bitCount_0f7a4_0 : decode cJ6_bitCount_0f7a4 0 = .ok (.iload_n 0, 1) := by decide +kernel
theorem dJ6_bitCount_0f7a4_1 : decode cJ6_bitCount_0f7a4 1 = .ok (.iload_n 0, 1) := by decide +kernel
theorem dJ6_bitCount_0f7a4_2 : decode cJ6_bitCount_0f7a4 2 = .ok (.iconst 1, 1) := by decide +kernel
theorem dJ6_bitCount_0f7a4_3 : decode cJ6_bitCount_0f7a4 3 = .ok (.iushr, 1) := by decide +kernel
theorem dJ6_bitCount_0f7a4_4 : decode cJ6_bitCount_0f7a4 4 = .ok (.ldc_w 265, 3) := by decide +kernel
theorem dJ6_bitCount_0f7a4_7 : decode cJ6_bitCount_0f7a4 7 = .ok (.iand, 1) := by decide +kernel
theorem dJ6_bitCount_0f7a4_8 : decode cJ6_bitCount_0f7a4 8 = .ok (.isub, 1) := by decide +kernel
theorem dJ6_bitCount_0f7a4_9 : decode cJ6_bitCount_0f7a4 9 = .ok (.istore_n 0, 1) := by decide +kernel
theorem dJ6_bitCount_0f7a4_10 : decode cJ6_bitCount_0f7a4 10 = .ok (.iload_n 0, 1) := by decide +kernel
theorem dJ6_bitCount_0f7a4_11 : decode cJ6_bitCount_0f7a4 11 = .ok (.ldc_w 266, 3) := by decide +kernel
theorem dJ6_bitCount_0f7a4_14 : decode cJ6_bitCount_0f7a4 14 = .ok (.iand, 1) := by decide +kernel
theorem dJ6_bitCount_0f7a4_15 : decode cJ6_bitCount_0f7a4 15 = .ok (.iload_n 0, 1) := by decide +kernel
theorem dJ6_bitCount_0f7a4_16 : decode cJ6_bitCount_0f7a4 16 = .ok (.iconst 2, 1) := by decide +kernel
theorem dJ6_bitCount_0f7a4_17 : decode cJ6_bitCount_0f7a4 17 = .ok (.iushr, 1) := by decide +kernel
theorem dJ6_bitCount_0f7a4_18 : decode cJ6_bitCount_0f7a4 18 = .ok (.ldc_w 266, 3) := by decide +kernel
theorem dJ6_bitCount_0f7a4_21 : decode cJ6_bitCount_0f7a4 21 = .ok (.iand, 1) := by decide +kernel
theorem dJ6_bitCount_0f7a4_22 : decode cJ6_bitCount_0f7a4 22 = .ok (.iadd, 1) := by decide +kernel
theorem dJ6_bitCount_0f7a4_23 : decode cJ6_bitCount_0f7a4 23 = .ok (.istore_n 0, 1) := by decide +kernel
theorem dJ6_bitCount_0f7a4_24 : decode cJ6_bitCount_0f7a4 24 = .ok (.iload_n 0, 1) := by decide +kernel
theorem dJ6_bitCount_0f7a4_25 : decode cJ6_bitCount_0f7a4 25 = .ok (.iload_n 0, 1) := by decide +kernel
theorem dJ6_bitCount_0f7a4_26 : decode cJ6_bitCount_0f7a4 26 = .ok (.iconst 4, 1) := by decide +kernel
theorem dJ6_bitCount_0f7a4_27 : decode cJ6_bitCount_0f7a4 27 = .ok (.iushr, 1) := by decide +kernel
theorem dJ6_bitCount_0f7a4_28 : decode cJ6_bitCount_0f7a4 28 = .ok (.iadd, 1) := by decide +kernel
theorem dJ6_bitCount_0f7a4_29 : decode cJ6_bitCount_0f7a4 29 = .ok (.ldc_w 267, 3) := by decide +kernel
theorem dJ6_bitCount_0f7a4_32 : decode cJ6_bitCount_0f7a4 32 = .ok (.iand, 1) := by decide +kernel
theorem dJ6_bitCount_0f7a4_33 : decode cJ6_bitCount_0f7a4 33 = .ok (.istore_n 0, 1) := by decide +kernel
theorem dJ6_bitCount_0f7a4_34 : decode cJ6_bitCount_0f7a4 34 = .ok (.iload_n 0, 1) := by decide +kernel
theorem dJ6_bitCount_0f7a4_35 : decode cJ6_bitCount_0f7a4 35 = .ok (.iload_n 0, 1) := by decide +kernel
theorem dJ6_bitCount_0f7a4_36 : decode cJ6_bitCount_0f7a4 36 = .ok (.bipush 8, 2) := by decide +kernel
theorem dJ6_bitCount_0f7a4_38 : decode cJ6_bitCount_0f7a4 38 = .ok (.iushr, 1) := by decide +kernel
theorem dJ6_bitCount_0f7a4_39 : decode cJ6_bitCount_0f7a4 39 = .ok (.iadd, 1) := by decide +kernel
theorem dJ6_bitCount_0f7a4_40 : decode cJ6_bitCount_0f7a4 40 = .ok (.istore_n 0, 1) := by decide +kernel
theorem dJ6_bitCount_0f7a4_41 : decode cJ6_bitCount_0f7a4 41 = .ok (.iload_n 0, 1) := by decide +kernel
theorem dJ6_bitCount_0f7a4_42 : decode cJ6_bitCount_0f7a4 42 = .ok (.iload_n 0, 1) := by decide +kernel
theorem dJ6_bitCount_0f7a4_43 : decode cJ6_bitCount_0f7a4 43 = .ok (.bipush 16, 2) := by decide +kernel
theorem dJ6_bitCount_0f7a4_45 : decode cJ6_bitCount_0f7a4 45 = .ok (.iushr, 1) := by decide +kernel
theorem dJ6_bitCount_0f7a4_46 : decode cJ6_bitCount_0f7a4 46 = .ok (.iadd, 1) := by decide +kernel
theorem dJ6_bitCount_0f7a4_47 : decode cJ6_bitCount_0f7a4 47 = .ok (.istore_n 0, 1) := by decide +kernel
theorem dJ6_bitCount_0f7a4_48 : decode cJ6_bitCount_0f7a4 48 = .ok (.iload_n 0, 1) := by decide +kernel
theorem dJ6_bitCount_0f7a4_49 : decode cJ6_bitCount_0f7a4 49 = .ok (.bipush 63, 2) := by decide +kernel
theorem dJ6_bitCount_0f7a4_51 : decode cJ6_bitCount_0f7a4 51 = .ok (.iand, 1) := by decide +kernel
theorem dJ6_bitCount_0f7a4_52 : decode cJ6_bitCount_0f7a4 52 = .ok (.ireturn, 1) := by decide +kernel
theorem dJ9_min_f86c9_0 : decode cJ9_min_f86c9 0 = .ok (.lload_n 0, 1) := by decide +kernel
theorem dJ9_min_f86c9_1 : decode cJ9_min_f86c9 1 = .ok (.lload_n 2, 1) := by decide +kernel
theorem dJ9_min_f86c9_2 : decode cJ9_min_f86c9 2 = .ok (.lcmp, 1) := by decide +kernel
theorem dJ9_min_f86c9_3 : decode cJ9_min_f86c9 3 = .ok (.ifCond .gt 7, 3) := by decide +kernel
theorem dJ9_min_f86c9_6 : decode cJ9_min_f86c9 6 = .ok (.lload_n 0, 1) := by decide +kernel
theorem dJ9_min_f86c9_7 : decode cJ9_min_f86c9 7 = .ok (.goto 4, 3) := by decide +kernel
theorem dJ9_min_f86c9_10 : decode cJ9_min_f86c9 10 = .ok (.lload_n 2, 1) := by decide +kernel
theorem dJ9_min_f86c9_11 : decode cJ9_min_f86c9 11 = .ok (.lreturn, 1) := by decide +kernel
theorem dJ7_fill_53178_0 : decode cJ7_fill_53178 0 = .ok (.iconst 0, 1) := by decide +kernel
theorem dJ7_fill_53178_1 : decode cJ7_fill_53178 1 = .ok (.istore_n 2, 1) := by decide +kernel
theorem dJ7_fill_53178_2 : decode cJ7_fill_53178 2 = .ok (.aload_n 0, 1) := by decide +kernel
theorem dJ7_fill_53178_3 : decode cJ7_fill_53178 3 = .ok (.arraylength, 1) := by decide +kernel
theorem dJ7_fill_53178_4 : decode cJ7_fill_53178 4 = .ok (.istore_n 3, 1) := by decide +kernel
theorem dJ7_fill_53178_5 : decode cJ7_fill_53178 5 = .ok (.iload_n 2, 1) := by decide +kernel
theorem dJ7_fill_53178_6 : decode cJ7_fill_53178 6 = .ok (.iload_n 3, 1) := by decide +kernel
theorem dJ7_fill_53178_7 : decode cJ7_fill_53178 7 = .ok (.if_icmp .ge 13, 3) := by decide +kernel
theorem dJ7_fill_53178_10 : decode cJ7_fill_53178 10 = .ok (.aload_n 0, 1) := by decide +kernel
theorem dJ7_fill_53178_11 : decode cJ7_fill_53178 11 = .ok (.iload_n 2, 1) := by decide +kernel
theorem dJ7_fill_53178_12 : decode cJ7_fill_53178 12 = .ok (.iload_n 1, 1) := by decide +kernel
theorem dJ7_fill_53178_13 : decode cJ7_fill_53178 13 = .ok (.iastore, 1) := by decide +kernel
theorem dJ7_fill_53178_14 : decode cJ7_fill_53178 14 = .ok (.iinc 2 1, 3) := by decide +kernel
theorem dJ7_fill_53178_17 : decode cJ7_fill_53178 17 = .ok (.goto (-12), 3) := by decide +kernel
theorem dJ7_fill_53178_20 : decode cJ7_fill_53178 20 = .ok (.return_, 1) := by decide +kernel
