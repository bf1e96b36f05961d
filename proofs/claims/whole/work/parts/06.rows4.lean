theorem dX9_isCell_4 : decode cX9_isCell 4 = .ok (.getfield 17, 3) := by decide +kernel
theorem dX9_isCell_7 : decode cX9_isCell 7 = .ok (.aload_n 0, 1) := by decide +kernel
theorem dX9_isCell_8 : decode cX9_isCell 8 = .ok (.getfield 20, 3) := by decide +kernel
theorem dX9_isCell_11 : decode cX9_isCell 11 = .ok (.imul, 1) := by decide +kernel
theorem dX9_isCell_12 : decode cX9_isCell 12 = .ok (.iconst 1, 1) := by decide +kernel
theorem dX9_isCell_13 : decode cX9_isCell 13 = .ok (.isub, 1) := by decide +kernel
theorem dX9_isCell_14 : decode cX9_isCell 14 = .ok (.i2l, 1) := by decide +kernel
theorem dX9_isCell_15 : decode cX9_isCell 15 = .ok (.invokestatic 95, 3) := by decide +kernel
theorem dX9_isCell_18 : decode cX9_isCell 18 = .ok (.ireturn, 1) := by decide +kernel
set_option maxRecDepth 20000 in
theorem ggX9_cell_X9_isCell : GoodIn wsX9_cell wsX9_isCell := goodIn_r _ [8, 9, 10, 11, 12, 7, 13, 14, 15, 16, 17, 18, 19, 20, 21, 22, 23, 24, 25, 26, 27, 28, 29, 30, 31, 32, 33, 34, 35, 36, 37, 38, 39, 40, 41, 42, 43] (by decide +kernel) (by decide +kernel)
set_option maxRecDepth 20000 in
theorem gX9_cell_X9_isCell : GoodIn wsX9_cell (wsV RX9 120 RX9 yX9_isCell wsX9_isCell) := goodIn_app (goodIn_of _ (by decide +kernel)) ggX9_cell_X9_isCell
set_option maxRecDepth 20000 in
theorem ggX9_cell_X9_in : GoodIn wsX9_cell wsX9_in := goodIn_r _ [13] (by decide +kernel) (by decide +kernel)
set_option maxRecDepth 20000 in
theorem gX9_cell_X9_in : GoodIn wsX9_cell (va_wsS RX9 95 yX9_in wsX9_in) := goodIn_app (goodIn_of _ (by decide +kernel)) ggX9_cell_X9_in
theorem dX9_cell_0 : decode cX9_cell 0 = .ok (.aload_n 0, 1) := by decide +kernel
theorem dX9_cell_1 : decode cX9_cell 1 = .ok (.iload_n 1, 1) := by decide +kernel
theorem dX9_cell_2 : decode cX9_cell 2 = .ok (.invokevirtual 120, 3) := by decide +kernel
theorem dX9_cell_5 : decode cX9_cell 5 = .ok (.ifCond .eq 21, 3) := by decide +kernel
theorem dX9_cell_8 : decode cX9_cell 8 = .ok (.iload_n 2, 1) := by decide +kernel
theorem dX9_cell_9 : decode cX9_cell 9 = .ok (.i2l, 1) := by decide +kernel
theorem dX9_cell_10 : decode cX9_cell 10 = .ok (.ldc2_w 123, 3) := by decide +kernel
theorem dX9_cell_13 : decode cX9_cell 13 = .ok (.aload_n 0, 1) := by decide +kernel
theorem dX9_cell_14 : decode cX9_cell 14 = .ok (.getfield 7, 3) := by decide +kernel
theorem dX9_cell_17 : decode cX9_cell 17 = .ok (.iconst 1, 1) := by decide +kernel
theorem dX9_cell_18 : decode cX9_cell 18 = .ok (.isub, 1) := by decide +kernel
theorem dX9_cell_19 : decode cX9_cell 19 = .ok (.i2l, 1) := by decide +kernel
theorem dX9_cell_20 : decode cX9_cell 20 = .ok (.invokestatic 95, 3) := by decide +kernel
theorem dX9_cell_23 : decode cX9_cell 23 = .ok (.ifCond .ne 6, 3) := by decide +kernel
theorem dX9_cell_26 : decode cX9_cell 26 = .ok (.bipush (-2), 2) := by decide +kernel
theorem dX9_cell_28 : decode cX9_cell 28 = .ok (.ireturn, 1) := by decide +kernel
theorem dX9_cell_29 : decode cX9_cell 29 = .ok (.aload_n 0, 1) := by decide +kernel
theorem dX9_cell_30 : decode cX9_cell 30 = .ok (.getfield 23, 3) := by decide +kernel
theorem dX9_cell_33 : decode cX9_cell 33 = .ok (.iload_n 1, 1) := by decide +kernel
theorem dX9_cell_34 : decode cX9_cell 34 = .ok (.iaload, 1) := by decide +kernel
theorem dX9_cell_35 : decode cX9_cell 35 = .ok (.istore_n 3, 1) := by decide +kernel
theorem dX9_cell_36 : decode cX9_cell 36 = .ok (.aload_n 0, 1) := by decide +kernel
theorem dX9_cell_37 : decode cX9_cell 37 = .ok (.getfield 23, 3) := by decide +kernel
theorem dX9_cell_40 : decode cX9_cell 40 = .ok (.iload_n 1, 1) := by decide +kernel
theorem dX9_cell_41 : decode cX9_cell 41 = .ok (.iload_n 2, 1) := by decide +kernel
theorem dX9_cell_42 : decode cX9_cell 42 = .ok (.iastore, 1) := by decide +kernel
theorem dX9_cell_43 : decode cX9_cell 43 = .ok (.iload_n 3, 1) := by decide +kernel
theorem dX9_cell_44 : decode cX9_cell 44 = .ok (.ireturn, 1) := by decide +kernel
theorem dX9_paint_0 : decode cX9_paint 0 = .ok (.iconst 0, 1) := by decide +kernel
theorem dX9_paint_1 : decode cX9_paint 1 = .ok (.istore_n 3, 1) := by decide +kernel
theorem dX9_paint_2 : decode cX9_paint 2 = .ok (.iload_n 3, 1) := by decide +kernel
theorem dX9_paint_3 : decode cX9_paint 3 = .ok (.aload_n 0, 1) := by decide +kernel
theorem dX9_paint_4 : decode cX9_paint 4 = .ok (.getfield 17, 3) := by decide +kernel
theorem dX9_paint_7 : decode cX9_paint 7 = .ok (.aload_n 0, 1) := by decide +kernel
theorem dX9_paint_8 : decode cX9_paint 8 = .ok (.getfield 20, 3) := by decide +kernel
theorem dX9_paint_11 : decode cX9_paint 11 = .ok (.imul, 1) := by decide +kernel
theorem dX9_paint_12 : decode cX9_paint 12 = .ok (.if_icmp .ge 30, 3) := by decide +kernel
theorem dX9_paint_15 : decode cX9_paint 15 = .ok (.lload_n 1, 1) := by decide +kernel
theorem dX9_paint_16 : decode cX9_paint 16 = .ok (.iconst 2, 1) := by decide +kernel
theorem dX9_paint_17 : decode cX9_paint 17 = .ok (.iload_n 3, 1) := by decide +kernel
theorem dX9_paint_18 : decode cX9_paint 18 = .ok (.imul, 1) := by decide +kernel
theorem dX9_paint_19 : decode cX9_paint 19 = .ok (.lshr, 1) := by decide +kernel
theorem dX9_paint_20 : decode cX9_paint 20 = .ok (.ldc2_w 101, 3) := by decide +kernel
theorem dX9_paint_23 : decode cX9_paint 23 = .ok (.land, 1) := by decide +kernel
theorem dX9_paint_24 : decode cX9_paint 24 = .ok (.aload_n 0, 1) := by decide +kernel
theorem dX9_paint_25 : decode cX9_paint 25 = .ok (.getfield 7, 3) := by decide +kernel
theorem dX9_paint_28 : decode cX9_paint 28 = .ok (.i2l, 1) := by decide +kernel
theorem dX9_paint_29 : decode cX9_paint 29 = .ok (.lcmp, 1) := by decide +kernel
theorem dX9_paint_30 : decode cX9_paint 30 = .ok (.ifCond .lt 6, 3) := by decide +kernel
theorem dX9_paint_33 : decode cX9_paint 33 = .ok (.bipush (-3), 2) := by decide +kernel
theorem dX9_paint_35 : decode cX9_paint 35 = .ok (.ireturn, 1) := by decide +kernel
theorem dX9_paint_36 : decode cX9_paint 36 = .ok (.iinc 3 1, 3) := by decide +kernel
theorem dX9_paint_39 : decode cX9_paint 39 = .ok (.goto (-37), 3) := by decide +kernel
theorem dX9_paint_42 : decode cX9_paint 42 = .ok (.iconst 0, 1) := by decide +kernel
theorem dX9_paint_43 : decode cX9_paint 43 = .ok (.istore_n 3, 1) := by decide +kernel
theorem dX9_paint_44 : decode cX9_paint 44 = .ok (.iload_n 3, 1) := by decide +kernel
theorem dX9_paint_45 : decode cX9_paint 45 = .ok (.aload_n 0, 1) := by decide +kernel
theorem dX9_paint_46 : decode cX9_paint 46 = .ok (.getfield 17, 3) := by decide +kernel
theorem dX9_paint_49 : decode cX9_paint 49 = .ok (.aload_n 0, 1) := by decide +kernel
theorem dX9_paint_50 : decode cX9_paint 50 = .ok (.getfield 20, 3) := by decide +kernel
theorem dX9_paint_53 : decode cX9_paint 53 = .ok (.imul, 1) := by decide +kernel
theorem dX9_paint_54 : decode cX9_paint 54 = .ok (.if_icmp .ge 25, 3) := by decide +kernel
theorem dX9_paint_57 : decode cX9_paint 57 = .ok (.aload_n 0, 1) := by decide +kernel
theorem dX9_paint_58 : decode cX9_paint 58 = .ok (.getfield 23, 3) := by decide +kernel
theorem dX9_paint_61 : decode cX9_paint 61 = .ok (.iload_n 3, 1) := by decide +kernel
theorem dX9_paint_62 : decode cX9_paint 62 = .ok (.lload_n 1, 1) := by decide +kernel
theorem dX9_paint_63 : decode cX9_paint 63 = .ok (.iconst 2, 1) := by decide +kernel
theorem dX9_paint_64 : decode cX9_paint 64 = .ok (.iload_n 3, 1) := by decide +kernel
theorem dX9_paint_65 : decode cX9_paint 65 = .ok (.imul, 1) := by decide +kernel
theorem dX9_paint_66 : decode cX9_paint 66 = .ok (.lshr, 1) := by decide +kernel
theorem dX9_paint_67 : decode cX9_paint 67 = .ok (.ldc2_w 101, 3) := by decide +kernel
theorem dX9_paint_70 : decode cX9_paint 70 = .ok (.land, 1) := by decide +kernel
theorem dX9_paint_71 : decode cX9_paint 71 = .ok (.l2i, 1) := by decide +kernel
theorem dX9_paint_72 : decode cX9_paint 72 = .ok (.iastore, 1) := by decide +kernel
theorem dX9_paint_73 : decode cX9_paint 73 = .ok (.iinc 3 1, 3) := by decide +kernel
theorem dX9_paint_76 : decode cX9_paint 76 = .ok (.goto (-32), 3) := by decide +kernel
theorem dX9_paint_79 : decode cX9_paint 79 = .ok (.iconst 1, 1) := by decide +kernel
theorem dX9_paint_80 : decode cX9_paint 80 = .ok (.ireturn, 1) := by decide +kernel
theorem dX9_gaps_0 : decode cX9_gaps 0 = .ok (.iconst 0, 1) := by decide +kernel
theorem dX9_gaps_1 : decode cX9_gaps 1 = .ok (.istore_n 1, 1) := by decide +kernel
theorem dX9_gaps_2 : decode cX9_gaps 2 = .ok (.iconst 0, 1) := by decide +kernel
theorem dX9_gaps_3 : decode cX9_gaps 3 = .ok (.istore_n 2, 1) := by decide +kernel
theorem dX9_gaps_4 : decode cX9_gaps 4 = .ok (.iload_n 2, 1) := by decide +kernel
theorem dX9_gaps_5 : decode cX9_gaps 5 = .ok (.aload_n 0, 1) := by decide +kernel
theorem dX9_gaps_6 : decode cX9_gaps 6 = .ok (.getfield 17, 3) := by decide +kernel
theorem dX9_gaps_9 : decode cX9_gaps 9 = .ok (.aload_n 0, 1) := by decide +kernel
theorem dX9_gaps_10 : decode cX9_gaps 10 = .ok (.getfield 20, 3) := by decide +kernel
theorem dX9_gaps_13 : decode cX9_gaps 13 = .ok (.imul, 1) := by decide +kernel
theorem dX9_gaps_14 : decode cX9_gaps 14 = .ok (.if_icmp .ge 27, 3) := by decide +kernel
theorem dX9_gaps_17 : decode cX9_gaps 17 = .ok (.iload_n 1, 1) := by decide +kernel
theorem dX9_gaps_18 : decode cX9_gaps 18 = .ok (.aload_n 0, 1) := by decide +kernel
theorem dX9_gaps_19 : decode cX9_gaps 19 = .ok (.getfield 23, 3) := by decide +kernel
theorem dX9_gaps_22 : decode cX9_gaps 22 = .ok (.iload_n 2, 1) := by decide +kernel
theorem dX9_gaps_23 : decode cX9_gaps 23 = .ok (.iaload, 1) := by decide +kernel
theorem dX9_gaps_24 : decode cX9_gaps 24 = .ok (.iconst (-1), 1) := by decide +kernel
theorem dX9_gaps_25 : decode cX9_gaps 25 = .ok (.if_icmp .ne 7, 3) := by decide +kernel
theorem dX9_gaps_28 : decode cX9_gaps 28 = .ok (.iconst 1, 1) := by decide +kernel
theorem dX9_gaps_29 : decode cX9_gaps 29 = .ok (.goto 4, 3) := by decide +kernel
theorem dX9_gaps_32 : decode cX9_gaps 32 = .ok (.iconst 0, 1) := by decide +kernel
theorem dX9_gaps_33 : decode cX9_gaps 33 = .ok (.iadd, 1) := by decide +kernel
theorem dX9_gaps_34 : decode cX9_gaps 34 = .ok (.istore_n 1, 1) := by decide +kernel
theorem dX9_gaps_35 : decode cX9_gaps 35 = .ok (.iinc 2 1, 3) := by decide +kernel
theorem dX9_gaps_38 : decode cX9_gaps 38 = .ok (.goto (-34), 3) := by decide +kernel
theorem dX9_gaps_41 : decode cX9_gaps 41 = .ok (.iload_n 1, 1) := by decide +kernel
theorem dX9_gaps_42 : decode cX9_gaps 42 = .ok (.ireturn, 1) := by decide +kernel
set_option maxRecDepth 20000 in
theorem ggX9_deskAt_X9_in : GoodIn wsX9_deskAt wsX9_in := goodIn_r _ [7] (by decide +kernel) (by decide +kernel)
set_option maxRecDepth 20000 in
theorem gX9_deskAt_X9_in : GoodIn wsX9_deskAt (va_wsS RX9 95 yX9_in wsX9_in) := goodIn_app (goodIn_of _ (by decide +kernel)) ggX9_deskAt_X9_in
theorem dX9_deskAt_0 : decode cX9_deskAt 0 = .ok (.iload_n 1, 1) := by decide +kernel
theorem dX9_deskAt_1 : decode cX9_deskAt 1 = .ok (.i2l, 1) := by decide +kernel
theorem dX9_deskAt_2 : decode cX9_deskAt 2 = .ok (.lconst 0, 1) := by decide +kernel
theorem dX9_deskAt_3 : decode cX9_deskAt 3 = .ok (.aload_n 0, 1) := by decide +kernel
theorem dX9_deskAt_4 : decode cX9_deskAt 4 = .ok (.getfield 20, 3) := by decide +kernel
theorem dX9_deskAt_7 : decode cX9_deskAt 7 = .ok (.iconst 1, 1) := by decide +kernel
theorem dX9_deskAt_8 : decode cX9_deskAt 8 = .ok (.isub, 1) := by decide +kernel
theorem dX9_deskAt_9 : decode cX9_deskAt 9 = .ok (.i2l, 1) := by decide +kernel
theorem dX9_deskAt_10 : decode cX9_deskAt 10 = .ok (.invokestatic 95, 3) := by decide +kernel
theorem dX9_deskAt_13 : decode cX9_deskAt 13 = .ok (.ifCond .eq 35, 3) := by decide +kernel
theorem dX9_deskAt_16 : decode cX9_deskAt 16 = .ok (.iload_n 2, 1) := by decide +kernel
theorem dX9_deskAt_17 : decode cX9_deskAt 17 = .ok (.i2l, 1) := by decide +kernel
theorem dX9_deskAt_18 : decode cX9_deskAt 18 = .ok (.lconst 0, 1) := by decide +kernel
theorem dX9_deskAt_19 : decode cX9_deskAt 19 = .ok (.aload_n 0, 1) := by decide +kernel
theorem dX9_deskAt_20 : decode cX9_deskAt 20 = .ok (.getfield 17, 3) := by decide +kernel
theorem dX9_deskAt_23 : decode cX9_deskAt 23 = .ok (.iconst 1, 1) := by decide +kernel
theorem dX9_deskAt_24 : decode cX9_deskAt 24 = .ok (.isub, 1) := by decide +kernel
theorem dX9_deskAt_25 : decode cX9_deskAt 25 = .ok (.i2l, 1) := by decide +kernel
theorem dX9_deskAt_26 : decode cX9_deskAt 26 = .ok (.invokestatic 95, 3) := by decide +kernel
theorem dX9_deskAt_29 : decode cX9_deskAt 29 = .ok (.ifCond .eq 19, 3) := by decide +kernel
theorem dX9_deskAt_32 : decode cX9_deskAt 32 = .ok (.aload_n 0, 1) := by decide +kernel
theorem dX9_deskAt_33 : decode cX9_deskAt 33 = .ok (.getfield 23, 3) := by decide +kernel
theorem dX9_deskAt_36 : decode cX9_deskAt 36 = .ok (.aload_n 0, 1) := by decide +kernel
theorem dX9_deskAt_37 : decode cX9_deskAt 37 = .ok (.getfield 20, 3) := by decide +kernel
theorem dX9_deskAt_40 : decode cX9_deskAt 40 = .ok (.iload_n 2, 1) := by decide +kernel
theorem dX9_deskAt_41 : decode cX9_deskAt 41 = .ok (.imul, 1) := by decide +kernel
theorem dX9_deskAt_42 : decode cX9_deskAt 42 = .ok (.iload_n 1, 1) := by decide +kernel
theorem dX9_deskAt_43 : decode cX9_deskAt 43 = .ok (.iadd, 1) := by decide +kernel
theorem dX9_deskAt_44 : decode cX9_deskAt 44 = .ok (.iaload, 1) := by decide +kernel
theorem dX9_deskAt_45 : decode cX9_deskAt 45 = .ok (.goto 4, 3) := by decide +kernel
theorem dX9_deskAt_48 : decode cX9_deskAt 48 = .ok (.iconst 3, 1) := by decide +kernel
theorem dX9_deskAt_49 : decode cX9_deskAt 49 = .ok (.ireturn, 1) := by decide +kernel
set_option maxRecDepth 20000 in
theorem ggX9_blockAt_X9_deskAt : GoodIn wsX9_blockAt wsX9_deskAt := goodIn_r _ [6, 1, 7, 8, 9, 10, 5, 11, 12, 13, 14, 15, 16, 17, 18, 19, 20, 21, 22, 23, 24, 25, 26, 27, 28, 29, 30, 31, 32, 33, 34, 35, 36, 37, 38, 39, 40, 41] (by decide +kernel) (by decide +kernel)
set_option maxRecDepth 20000 in
theorem gX9_blockAt_X9_deskAt : GoodIn wsX9_blockAt (wsV RX9 125 RX9 yX9_deskAt wsX9_deskAt) := goodIn_app (goodIn_of _ (by decide +kernel)) ggX9_blockAt_X9_deskAt
theorem dX9_blockAt_0 : decode cX9_blockAt 0 = .ok (.iload_n 1, 1) := by decide +kernel
theorem dX9_blockAt_1 : decode cX9_blockAt 1 = .ok (.aload_n 0, 1) := by decide +kernel
theorem dX9_blockAt_2 : decode cX9_blockAt 2 = .ok (.getfield 20, 3) := by decide +kernel
theorem dX9_blockAt_5 : decode cX9_blockAt 5 = .ok (.iconst 1, 1) := by decide +kernel
theorem dX9_blockAt_6 : decode cX9_blockAt 6 = .ok (.iadd, 1) := by decide +kernel
theorem dX9_blockAt_7 : decode cX9_blockAt 7 = .ok (.irem, 1) := by decide +kernel
theorem dX9_blockAt_8 : decode cX9_blockAt 8 = .ok (.istore_n 2, 1) := by decide +kernel
theorem dX9_blockAt_9 : decode cX9_blockAt 9 = .ok (.iload_n 1, 1) := by decide +kernel
theorem dX9_blockAt_10 : decode cX9_blockAt 10 = .ok (.aload_n 0, 1) := by decide +kernel
theorem dX9_blockAt_11 : decode cX9_blockAt 11 = .ok (.getfield 20, 3) := by decide +kernel
theorem dX9_blockAt_14 : decode cX9_blockAt 14 = .ok (.iconst 1, 1) := by decide +kernel
theorem dX9_blockAt_15 : decode cX9_blockAt 15 = .ok (.iadd, 1) := by decide +kernel
theorem dX9_blockAt_16 : decode cX9_blockAt 16 = .ok (.idiv, 1) := by decide +kernel
theorem dX9_blockAt_17 : decode cX9_blockAt 17 = .ok (.istore_n 3, 1) := by decide +kernel
theorem dX9_blockAt_18 : decode cX9_blockAt 18 = .ok (.bipush 64, 2) := by decide +kernel
theorem dX9_blockAt_20 : decode cX9_blockAt 20 = .ok (.aload_n 0, 1) := by decide +kernel
theorem dX9_blockAt_21 : decode cX9_blockAt 21 = .ok (.iload_n 2, 1) := by decide +kernel
theorem dX9_blockAt_22 : decode cX9_blockAt 22 = .ok (.iconst 1, 1) := by decide +kernel
theorem dX9_blockAt_23 : decode cX9_blockAt 23 = .ok (.isub, 1) := by decide +kernel
theorem dX9_blockAt_24 : decode cX9_blockAt 24 = .ok (.iload_n 3, 1) := by decide +kernel
theorem dX9_blockAt_25 : decode cX9_blockAt 25 = .ok (.iconst 1, 1) := by decide +kernel
theorem dX9_blockAt_26 : decode cX9_blockAt 26 = .ok (.isub, 1) := by decide +kernel
theorem dX9_blockAt_27 : decode cX9_blockAt 27 = .ok (.invokevirtual 125, 3) := by decide +kernel
theorem dX9_blockAt_30 : decode cX9_blockAt 30 = .ok (.imul, 1) := by decide +kernel
theorem dX9_blockAt_31 : decode cX9_blockAt 31 = .ok (.bipush 16, 2) := by decide +kernel
theorem dX9_blockAt_33 : decode cX9_blockAt 33 = .ok (.aload_n 0, 1) := by decide +kernel
theorem dX9_blockAt_34 : decode cX9_blockAt 34 = .ok (.iload_n 2, 1) := by decide +kernel
theorem dX9_blockAt_35 : decode cX9_blockAt 35 = .ok (.iload_n 3, 1) := by decide +kernel
theorem dX9_blockAt_36 : decode cX9_blockAt 36 = .ok (.iconst 1, 1) := by decide +kernel
theorem dX9_blockAt_37 : decode cX9_blockAt 37 = .ok (.isub, 1) := by decide +kernel
theorem dX9_blockAt_38 : decode cX9_blockAt 38 = .ok (.invokevirtual 125, 3) := by decide +kernel
theorem dX9_blockAt_41 : decode cX9_blockAt 41 = .ok (.imul, 1) := by decide +kernel
theorem dX9_blockAt_42 : decode cX9_blockAt 42 = .ok (.iadd, 1) := by decide +kernel
theorem dX9_blockAt_43 : decode cX9_blockAt 43 = .ok (.iconst 4, 1) := by decide +kernel
theorem dX9_blockAt_44 : decode cX9_blockAt 44 = .ok (.aload_n 0, 1) := by decide +kernel
theorem dX9_blockAt_45 : decode cX9_blockAt 45 = .ok (.iload_n 2, 1) := by decide +kernel
theorem dX9_blockAt_46 : decode cX9_blockAt 46 = .ok (.iconst 1, 1) := by decide +kernel
theorem dX9_blockAt_47 : decode cX9_blockAt 47 = .ok (.isub, 1) := by decide +kernel
theorem dX9_blockAt_48 : decode cX9_blockAt 48 = .ok (.iload_n 3, 1) := by decide +kernel
theorem dX9_blockAt_49 : decode cX9_blockAt 49 = .ok (.invokevirtual 125, 3) := by decide +kernel
theorem dX9_blockAt_52 : decode cX9_blockAt 52 = .ok (.imul, 1) := by decide +kernel
theorem dX9_blockAt_53 : decode cX9_blockAt 53 = .ok (.iadd, 1) := by decide +kernel
theorem dX9_blockAt_54 : decode cX9_blockAt 54 = .ok (.aload_n 0, 1) := by decide +kernel
theorem dX9_blockAt_55 : decode cX9_blockAt 55 = .ok (.iload_n 2, 1) := by decide +kernel
theorem dX9_blockAt_56 : decode cX9_blockAt 56 = .ok (.iload_n 3, 1) := by decide +kernel
theorem dX9_blockAt_57 : decode cX9_blockAt 57 = .ok (.invokevirtual 125, 3) := by decide +kernel
theorem dX9_blockAt_60 : decode cX9_blockAt 60 = .ok (.iadd, 1) := by decide +kernel
theorem dX9_blockAt_61 : decode cX9_blockAt 61 = .ok (.ireturn, 1) := by decide +kernel
set_option maxRecDepth 20000 in
theorem ggX9_learn_X9_gaps : GoodIn wsX9_learn wsX9_gaps := goodIn_r _ [8, 1, 2, 9, 21, 22, 23, 24, 25, 26, 27, 28, 29, 30, 31, 32, 33, 34, 35, 36, 37, 38, 39, 40, 41, 42, 43, 44, 45, 46, 47, 48, 49, 50] (by decide +kernel) (by decide +kernel)
set_option maxRecDepth 20000 in
theorem gX9_learn_X9_gaps : GoodIn wsX9_learn (wsV RX9 129 RX9 yX9_gaps wsX9_gaps) := goodIn_app (goodIn_of _ (by decide +kernel)) ggX9_learn_X9_gaps
set_option maxRecDepth 20000 in
theorem ggX9_learn_X9_blockAt : GoodIn wsX9_learn wsX9_blockAt := goodIn_r _ [13, 2, 14, 15, 16, 7, 17, 1, 9, 18, 19, 20, 21, 22, 23, 24, 25, 26, 27, 28, 29, 30, 31, 32, 33, 34, 35, 36, 37, 38, 39, 40, 41, 42, 43, 44, 45, 46, 47, 48, 49, 50] (by decide +kernel) (by decide +kernel)
set_option maxRecDepth 20000 in
theorem gX9_learn_X9_blockAt : GoodIn wsX9_learn (wsV RX9 133 RX9 yX9_blockAt wsX9_blockAt) := goodIn_app (goodIn_of _ (by decide +kernel)) ggX9_learn_X9_blockAt
theorem dX9_learn_0 : decode cX9_learn 0 = .ok (.aload_n 0, 1) := by decide +kernel
theorem dX9_learn_1 : decode cX9_learn 1 = .ok (.invokevirtual 129, 3) := by decide +kernel
theorem dX9_learn_4 : decode cX9_learn 4 = .ok (.ifCond .le 6, 3) := by decide +kernel
theorem dX9_learn_7 : decode cX9_learn 7 = .ok (.bipush (-4), 2) := by decide +kernel
theorem dX9_learn_9 : decode cX9_learn 9 = .ok (.ireturn, 1) := by decide +kernel
theorem dX9_learn_10 : decode cX9_learn 10 = .ok (.iconst 0, 1) := by decide +kernel
theorem dX9_learn_11 : decode cX9_learn 11 = .ok (.istore_n 1, 1) := by decide +kernel
theorem dX9_learn_12 : decode cX9_learn 12 = .ok (.iconst 0, 1) := by decide +kernel
theorem dX9_learn_13 : decode cX9_learn 13 = .ok (.istore_n 2, 1) := by decide +kernel
theorem dX9_learn_14 : decode cX9_learn 14 = .ok (.iload_n 2, 1) := by decide +kernel
theorem dX9_learn_15 : decode cX9_learn 15 = .ok (.aload_n 0, 1) := by decide +kernel
theorem dX9_learn_16 : decode cX9_learn 16 = .ok (.getfield 17, 3) := by decide +kernel
theorem dX9_learn_19 : decode cX9_learn 19 = .ok (.iconst 1, 1) := by decide +kernel
theorem dX9_learn_20 : decode cX9_learn 20 = .ok (.iadd, 1) := by decide +kernel
theorem dX9_learn_21 : decode cX9_learn 21 = .ok (.aload_n 0, 1) := by decide +kernel
theorem dX9_learn_22 : decode cX9_learn 22 = .ok (.getfield 20, 3) := by decide +kernel
theorem dX9_learn_25 : decode cX9_learn 25 = .ok (.iconst 1, 1) := by decide +kernel
theorem dX9_learn_26 : decode cX9_learn 26 = .ok (.iadd, 1) := by decide +kernel
theorem dX9_learn_27 : decode cX9_learn 27 = .ok (.imul, 1) := by decide +kernel
theorem dX9_learn_28 : decode cX9_learn 28 = .ok (.if_icmp .ge 41, 3) := by decide +kernel
theorem dX9_learn_31 : decode cX9_learn 31 = .ok (.iload_n 1, 1) := by decide +kernel
theorem dX9_learn_32 : decode cX9_learn 32 = .ok (.aload_n 0, 1) := by decide +kernel
theorem dX9_learn_33 : decode cX9_learn 33 = .ok (.getfield 13, 3) := by decide +kernel
theorem dX9_learn_36 : decode cX9_learn 36 = .ok (.aload_n 0, 1) := by decide +kernel
theorem dX9_learn_37 : decode cX9_learn 37 = .ok (.iload_n 2, 1) := by decide +kernel
theorem dX9_learn_38 : decode cX9_learn 38 = .ok (.invokevirtual 133, 3) := by decide +kernel
theorem dX9_learn_41 : decode cX9_learn 41 = .ok (.baload, 1) := by decide +kernel
theorem dX9_learn_42 : decode cX9_learn 42 = .ok (.ifCond .eq 7, 3) := by decide +kernel
theorem dX9_learn_45 : decode cX9_learn 45 = .ok (.iconst 0, 1) := by decide +kernel
theorem dX9_learn_46 : decode cX9_learn 46 = .ok (.goto 4, 3) := by decide +kernel
theorem dX9_learn_49 : decode cX9_learn 49 = .ok (.iconst 1, 1) := by decide +kernel
theorem dX9_learn_50 : decode cX9_learn 50 = .ok (.iadd, 1) := by decide +kernel
theorem dX9_learn_51 : decode cX9_learn 51 = .ok (.istore_n 1, 1) := by decide +kernel
theorem dX9_learn_52 : decode cX9_learn 52 = .ok (.aload_n 0, 1) := by decide +kernel
theorem dX9_learn_53 : decode cX9_learn 53 = .ok (.getfield 13, 3) := by decide +kernel
theorem dX9_learn_56 : decode cX9_learn 56 = .ok (.aload_n 0, 1) := by decide +kernel
theorem dX9_learn_57 : decode cX9_learn 57 = .ok (.iload_n 2, 1) := by decide +kernel
theorem dX9_learn_58 : decode cX9_learn 58 = .ok (.invokevirtual 133, 3) := by decide +kernel
theorem dX9_learn_61 : decode cX9_learn 61 = .ok (.iconst 1, 1) := by decide +kernel
theorem dX9_learn_62 : decode cX9_learn 62 = .ok (.bastore, 1) := by decide +kernel
theorem dX9_learn_63 : decode cX9_learn 63 = .ok (.iinc 2 1, 3) := by decide +kernel
theorem dX9_learn_66 : decode cX9_learn 66 = .ok (.goto (-52), 3) := by decide +kernel
theorem dX9_learn_69 : decode cX9_learn 69 = .ok (.iload_n 1, 1) := by decide +kernel
theorem dX9_learn_70 : decode cX9_learn 70 = .ok (.ireturn, 1) := by decide +kernel
set_option maxRecDepth 20000 in
theorem ggX9_wrongNow_X9_blockAt : GoodIn wsX9_wrongNow wsX9_blockAt := goodIn_r _ [8, 2, 9, 10, 11, 7, 12, 1, 13, 14, 15, 16, 17, 18, 19, 20, 21, 22, 23, 24, 25, 26, 27, 28, 29, 30, 31, 32, 33, 34, 35, 36, 37, 38, 39, 40, 41, 42, 43, 44, 45, 46] (by decide +kernel) (by decide +kernel)
set_option maxRecDepth 20000 in
theorem gX9_wrongNow_X9_blockAt : GoodIn wsX9_wrongNow (wsV RX9 133 RX9 yX9_blockAt wsX9_blockAt) := goodIn_app (goodIn_of _ (by decide +kernel)) ggX9_wrongNow_X9_blockAt
theorem dX9_wrongNow_0 : decode cX9_wrongNow 0 = .ok (.iconst 0, 1) := by decide +kernel
theorem dX9_wrongNow_1 : decode cX9_wrongNow 1 = .ok (.istore_n 1, 1) := by decide +kernel
theorem dX9_wrongNow_2 : decode cX9_wrongNow 2 = .ok (.iload_n 1, 1) := by decide +kernel
theorem dX9_wrongNow_3 : decode cX9_wrongNow 3 = .ok (.aload_n 0, 1) := by decide +kernel
theorem dX9_wrongNow_4 : decode cX9_wrongNow 4 = .ok (.getfield 17, 3) := by decide +kernel
theorem dX9_wrongNow_7 : decode cX9_wrongNow 7 = .ok (.iconst 1, 1) := by decide +kernel
theorem dX9_wrongNow_8 : decode cX9_wrongNow 8 = .ok (.iadd, 1) := by decide +kernel
theorem dX9_wrongNow_9 : decode cX9_wrongNow 9 = .ok (.aload_n 0, 1) := by decide +kernel
theorem dX9_wrongNow_10 : decode cX9_wrongNow 10 = .ok (.getfield 20, 3) := by decide +kernel
theorem dX9_wrongNow_13 : decode cX9_wrongNow 13 = .ok (.iconst 1, 1) := by decide +kernel
theorem dX9_wrongNow_14 : decode cX9_wrongNow 14 = .ok (.iadd, 1) := by decide +kernel
theorem dX9_wrongNow_15 : decode cX9_wrongNow 15 = .ok (.imul, 1) := by decide +kernel
theorem dX9_wrongNow_16 : decode cX9_wrongNow 16 = .ok (.if_icmp .ge 24, 3) := by decide +kernel
theorem dX9_wrongNow_19 : decode cX9_wrongNow 19 = .ok (.aload_n 0, 1) := by decide +kernel
theorem dX9_wrongNow_20 : decode cX9_wrongNow 20 = .ok (.getfield 13, 3) := by decide +kernel
theorem dX9_wrongNow_23 : decode cX9_wrongNow 23 = .ok (.aload_n 0, 1) := by decide +kernel
theorem dX9_wrongNow_24 : decode cX9_wrongNow 24 = .ok (.iload_n 1, 1) := by decide +kernel
theorem dX9_wrongNow_25 : decode cX9_wrongNow 25 = .ok (.invokevirtual 133, 3) := by decide +kernel
theorem dX9_wrongNow_28 : decode cX9_wrongNow 28 = .ok (.baload, 1) := by decide +kernel
theorem dX9_wrongNow_29 : decode cX9_wrongNow 29 = .ok (.ifCond .ne 5, 3) := by decide +kernel
theorem dX9_wrongNow_32 : decode cX9_wrongNow 32 = .ok (.iload_n 1, 1) := by decide +kernel
theorem dX9_wrongNow_33 : decode cX9_wrongNow 33 = .ok (.ireturn, 1) := by decide +kernel
theorem dX9_wrongNow_34 : decode cX9_wrongNow 34 = .ok (.iinc 1 1, 3) := by decide +kernel
theorem dX9_wrongNow_37 : decode cX9_wrongNow 37 = .ok (.goto (-35), 3) := by decide +kernel
theorem dX9_wrongNow_40 : decode cX9_wrongNow 40 = .ok (.iconst (-1), 1) := by decide +kernel
theorem dX9_wrongNow_41 : decode cX9_wrongNow 41 = .ok (.ireturn, 1) := by decide +kernel
set_option maxRecDepth 20000 in
theorem ggX9_wrong_X9_gaps : GoodIn wsX9_wrong wsX9_gaps := goodIn_r _ [5, 6, 7, 8, 25, 26, 27, 28, 29, 30, 31, 32, 33, 34, 35, 36, 37, 38, 39, 40, 41, 42, 43, 44, 45, 46, 47, 48, 49, 50, 51, 52, 53, 54] (by decide +kernel) (by decide +kernel)
set_option maxRecDepth 20000 in
theorem gX9_wrong_X9_gaps : GoodIn wsX9_wrong (wsV RX9 129 RX9 yX9_gaps wsX9_gaps) := goodIn_app (goodIn_of _ (by decide +kernel)) ggX9_wrong_X9_gaps
set_option maxRecDepth 20000 in
theorem ggX9_wrong_X9_wrongNow : GoodIn wsX9_wrong wsX9_wrongNow := goodIn_r _ [12, 6, 7, 13, 14, 15, 16, 4, 17, 18, 19, 20, 21, 8, 22, 23, 24, 25, 26, 27, 28, 29, 30, 31, 32, 33, 34, 35, 36, 37, 38, 39, 40, 41, 42, 43, 44, 45, 46, 47, 48, 49, 50, 51, 52, 53, 54] (by decide +kernel) (by decide +kernel)
set_option maxRecDepth 20000 in
theorem gX9_wrong_X9_wrongNow : GoodIn wsX9_wrong (wsV RX9 137 RX9 yX9_wrongNow wsX9_wrongNow) := goodIn_app (goodIn_of _ (by decide +kernel)) ggX9_wrong_X9_wrongNow
theorem dX9_wrong_0 : decode cX9_wrong 0 = .ok (.aload_n 0, 1) := by decide +kernel
theorem dX9_wrong_1 : decode cX9_wrong 1 = .ok (.invokevirtual 129, 3) := by decide +kernel
theorem dX9_wrong_4 : decode cX9_wrong 4 = .ok (.ifCond .le 8, 3) := by decide +kernel
theorem dX9_wrong_7 : decode cX9_wrong 7 = .ok (.bipush (-4), 2) := by decide +kernel
theorem dX9_wrong_9 : decode cX9_wrong 9 = .ok (.goto 7, 3) := by decide +kernel
theorem dX9_wrong_12 : decode cX9_wrong 12 = .ok (.aload_n 0, 1) := by decide +kernel
theorem dX9_wrong_13 : decode cX9_wrong 13 = .ok (.invokevirtual 137, 3) := by decide +kernel
theorem dX9_wrong_16 : decode cX9_wrong 16 = .ok (.ireturn, 1) := by decide +kernel
theorem dX9_changed_0 : decode cX9_changed 0 = .ok (.iload_n 0, 1) := by decide +kernel
theorem dX9_changed_1 : decode cX9_changed 1 = .ok (.iconst 2, 1) := by decide +kernel
theorem dX9_changed_2 : decode cX9_changed 2 = .ok (.if_icmp .ge 9, 3) := by decide +kernel
theorem dX9_changed_5 : decode cX9_changed 5 = .ok (.iconst 1, 1) := by decide +kernel
theorem dX9_changed_6 : decode cX9_changed 6 = .ok (.iload_n 0, 1) := by decide +kernel
theorem dX9_changed_7 : decode cX9_changed 7 = .ok (.isub, 1) := by decide +kernel
theorem dX9_changed_8 : decode cX9_changed 8 = .ok (.goto 4, 3) := by decide +kernel
theorem dX9_changed_11 : decode cX9_changed 11 = .ok (.iload_n 0, 1) := by decide +kernel
theorem dX9_changed_12 : decode cX9_changed 12 = .ok (.ireturn, 1) := by decide +kernel
set_option maxRecDepth 20000 in
theorem ggX9_turnOf_X9_changed : GoodIn wsX9_turnOf wsX9_changed := goodIn_r _ [4] (by decide +kernel) (by decide +kernel)
set_option maxRecDepth 20000 in
theorem gX9_turnOf_X9_changed : GoodIn wsX9_turnOf (va_wsS RX9 140 yX9_changed wsX9_changed) := goodIn_app (goodIn_of _ (by decide +kernel)) ggX9_turnOf_X9_changed
theorem dX9_turnOf_0 : decode cX9_turnOf 0 = .ok (.iload_n 0, 1) := by decide +kernel
theorem dX9_turnOf_1 : decode cX9_turnOf 1 = .ok (.bipush 6, 2) := by decide +kernel
theorem dX9_turnOf_3 : decode cX9_turnOf 3 = .ok (.ishr, 1) := by decide +kernel
theorem dX9_turnOf_4 : decode cX9_turnOf 4 = .ok (.iconst 3, 1) := by decide +kernel
theorem dX9_turnOf_5 : decode cX9_turnOf 5 = .ok (.iand, 1) := by decide +kernel
theorem dX9_turnOf_6 : decode cX9_turnOf 6 = .ok (.istore_n 2, 1) := by decide +kernel
theorem dX9_turnOf_7 : decode cX9_turnOf 7 = .ok (.iload_n 0, 1) := by decide +kernel
theorem dX9_turnOf_8 : decode cX9_turnOf 8 = .ok (.iconst 4, 1) := by decide +kernel
theorem dX9_turnOf_9 : decode cX9_turnOf 9 = .ok (.ishr, 1) := by decide +kernel
theorem dX9_turnOf_10 : decode cX9_turnOf 10 = .ok (.iconst 3, 1) := by decide +kernel
theorem dX9_turnOf_11 : decode cX9_turnOf 11 = .ok (.iand, 1) := by decide +kernel
theorem dX9_turnOf_12 : decode cX9_turnOf 12 = .ok (.istore_n 3, 1) := by decide +kernel
theorem dX9_turnOf_13 : decode cX9_turnOf 13 = .ok (.iload_n 0, 1) := by decide +kernel
theorem dX9_turnOf_14 : decode cX9_turnOf 14 = .ok (.iconst 2, 1) := by decide +kernel
theorem dX9_turnOf_15 : decode cX9_turnOf 15 = .ok (.ishr, 1) := by decide +kernel
theorem dX9_turnOf_16 : decode cX9_turnOf 16 = .ok (.iconst 3, 1) := by decide +kernel
theorem dX9_turnOf_17 : decode cX9_turnOf 17 = .ok (.iand, 1) := by decide +kernel
theorem dX9_turnOf_18 : decode cX9_turnOf 18 = .ok (.istore 4, 2) := by decide +kernel
theorem dX9_turnOf_20 : decode cX9_turnOf 20 = .ok (.iload_n 0, 1) := by decide +kernel
theorem dX9_turnOf_21 : decode cX9_turnOf 21 = .ok (.iconst 3, 1) := by decide +kernel
theorem dX9_turnOf_22 : decode cX9_turnOf 22 = .ok (.iand, 1) := by decide +kernel
theorem dX9_turnOf_23 : decode cX9_turnOf 23 = .ok (.istore 5, 2) := by decide +kernel
theorem dX9_turnOf_25 : decode cX9_turnOf 25 = .ok (.iload_n 1, 1) := by decide +kernel
theorem dX9_turnOf_26 : decode cX9_turnOf 26 = .ok (.ifCond .ne 21, 3) := by decide +kernel
theorem dX9_turnOf_29 : decode cX9_turnOf 29 = .ok (.bipush 64, 2) := by decide +kernel
theorem dX9_turnOf_31 : decode cX9_turnOf 31 = .ok (.iload 4, 2) := by decide +kernel
theorem dX9_turnOf_33 : decode cX9_turnOf 33 = .ok (.imul, 1) := by decide +kernel
theorem dX9_turnOf_34 : decode cX9_turnOf 34 = .ok (.bipush 16, 2) := by decide +kernel
theorem dX9_turnOf_36 : decode cX9_turnOf 36 = .ok (.iload_n 2, 1) := by decide +kernel
theorem dX9_turnOf_37 : decode cX9_turnOf 37 = .ok (.imul, 1) := by decide +kernel
theorem dX9_turnOf_38 : decode cX9_turnOf 38 = .ok (.iadd, 1) := by decide +kernel
theorem dX9_turnOf_39 : decode cX9_turnOf 39 = .ok (.iconst 4, 1) := by decide +kernel
theorem dX9_turnOf_40 : decode cX9_turnOf 40 = .ok (.iload 5, 2) := by decide +kernel
theorem dX9_turnOf_42 : decode cX9_turnOf 42 = .ok (.imul, 1) := by decide +kernel
theorem dX9_turnOf_43 : decode cX9_turnOf 43 = .ok (.iadd, 1) := by decide +kernel
theorem dX9_turnOf_44 : decode cX9_turnOf 44 = .ok (.iload_n 3, 1) := by decide +kernel
theorem dX9_turnOf_45 : decode cX9_turnOf 45 = .ok (.iadd, 1) := by decide +kernel
theorem dX9_turnOf_46 : decode cX9_turnOf 46 = .ok (.ireturn, 1) := by decide +kernel
theorem dX9_turnOf_47 : decode cX9_turnOf 47 = .ok (.iload_n 1, 1) := by decide +kernel
theorem dX9_turnOf_48 : decode cX9_turnOf 48 = .ok (.iconst 1, 1) := by decide +kernel
theorem dX9_turnOf_49 : decode cX9_turnOf 49 = .ok (.if_icmp .ne 21, 3) := by decide +kernel
theorem dX9_turnOf_52 : decode cX9_turnOf 52 = .ok (.bipush 64, 2) := by decide +kernel
theorem dX9_turnOf_54 : decode cX9_turnOf 54 = .ok (.iload_n 3, 1) := by decide +kernel
theorem dX9_turnOf_55 : decode cX9_turnOf 55 = .ok (.imul, 1) := by decide +kernel
theorem dX9_turnOf_56 : decode cX9_turnOf 56 = .ok (.bipush 16, 2) := by decide +kernel
theorem dX9_turnOf_58 : decode cX9_turnOf 58 = .ok (.iload_n 2, 1) := by decide +kernel
theorem dX9_turnOf_59 : decode cX9_turnOf 59 = .ok (.imul, 1) := by decide +kernel
theorem dX9_turnOf_60 : decode cX9_turnOf 60 = .ok (.iadd, 1) := by decide +kernel
theorem dX9_turnOf_61 : decode cX9_turnOf 61 = .ok (.iconst 4, 1) := by decide +kernel
theorem dX9_turnOf_62 : decode cX9_turnOf 62 = .ok (.iload 5, 2) := by decide +kernel
theorem dX9_turnOf_64 : decode cX9_turnOf 64 = .ok (.imul, 1) := by decide +kernel
theorem dX9_turnOf_65 : decode cX9_turnOf 65 = .ok (.iadd, 1) := by decide +kernel
theorem dX9_turnOf_66 : decode cX9_turnOf 66 = .ok (.iload 4, 2) := by decide +kernel
theorem dX9_turnOf_68 : decode cX9_turnOf 68 = .ok (.iadd, 1) := by decide +kernel
theorem dX9_turnOf_69 : decode cX9_turnOf 69 = .ok (.ireturn, 1) := by decide +kernel
theorem dX9_turnOf_70 : decode cX9_turnOf 70 = .ok (.iload_n 1, 1) := by decide +kernel
theorem dX9_turnOf_71 : decode cX9_turnOf 71 = .ok (.iconst 2, 1) := by decide +kernel
theorem dX9_turnOf_72 : decode cX9_turnOf 72 = .ok (.if_icmp .ne 23, 3) := by decide +kernel
theorem dX9_turnOf_75 : decode cX9_turnOf 75 = .ok (.bipush 64, 2) := by decide +kernel
theorem dX9_turnOf_77 : decode cX9_turnOf 77 = .ok (.iload 4, 2) := by decide +kernel
theorem dX9_turnOf_79 : decode cX9_turnOf 79 = .ok (.imul, 1) := by decide +kernel
theorem dX9_turnOf_80 : decode cX9_turnOf 80 = .ok (.bipush 16, 2) := by decide +kernel
theorem dX9_turnOf_82 : decode cX9_turnOf 82 = .ok (.iload 5, 2) := by decide +kernel
theorem dX9_turnOf_84 : decode cX9_turnOf 84 = .ok (.imul, 1) := by decide +kernel
theorem dX9_turnOf_85 : decode cX9_turnOf 85 = .ok (.iadd, 1) := by decide +kernel
theorem dX9_turnOf_86 : decode cX9_turnOf 86 = .ok (.iconst 4, 1) := by decide +kernel
theorem dX9_turnOf_87 : decode cX9_turnOf 87 = .ok (.iload_n 2, 1) := by decide +kernel
theorem dX9_turnOf_88 : decode cX9_turnOf 88 = .ok (.imul, 1) := by decide +kernel
theorem dX9_turnOf_89 : decode cX9_turnOf 89 = .ok (.iadd, 1) := by decide +kernel
theorem dX9_turnOf_90 : decode cX9_turnOf 90 = .ok (.iload_n 3, 1) := by decide +kernel
theorem dX9_turnOf_91 : decode cX9_turnOf 91 = .ok (.iadd, 1) := by decide +kernel
theorem dX9_turnOf_92 : decode cX9_turnOf 92 = .ok (.goto 32, 3) := by decide +kernel
theorem dX9_turnOf_95 : decode cX9_turnOf 95 = .ok (.bipush 64, 2) := by decide +kernel
theorem dX9_turnOf_97 : decode cX9_turnOf 97 = .ok (.iload_n 2, 1) := by decide +kernel
theorem dX9_turnOf_98 : decode cX9_turnOf 98 = .ok (.invokestatic 140, 3) := by decide +kernel
theorem dX9_turnOf_101 : decode cX9_turnOf 101 = .ok (.imul, 1) := by decide +kernel
theorem dX9_turnOf_102 : decode cX9_turnOf 102 = .ok (.bipush 16, 2) := by decide +kernel
theorem dX9_turnOf_104 : decode cX9_turnOf 104 = .ok (.iload_n 3, 1) := by decide +kernel
theorem dX9_turnOf_105 : decode cX9_turnOf 105 = .ok (.invokestatic 140, 3) := by decide +kernel
theorem dX9_turnOf_108 : decode cX9_turnOf 108 = .ok (.imul, 1) := by decide +kernel
theorem dX9_turnOf_109 : decode cX9_turnOf 109 = .ok (.iadd, 1) := by decide +kernel
theorem dX9_turnOf_110 : decode cX9_turnOf 110 = .ok (.iconst 4, 1) := by decide +kernel
theorem dX9_turnOf_111 : decode cX9_turnOf 111 = .ok (.iload 4, 2) := by decide +kernel
theorem dX9_turnOf_113 : decode cX9_turnOf 113 = .ok (.invokestatic 140, 3) := by decide +kernel
theorem dX9_turnOf_116 : decode cX9_turnOf 116 = .ok (.imul, 1) := by decide +kernel
theorem dX9_turnOf_117 : decode cX9_turnOf 117 = .ok (.iadd, 1) := by decide +kernel
theorem dX9_turnOf_118 : decode cX9_turnOf 118 = .ok (.iload 5, 2) := by decide +kernel
theorem dX9_turnOf_120 : decode cX9_turnOf 120 = .ok (.invokestatic 140, 3) := by decide +kernel
theorem dX9_turnOf_123 : decode cX9_turnOf 123 = .ok (.iadd, 1) := by decide +kernel
theorem dX9_turnOf_124 : decode cX9_turnOf 124 = .ok (.ireturn, 1) := by decide +kernel
set_option maxRecDepth 20000 in
theorem ggX9_blocks_X9_in : GoodIn wsX9_blocks wsX9_in := goodIn_r _ [7] (by decide +kernel) (by decide +kernel)
set_option maxRecDepth 20000 in
theorem gX9_blocks_X9_in : GoodIn wsX9_blocks (va_wsS RX9 95 yX9_in wsX9_in) := goodIn_app (goodIn_of _ (by decide +kernel)) ggX9_blocks_X9_in
set_option maxRecDepth 20000 in
theorem ggX9_blocks_X9_turnOf : GoodIn wsX9_blocks wsX9_turnOf := goodIn_r _ [10, 11, 12, 6, 13] (by decide +kernel) (by decide +kernel)
set_option maxRecDepth 20000 in
theorem gX9_blocks_X9_turnOf : GoodIn wsX9_blocks (va_wsS RX9 143 yX9_turnOf wsX9_turnOf) := goodIn_app (goodIn_of _ (by decide +kernel)) ggX9_blocks_X9_turnOf
theorem dX9_blocks_0 : decode cX9_blocks 0 = .ok (.iload_n 1, 1) := by decide +kernel
theorem dX9_blocks_1 : decode cX9_blocks 1 = .ok (.i2l, 1) := by decide +kernel
theorem dX9_blocks_2 : decode cX9_blocks 2 = .ok (.ldc2_w 123, 3) := by decide +kernel
theorem dX9_blocks_5 : decode cX9_blocks 5 = .ok (.ldc2_w 101, 3) := by decide +kernel
theorem dX9_blocks_8 : decode cX9_blocks 8 = .ok (.invokestatic 95, 3) := by decide +kernel
theorem dX9_blocks_11 : decode cX9_blocks 11 = .ok (.ifCond .ne 6, 3) := by decide +kernel
theorem dX9_blocks_14 : decode cX9_blocks 14 = .ok (.bipush (-3), 2) := by decide +kernel
theorem dX9_blocks_16 : decode cX9_blocks 16 = .ok (.ireturn, 1) := by decide +kernel
theorem dX9_blocks_17 : decode cX9_blocks 17 = .ok (.iconst 0, 1) := by decide +kernel
theorem dX9_blocks_18 : decode cX9_blocks 18 = .ok (.istore_n 2, 1) := by decide +kernel
theorem dX9_blocks_19 : decode cX9_blocks 19 = .ok (.iconst 0, 1) := by decide +kernel
theorem dX9_blocks_20 : decode cX9_blocks 20 = .ok (.istore_n 3, 1) := by decide +kernel
theorem dX9_blocks_21 : decode cX9_blocks 21 = .ok (.iload_n 3, 1) := by decide +kernel
theorem dX9_blocks_22 : decode cX9_blocks 22 = .ok (.sipush 256, 3) := by decide +kernel
theorem dX9_blocks_25 : decode cX9_blocks 25 = .ok (.if_icmp .ge 44, 3) := by decide +kernel
theorem dX9_blocks_28 : decode cX9_blocks 28 = .ok (.iload_n 2, 1) := by decide +kernel
theorem dX9_blocks_29 : decode cX9_blocks 29 = .ok (.aload_n 0, 1) := by decide +kernel
theorem dX9_blocks_30 : decode cX9_blocks 30 = .ok (.getfield 13, 3) := by decide +kernel
theorem dX9_blocks_33 : decode cX9_blocks 33 = .ok (.iload_n 3, 1) := by decide +kernel
theorem dX9_blocks_34 : decode cX9_blocks 34 = .ok (.baload, 1) := by decide +kernel
theorem dX9_blocks_35 : decode cX9_blocks 35 = .ok (.ifCond .eq 25, 3) := by decide +kernel
theorem dX9_blocks_38 : decode cX9_blocks 38 = .ok (.iload_n 1, 1) := by decide +kernel
theorem dX9_blocks_39 : decode cX9_blocks 39 = .ok (.iconst (-1), 1) := by decide +kernel
theorem dX9_blocks_40 : decode cX9_blocks 40 = .ok (.if_icmp .eq 16, 3) := by decide +kernel
theorem dX9_blocks_43 : decode cX9_blocks 43 = .ok (.aload_n 0, 1) := by decide +kernel
theorem dX9_blocks_44 : decode cX9_blocks 44 = .ok (.getfield 13, 3) := by decide +kernel
theorem dX9_blocks_47 : decode cX9_blocks 47 = .ok (.iload_n 3, 1) := by decide +kernel
theorem dX9_blocks_48 : decode cX9_blocks 48 = .ok (.iload_n 1, 1) := by decide +kernel
theorem dX9_blocks_49 : decode cX9_blocks 49 = .ok (.invokestatic 143, 3) := by decide +kernel
theorem dX9_blocks_52 : decode cX9_blocks 52 = .ok (.baload, 1) := by decide +kernel
theorem dX9_blocks_53 : decode cX9_blocks 53 = .ok (.ifCond .ne 7, 3) := by decide +kernel
theorem dX9_blocks_56 : decode cX9_blocks 56 = .ok (.iconst 1, 1) := by decide +kernel
theorem dX9_blocks_57 : decode cX9_blocks 57 = .ok (.goto 4, 3) := by decide +kernel
theorem dX9_blocks_60 : decode cX9_blocks 60 = .ok (.iconst 0, 1) := by decide +kernel
theorem dX9_blocks_61 : decode cX9_blocks 61 = .ok (.iadd, 1) := by decide +kernel
theorem dX9_blocks_62 : decode cX9_blocks 62 = .ok (.istore_n 2, 1) := by decide +kernel
theorem dX9_blocks_63 : decode cX9_blocks 63 = .ok (.iinc 3 1, 3) := by decide +kernel
theorem dX9_blocks_66 : decode cX9_blocks 66 = .ok (.goto (-45), 3) := by decide +kernel
theorem dX9_blocks_69 : decode cX9_blocks 69 = .ok (.iload_n 2, 1) := by decide +kernel
theorem dX9_blocks_70 : decode cX9_blocks 70 = .ok (.ireturn, 1) := by decide +kernel
set_option maxRecDepth 20000 in
theorem ggX9_close_X9_in : GoodIn wsX9_close wsX9_in := goodIn_r _ [6] (by decide +kernel) (by decide +kernel)
set_option maxRecDepth 20000 in
theorem gX9_close_X9_in : GoodIn wsX9_close (va_wsS RX9 95 yX9_in wsX9_in) := goodIn_app (goodIn_of _ (by decide +kernel)) ggX9_close_X9_in
set_option maxRecDepth 20000 in
theorem ggX9_close_X9_turnOf : GoodIn wsX9_close wsX9_turnOf := goodIn_r _ [9, 10, 11, 5, 12] (by decide +kernel) (by decide +kernel)
set_option maxRecDepth 20000 in
theorem gX9_close_X9_turnOf : GoodIn wsX9_close (va_wsS RX9 143 yX9_turnOf wsX9_turnOf) := goodIn_app (goodIn_of _ (by decide +kernel)) ggX9_close_X9_turnOf
theorem dX9_close_0 : decode cX9_close 0 = .ok (.iload_n 1, 1) := by decide +kernel
theorem dX9_close_1 : decode cX9_close 1 = .ok (.i2l, 1) := by decide +kernel
theorem dX9_close_2 : decode cX9_close 2 = .ok (.lconst 0, 1) := by decide +kernel
theorem dX9_close_3 : decode cX9_close 3 = .ok (.ldc2_w 101, 3) := by decide +kernel
theorem dX9_close_6 : decode cX9_close 6 = .ok (.invokestatic 95, 3) := by decide +kernel
theorem dX9_close_9 : decode cX9_close 9 = .ok (.ifCond .ne 6, 3) := by decide +kernel
theorem dX9_close_12 : decode cX9_close 12 = .ok (.bipush (-3), 2) := by decide +kernel
theorem dX9_close_14 : decode cX9_close 14 = .ok (.ireturn, 1) := by decide +kernel
theorem dX9_close_15 : decode cX9_close 15 = .ok (.iconst 0, 1) := by decide +kernel
theorem dX9_close_16 : decode cX9_close 16 = .ok (.istore_n 2, 1) := by decide +kernel
theorem dX9_close_17 : decode cX9_close 17 = .ok (.iconst 1, 1) := by decide +kernel
theorem dX9_close_18 : decode cX9_close 18 = .ok (.istore_n 3, 1) := by decide +kernel
theorem dX9_close_19 : decode cX9_close 19 = .ok (.iload_n 3, 1) := by decide +kernel
theorem dX9_close_20 : decode cX9_close 20 = .ok (.ifCond .eq 66, 3) := by decide +kernel
theorem dX9_close_23 : decode cX9_close 23 = .ok (.iconst 0, 1) := by decide +kernel
theorem dX9_close_24 : decode cX9_close 24 = .ok (.istore_n 3, 1) := by decide +kernel
theorem dX9_close_25 : decode cX9_close 25 = .ok (.iconst 0, 1) := by decide +kernel
theorem dX9_close_26 : decode cX9_close 26 = .ok (.istore 4, 2) := by decide +kernel
theorem dX9_close_28 : decode cX9_close 28 = .ok (.iload 4, 2) := by decide +kernel
theorem dX9_close_30 : decode cX9_close 30 = .ok (.sipush 256, 3) := by decide +kernel
theorem dX9_close_33 : decode cX9_close 33 = .ok (.if_icmp .ge 50, 3) := by decide +kernel
theorem dX9_close_36 : decode cX9_close 36 = .ok (.aload_n 0, 1) := by decide +kernel
theorem dX9_close_37 : decode cX9_close 37 = .ok (.getfield 13, 3) := by decide +kernel
theorem dX9_close_40 : decode cX9_close 40 = .ok (.iload 4, 2) := by decide +kernel
theorem dX9_close_42 : decode cX9_close 42 = .ok (.baload, 1) := by decide +kernel
theorem dX9_close_43 : decode cX9_close 43 = .ok (.ifCond .eq 34, 3) := by decide +kernel
theorem dX9_close_46 : decode cX9_close 46 = .ok (.aload_n 0, 1) := by decide +kernel
theorem dX9_close_47 : decode cX9_close 47 = .ok (.getfield 13, 3) := by decide +kernel
theorem dX9_close_50 : decode cX9_close 50 = .ok (.iload 4, 2) := by decide +kernel
theorem dX9_close_52 : decode cX9_close 52 = .ok (.iload_n 1, 1) := by decide +kernel
theorem dX9_close_53 : decode cX9_close 53 = .ok (.invokestatic 143, 3) := by decide +kernel
theorem dX9_close_56 : decode cX9_close 56 = .ok (.baload, 1) := by decide +kernel
theorem dX9_close_57 : decode cX9_close 57 = .ok (.ifCond .ne 20, 3) := by decide +kernel
theorem dX9_close_60 : decode cX9_close 60 = .ok (.aload_n 0, 1) := by decide +kernel
theorem dX9_close_61 : decode cX9_close 61 = .ok (.getfield 13, 3) := by decide +kernel
theorem dX9_close_64 : decode cX9_close 64 = .ok (.iload 4, 2) := by decide +kernel
theorem dX9_close_66 : decode cX9_close 66 = .ok (.iload_n 1, 1) := by decide +kernel
theorem dX9_close_67 : decode cX9_close 67 = .ok (.invokestatic 143, 3) := by decide +kernel
theorem dX9_close_70 : decode cX9_close 70 = .ok (.iconst 1, 1) := by decide +kernel
theorem dX9_close_71 : decode cX9_close 71 = .ok (.bastore, 1) := by decide +kernel
theorem dX9_close_72 : decode cX9_close 72 = .ok (.iinc 2 1, 3) := by decide +kernel
theorem dX9_close_75 : decode cX9_close 75 = .ok (.iconst 1, 1) := by decide +kernel
theorem dX9_close_76 : decode cX9_close 76 = .ok (.istore_n 3, 1) := by decide +kernel
theorem dX9_close_77 : decode cX9_close 77 = .ok (.iinc 4 1, 3) := by decide +kernel
theorem dX9_close_80 : decode cX9_close 80 = .ok (.goto (-52), 3) := by decide +kernel
theorem dX9_close_83 : decode cX9_close 83 = .ok (.goto (-64), 3) := by decide +kernel
theorem dX9_close_86 : decode cX9_close 86 = .ok (.iload_n 2, 1) := by decide +kernel
theorem dX9_close_87 : decode cX9_close 87 = .ok (.ireturn, 1) := by decide +kernel
theorem dX9_rowsOf_0 : decode cX9_rowsOf 0 = .ok (.iconst 1, 1) := by decide +kernel
theorem dX9_rowsOf_1 : decode cX9_rowsOf 1 = .ok (.istore_n 2, 1) := by decide +kernel
theorem dX9_rowsOf_2 : decode cX9_rowsOf 2 = .ok (.iconst 0, 1) := by decide +kernel
theorem dX9_rowsOf_3 : decode cX9_rowsOf 3 = .ok (.istore_n 3, 1) := by decide +kernel
theorem dX9_rowsOf_4 : decode cX9_rowsOf 4 = .ok (.iload_n 3, 1) := by decide +kernel
theorem dX9_rowsOf_5 : decode cX9_rowsOf 5 = .ok (.iload_n 1, 1) := by decide +kernel
theorem dX9_rowsOf_6 : decode cX9_rowsOf 6 = .ok (.if_icmp .ge 16, 3) := by decide +kernel
theorem dX9_rowsOf_9 : decode cX9_rowsOf 9 = .ok (.iload_n 2, 1) := by decide +kernel
theorem dX9_rowsOf_10 : decode cX9_rowsOf 10 = .ok (.aload_n 0, 1) := by decide +kernel
theorem dX9_rowsOf_11 : decode cX9_rowsOf 11 = .ok (.getfield 7, 3) := by decide +kernel
theorem dX9_rowsOf_14 : decode cX9_rowsOf 14 = .ok (.imul, 1) := by decide +kernel
theorem dX9_rowsOf_15 : decode cX9_rowsOf 15 = .ok (.istore_n 2, 1) := by decide +kernel
theorem dX9_rowsOf_16 : decode cX9_rowsOf 16 = .ok (.iinc 3 1, 3) := by decide +kernel
theorem dX9_rowsOf_19 : decode cX9_rowsOf 19 = .ok (.goto (-15), 3) := by decide +kernel
theorem dX9_rowsOf_22 : decode cX9_rowsOf 22 = .ok (.iload_n 2, 1) := by decide +kernel
theorem dX9_rowsOf_23 : decode cX9_rowsOf 23 = .ok (.ireturn, 1) := by decide +kernel
theorem dX9_cellOf_0 : decode cX9_cellOf 0 = .ok (.iload_n 1, 1) := by decide +kernel
theorem dX9_cellOf_1 : decode cX9_cellOf 1 = .ok (.ifCond .lt 12, 3) := by decide +kernel
theorem dX9_cellOf_4 : decode cX9_cellOf 4 = .ok (.iload_n 2, 1) := by decide +kernel
theorem dX9_cellOf_5 : decode cX9_cellOf 5 = .ok (.ifCond .lt 8, 3) := by decide +kernel
theorem dX9_cellOf_8 : decode cX9_cellOf 8 = .ok (.iload_n 2, 1) := by decide +kernel
theorem dX9_cellOf_9 : decode cX9_cellOf 9 = .ok (.iload_n 3, 1) := by decide +kernel
theorem dX9_cellOf_10 : decode cX9_cellOf 10 = .ok (.if_icmp .lt 5, 3) := by decide +kernel
theorem dX9_cellOf_13 : decode cX9_cellOf 13 = .ok (.iconst 3, 1) := by decide +kernel
theorem dX9_cellOf_14 : decode cX9_cellOf 14 = .ok (.ireturn, 1) := by decide +kernel
theorem dX9_cellOf_15 : decode cX9_cellOf 15 = .ok (.iload_n 1, 1) := by decide +kernel
theorem dX9_cellOf_16 : decode cX9_cellOf 16 = .ok (.istore 4, 2) := by decide +kernel
theorem dX9_cellOf_18 : decode cX9_cellOf 18 = .ok (.iload_n 3, 1) := by decide +kernel
theorem dX9_cellOf_19 : decode cX9_cellOf 19 = .ok (.iconst 1, 1) := by decide +kernel
theorem dX9_cellOf_20 : decode cX9_cellOf 20 = .ok (.isub, 1) := by decide +kernel
theorem dX9_cellOf_21 : decode cX9_cellOf 21 = .ok (.istore 5, 2) := by decide +kernel
theorem dX9_cellOf_23 : decode cX9_cellOf 23 = .ok (.iload 5, 2) := by decide +kernel
theorem dX9_cellOf_25 : decode cX9_cellOf 25 = .ok (.iload_n 2, 1) := by decide +kernel
theorem dX9_cellOf_26 : decode cX9_cellOf 26 = .ok (.if_icmp .le 18, 3) := by decide +kernel
theorem dX9_cellOf_29 : decode cX9_cellOf 29 = .ok (.iload 4, 2) := by decide +kernel
theorem dX9_cellOf_31 : decode cX9_cellOf 31 = .ok (.aload_n 0, 1) := by decide +kernel
theorem dX9_cellOf_32 : decode cX9_cellOf 32 = .ok (.getfield 7, 3) := by decide +kernel
theorem dX9_cellOf_35 : decode cX9_cellOf 35 = .ok (.idiv, 1) := by decide +kernel
theorem dX9_cellOf_36 : decode cX9_cellOf 36 = .ok (.istore 4, 2) := by decide +kernel
theorem dX9_cellOf_38 : decode cX9_cellOf 38 = .ok (.iinc 5 (-1), 3) := by decide +kernel
theorem dX9_cellOf_41 : decode cX9_cellOf 41 = .ok (.goto (-18), 3) := by decide +kernel
theorem dX9_cellOf_44 : decode cX9_cellOf 44 = .ok (.iload 4, 2) := by decide +kernel
theorem dX9_cellOf_46 : decode cX9_cellOf 46 = .ok (.aload_n 0, 1) := by decide +kernel
theorem dX9_cellOf_47 : decode cX9_cellOf 47 = .ok (.getfield 7, 3) := by decide +kernel
theorem dX9_cellOf_50 : decode cX9_cellOf 50 = .ok (.irem, 1) := by decide +kernel
theorem dX9_cellOf_51 : decode cX9_cellOf 51 = .ok (.ireturn, 1) := by decide +kernel
set_option maxRecDepth 20000 in
theorem ggX9_mayStand_X9_cellOf : GoodIn wsX9_mayStand wsX9_cellOf := goodIn_r _ [6, 7, 8, 9, 10, 11, 12, 13, 14, 15, 16, 17, 18, 19, 20, 21, 22, 23, 24, 25, 26, 27, 28, 29, 30, 31, 32, 33, 34, 35, 36, 37] (by decide +kernel) (by decide +kernel)
set_option maxRecDepth 20000 in
theorem gX9_mayStand_X9_cellOf : GoodIn wsX9_mayStand (wsV RX9 146 RX9 yX9_cellOf wsX9_cellOf) := goodIn_app (goodIn_of _ (by decide +kernel)) ggX9_mayStand_X9_cellOf
theorem dX9_mayStand_0 : decode cX9_mayStand 0 = .ok (.iconst 1, 1) := by decide +kernel
theorem dX9_mayStand_1 : decode cX9_mayStand 1 = .ok (.istore 4, 2) := by decide +kernel
theorem dX9_mayStand_3 : decode cX9_mayStand 3 = .ok (.iconst 0, 1) := by decide +kernel
theorem dX9_mayStand_4 : decode cX9_mayStand 4 = .ok (.istore 5, 2) := by decide +kernel
theorem dX9_mayStand_6 : decode cX9_mayStand 6 = .ok (.iload 4, 2) := by decide +kernel
theorem dX9_mayStand_8 : decode cX9_mayStand 8 = .ok (.ifCond .eq 69, 3) := by decide +kernel
theorem dX9_mayStand_11 : decode cX9_mayStand 11 = .ok (.iload 5, 2) := by decide +kernel
theorem dX9_mayStand_13 : decode cX9_mayStand 13 = .ok (.iload_n 3, 1) := by decide +kernel
theorem dX9_mayStand_14 : decode cX9_mayStand 14 = .ok (.if_icmp .gt 63, 3) := by decide +kernel
theorem dX9_mayStand_17 : decode cX9_mayStand 17 = .ok (.aload_n 0, 1) := by decide +kernel
theorem dX9_mayStand_18 : decode cX9_mayStand 18 = .ok (.getfield 13, 3) := by decide +kernel
theorem dX9_mayStand_21 : decode cX9_mayStand 21 = .ok (.bipush 64, 2) := by decide +kernel
theorem dX9_mayStand_23 : decode cX9_mayStand 23 = .ok (.aload_n 0, 1) := by decide +kernel
theorem dX9_mayStand_24 : decode cX9_mayStand 24 = .ok (.iload_n 1, 1) := by decide +kernel
theorem dX9_mayStand_25 : decode cX9_mayStand 25 = .ok (.iload 5, 2) := by decide +kernel
theorem dX9_mayStand_27 : decode cX9_mayStand 27 = .ok (.iconst 1, 1) := by decide +kernel
theorem dX9_mayStand_28 : decode cX9_mayStand 28 = .ok (.isub, 1) := by decide +kernel
theorem dX9_mayStand_29 : decode cX9_mayStand 29 = .ok (.iload_n 3, 1) := by decide +kernel
theorem dX9_mayStand_30 : decode cX9_mayStand 30 = .ok (.invokevirtual 146, 3) := by decide +kernel
theorem dX9_mayStand_33 : decode cX9_mayStand 33 = .ok (.imul, 1) := by decide +kernel
theorem dX9_mayStand_34 : decode cX9_mayStand 34 = .ok (.bipush 16, 2) := by decide +kernel
theorem dX9_mayStand_36 : decode cX9_mayStand 36 = .ok (.aload_n 0, 1) := by decide +kernel
theorem dX9_mayStand_37 : decode cX9_mayStand 37 = .ok (.iload_n 1, 1) := by decide +kernel
theorem dX9_mayStand_38 : decode cX9_mayStand 38 = .ok (.iload 5, 2) := by decide +kernel
theorem dX9_mayStand_40 : decode cX9_mayStand 40 = .ok (.iload_n 3, 1) := by decide +kernel
theorem dX9_mayStand_41 : decode cX9_mayStand 41 = .ok (.invokevirtual 146, 3) := by decide +kernel
theorem dX9_mayStand_44 : decode cX9_mayStand 44 = .ok (.imul, 1) := by decide +kernel
theorem dX9_mayStand_45 : decode cX9_mayStand 45 = .ok (.iadd, 1) := by decide +kernel
theorem dX9_mayStand_46 : decode cX9_mayStand 46 = .ok (.iconst 4, 1) := by decide +kernel
theorem dX9_mayStand_47 : decode cX9_mayStand 47 = .ok (.aload_n 0, 1) := by decide +kernel
theorem dX9_mayStand_48 : decode cX9_mayStand 48 = .ok (.iload_n 2, 1) := by decide +kernel
theorem dX9_mayStand_49 : decode cX9_mayStand 49 = .ok (.iload 5, 2) := by decide +kernel
theorem dX9_mayStand_51 : decode cX9_mayStand 51 = .ok (.iconst 1, 1) := by decide +kernel
theorem dX9_mayStand_52 : decode cX9_mayStand 52 = .ok (.isub, 1) := by decide +kernel
theorem dX9_mayStand_53 : decode cX9_mayStand 53 = .ok (.iload_n 3, 1) := by decide +kernel
theorem dX9_mayStand_54 : decode cX9_mayStand 54 = .ok (.invokevirtual 146, 3) := by decide +kernel
theorem dX9_mayStand_57 : decode cX9_mayStand 57 = .ok (.imul, 1) := by decide +kernel
theorem dX9_mayStand_58 : decode cX9_mayStand 58 = .ok (.iadd, 1) := by decide +kernel
theorem dX9_mayStand_59 : decode cX9_mayStand 59 = .ok (.aload_n 0, 1) := by decide +kernel
theorem dX9_mayStand_60 : decode cX9_mayStand 60 = .ok (.iload_n 2, 1) := by decide +kernel
theorem dX9_mayStand_61 : decode cX9_mayStand 61 = .ok (.iload 5, 2) := by decide +kernel
theorem dX9_mayStand_63 : decode cX9_mayStand 63 = .ok (.iload_n 3, 1) := by decide +kernel
theorem dX9_mayStand_64 : decode cX9_mayStand 64 = .ok (.invokevirtual 146, 3) := by decide +kernel
theorem dX9_mayStand_67 : decode cX9_mayStand 67 = .ok (.iadd, 1) := by decide +kernel
theorem dX9_mayStand_68 : decode cX9_mayStand 68 = .ok (.baload, 1) := by decide +kernel
theorem dX9_mayStand_69 : decode cX9_mayStand 69 = .ok (.istore 4, 2) := by decide +kernel
theorem dX9_mayStand_71 : decode cX9_mayStand 71 = .ok (.iinc 5 1, 3) := by decide +kernel
theorem dX9_mayStand_74 : decode cX9_mayStand 74 = .ok (.goto (-68), 3) := by decide +kernel
theorem dX9_mayStand_77 : decode cX9_mayStand 77 = .ok (.iload 4, 2) := by decide +kernel
theorem dX9_mayStand_79 : decode cX9_mayStand 79 = .ok (.ireturn, 1) := by decide +kernel
set_option maxRecDepth 20000 in
theorem ggX9_layFits_X9_rowsOf : GoodIn wsX9_layFits wsX9_rowsOf := goodIn_r _ [9, 10, 20, 21, 22, 23, 24, 25, 26, 27, 28, 29, 30, 31, 32, 33, 34, 35, 36, 37, 38, 39, 40, 41, 42, 43, 44, 45, 46, 47, 48, 49] (by decide +kernel) (by decide +kernel)
set_option maxRecDepth 20000 in
theorem gX9_layFits_X9_rowsOf : GoodIn wsX9_layFits (wsV RX9 150 RX9 yX9_rowsOf wsX9_rowsOf) := goodIn_app (goodIn_of _ (by decide +kernel)) ggX9_layFits_X9_rowsOf
set_option maxRecDepth 20000 in
theorem ggX9_layFits_X9_mayStand : GoodIn wsX9_layFits wsX9_mayStand := goodIn_r _ [14, 15, 16, 17, 18, 8, 19, 10, 20, 21, 22, 23, 24, 25, 26, 27, 28, 29, 30, 31, 32, 33, 34, 35, 36, 37, 38, 39, 40, 41, 42, 43, 44, 45, 46, 47, 48, 49] (by decide +kernel) (by decide +kernel)
set_option maxRecDepth 20000 in
theorem gX9_layFits_X9_mayStand : GoodIn wsX9_layFits (wsV RX9 156 RX9 yX9_mayStand wsX9_mayStand) := goodIn_app (goodIn_of _ (by decide +kernel)) ggX9_layFits_X9_mayStand
theorem dX9_layFits_0 : decode cX9_layFits 0 = .ok (.aload_n 0, 1) := by decide +kernel
theorem dX9_layFits_1 : decode cX9_layFits 1 = .ok (.aload_n 0, 1) := by decide +kernel
theorem dX9_layFits_2 : decode cX9_layFits 2 = .ok (.iload_n 1, 1) := by decide +kernel
theorem dX9_layFits_3 : decode cX9_layFits 3 = .ok (.invokevirtual 150, 3) := by decide +kernel
theorem dX9_layFits_6 : decode cX9_layFits 6 = .ok (.putfield 153, 3) := by decide +kernel
theorem dX9_layFits_9 : decode cX9_layFits 9 = .ok (.iconst 0, 1) := by decide +kernel
theorem dX9_layFits_10 : decode cX9_layFits 10 = .ok (.istore_n 2, 1) := by decide +kernel
theorem dX9_layFits_11 : decode cX9_layFits 11 = .ok (.iload_n 2, 1) := by decide +kernel
theorem dX9_layFits_12 : decode cX9_layFits 12 = .ok (.aload_n 0, 1) := by decide +kernel
theorem dX9_layFits_13 : decode cX9_layFits 13 = .ok (.getfield 153, 3) := by decide +kernel
theorem dX9_layFits_16 : decode cX9_layFits 16 = .ok (.if_icmp .ge 70, 3) := by decide +kernel
theorem dX9_layFits_19 : decode cX9_layFits 19 = .ok (.aload_n 0, 1) := by decide +kernel
theorem dX9_layFits_20 : decode cX9_layFits 20 = .ok (.getfield 43, 3) := by decide +kernel
theorem dX9_layFits_23 : decode cX9_layFits 23 = .ok (.iload_n 2, 1) := by decide +kernel
theorem dX9_layFits_24 : decode cX9_layFits 24 = .ok (.aload_n 0, 1) := by decide +kernel
theorem dX9_layFits_25 : decode cX9_layFits 25 = .ok (.iconst (-1), 1) := by decide +kernel
theorem dX9_layFits_26 : decode cX9_layFits 26 = .ok (.iload_n 2, 1) := by decide +kernel
theorem dX9_layFits_27 : decode cX9_layFits 27 = .ok (.iload_n 1, 1) := by decide +kernel
theorem dX9_layFits_28 : decode cX9_layFits 28 = .ok (.invokevirtual 156, 3) := by decide +kernel
theorem dX9_layFits_31 : decode cX9_layFits 31 = .ok (.bastore, 1) := by decide +kernel
theorem dX9_layFits_32 : decode cX9_layFits 32 = .ok (.aload_n 0, 1) := by decide +kernel
theorem dX9_layFits_33 : decode cX9_layFits 33 = .ok (.getfield 46, 3) := by decide +kernel
theorem dX9_layFits_36 : decode cX9_layFits 36 = .ok (.iload_n 2, 1) := by decide +kernel
theorem dX9_layFits_37 : decode cX9_layFits 37 = .ok (.aload_n 0, 1) := by decide +kernel
theorem dX9_layFits_38 : decode cX9_layFits 38 = .ok (.iload_n 2, 1) := by decide +kernel
theorem dX9_layFits_39 : decode cX9_layFits 39 = .ok (.iconst (-1), 1) := by decide +kernel
theorem dX9_layFits_40 : decode cX9_layFits 40 = .ok (.iload_n 1, 1) := by decide +kernel
theorem dX9_layFits_41 : decode cX9_layFits 41 = .ok (.invokevirtual 156, 3) := by decide +kernel
theorem dX9_layFits_44 : decode cX9_layFits 44 = .ok (.bastore, 1) := by decide +kernel
theorem dX9_layFits_45 : decode cX9_layFits 45 = .ok (.iconst 0, 1) := by decide +kernel
theorem dX9_layFits_46 : decode cX9_layFits 46 = .ok (.istore_n 3, 1) := by decide +kernel
theorem dX9_layFits_47 : decode cX9_layFits 47 = .ok (.iload_n 3, 1) := by decide +kernel
theorem dX9_layFits_48 : decode cX9_layFits 48 = .ok (.aload_n 0, 1) := by decide +kernel
theorem dX9_layFits_49 : decode cX9_layFits 49 = .ok (.getfield 153, 3) := by decide +kernel
theorem dX9_layFits_52 : decode cX9_layFits 52 = .ok (.if_icmp .ge 28, 3) := by decide +kernel
theorem dX9_layFits_55 : decode cX9_layFits 55 = .ok (.aload_n 0, 1) := by decide +kernel
theorem dX9_layFits_56 : decode cX9_layFits 56 = .ok (.getfield 40, 3) := by decide +kernel
theorem dX9_layFits_59 : decode cX9_layFits 59 = .ok (.sipush 243, 3) := by decide +kernel
theorem dX9_layFits_62 : decode cX9_layFits 62 = .ok (.iload_n 2, 1) := by decide +kernel
theorem dX9_layFits_63 : decode cX9_layFits 63 = .ok (.imul, 1) := by decide +kernel
theorem dX9_layFits_64 : decode cX9_layFits 64 = .ok (.iload_n 3, 1) := by decide +kernel
theorem dX9_layFits_65 : decode cX9_layFits 65 = .ok (.iadd, 1) := by decide +kernel
theorem dX9_layFits_66 : decode cX9_layFits 66 = .ok (.aload_n 0, 1) := by decide +kernel
theorem dX9_layFits_67 : decode cX9_layFits 67 = .ok (.iload_n 2, 1) := by decide +kernel
theorem dX9_layFits_68 : decode cX9_layFits 68 = .ok (.iload_n 3, 1) := by decide +kernel
theorem dX9_layFits_69 : decode cX9_layFits 69 = .ok (.iload_n 1, 1) := by decide +kernel
theorem dX9_layFits_70 : decode cX9_layFits 70 = .ok (.invokevirtual 156, 3) := by decide +kernel
theorem dX9_layFits_73 : decode cX9_layFits 73 = .ok (.bastore, 1) := by decide +kernel
theorem dX9_layFits_74 : decode cX9_layFits 74 = .ok (.iinc 3 1, 3) := by decide +kernel
theorem dX9_layFits_77 : decode cX9_layFits 77 = .ok (.goto (-30), 3) := by decide +kernel
theorem dX9_layFits_80 : decode cX9_layFits 80 = .ok (.iinc 2 1, 3) := by decide +kernel
theorem dX9_layFits_83 : decode cX9_layFits 83 = .ok (.goto (-72), 3) := by decide +kernel
theorem dX9_layFits_86 : decode cX9_layFits 86 = .ok (.return_, 1) := by decide +kernel
theorem dX9_capped_0 : decode cX9_capped 0 = .ok (.lload_n 0, 1) := by decide +kernel
theorem dX9_capped_1 : decode cX9_capped 1 = .ok (.ldc2_w 160, 3) := by decide +kernel
theorem dX9_capped_4 : decode cX9_capped 4 = .ok (.lcmp, 1) := by decide +kernel
theorem dX9_capped_5 : decode cX9_capped 5 = .ok (.ifCond .le 9, 3) := by decide +kernel
theorem dX9_capped_8 : decode cX9_capped 8 = .ok (.ldc2_w 160, 3) := by decide +kernel
theorem dX9_capped_11 : decode cX9_capped 11 = .ok (.goto 4, 3) := by decide +kernel
theorem dX9_capped_14 : decode cX9_capped 14 = .ok (.lload_n 0, 1) := by decide +kernel
theorem dX9_capped_15 : decode cX9_capped 15 = .ok (.lreturn, 1) := by decide +kernel
set_option maxRecDepth 20000 in
theorem ggX9_layWays_X9_capped : GoodIn wsX9_layWays wsX9_capped := goodIn_r _ [10, 11] (by decide +kernel) (by decide +kernel)
set_option maxRecDepth 20000 in
theorem gX9_layWays_X9_capped : GoodIn wsX9_layWays (va_wsS RX9 162 yX9_capped wsX9_capped) := goodIn_app (goodIn_of _ (by decide +kernel)) ggX9_layWays_X9_capped
theorem dX9_layWays_0 : decode cX9_layWays 0 = .ok (.iload_n 1, 1) := by decide +kernel
theorem dX9_layWays_1 : decode cX9_layWays 1 = .ok (.iconst 1, 1) := by decide +kernel
theorem dX9_layWays_2 : decode cX9_layWays 2 = .ok (.isub, 1) := by decide +kernel
theorem dX9_layWays_3 : decode cX9_layWays 3 = .ok (.istore_n 2, 1) := by decide +kernel
theorem dX9_layWays_4 : decode cX9_layWays 4 = .ok (.iload_n 2, 1) := by decide +kernel
theorem dX9_layWays_5 : decode cX9_layWays 5 = .ok (.ifCond .lt 149, 3) := by decide +kernel
theorem dX9_layWays_8 : decode cX9_layWays 8 = .ok (.iconst 0, 1) := by decide +kernel
theorem dX9_layWays_9 : decode cX9_layWays 9 = .ok (.istore_n 3, 1) := by decide +kernel
theorem dX9_layWays_10 : decode cX9_layWays 10 = .ok (.iload_n 3, 1) := by decide +kernel
theorem dX9_layWays_11 : decode cX9_layWays 11 = .ok (.aload_n 0, 1) := by decide +kernel
theorem dX9_layWays_12 : decode cX9_layWays 12 = .ok (.getfield 153, 3) := by decide +kernel
theorem dX9_layWays_15 : decode cX9_layWays 15 = .ok (.if_icmp .ge 133, 3) := by decide +kernel
theorem dX9_layWays_18 : decode cX9_layWays 18 = .ok (.lconst 0, 1) := by decide +kernel
theorem dX9_layWays_19 : decode cX9_layWays 19 = .ok (.lstore 4, 2) := by decide +kernel
theorem dX9_layWays_21 : decode cX9_layWays 21 = .ok (.aload_n 0, 1) := by decide +kernel
theorem dX9_layWays_22 : decode cX9_layWays 22 = .ok (.getfield 49, 3) := by decide +kernel
theorem dX9_layWays_25 : decode cX9_layWays 25 = .ok (.sipush 243, 3) := by decide +kernel
theorem dX9_layWays_28 : decode cX9_layWays 28 = .ok (.iload_n 2, 1) := by decide +kernel
theorem dX9_layWays_29 : decode cX9_layWays 29 = .ok (.imul, 1) := by decide +kernel
theorem dX9_layWays_30 : decode cX9_layWays 30 = .ok (.iload_n 3, 1) := by decide +kernel
theorem dX9_layWays_31 : decode cX9_layWays 31 = .ok (.iadd, 1) := by decide +kernel
theorem dX9_layWays_32 : decode cX9_layWays 32 = .ok (.baload, 1) := by decide +kernel
theorem dX9_layWays_33 : decode cX9_layWays 33 = .ok (.ifCond .eq 95, 3) := by decide +kernel
theorem dX9_layWays_36 : decode cX9_layWays 36 = .ok (.iload_n 2, 1) := by decide +kernel
theorem dX9_layWays_37 : decode cX9_layWays 37 = .ok (.iload_n 1, 1) := by decide +kernel
theorem dX9_layWays_38 : decode cX9_layWays 38 = .ok (.iconst 1, 1) := by decide +kernel
theorem dX9_layWays_39 : decode cX9_layWays 39 = .ok (.isub, 1) := by decide +kernel
theorem dX9_layWays_40 : decode cX9_layWays 40 = .ok (.if_icmp .ne 16, 3) := by decide +kernel
theorem dX9_layWays_43 : decode cX9_layWays 43 = .ok (.aload_n 0, 1) := by decide +kernel
theorem dX9_layWays_44 : decode cX9_layWays 44 = .ok (.getfield 46, 3) := by decide +kernel
theorem dX9_layWays_47 : decode cX9_layWays 47 = .ok (.iload_n 3, 1) := by decide +kernel
theorem dX9_layWays_48 : decode cX9_layWays 48 = .ok (.baload, 1) := by decide +kernel
theorem dX9_layWays_49 : decode cX9_layWays 49 = .ok (.ifCond .eq 7, 3) := by decide +kernel
theorem dX9_layWays_52 : decode cX9_layWays 52 = .ok (.lconst 1, 1) := by decide +kernel
theorem dX9_layWays_53 : decode cX9_layWays 53 = .ok (.goto 4, 3) := by decide +kernel
theorem dX9_layWays_56 : decode cX9_layWays 56 = .ok (.lconst 0, 1) := by decide +kernel
theorem dX9_layWays_57 : decode cX9_layWays 57 = .ok (.lstore 4, 2) := by decide +kernel
theorem dX9_layWays_59 : decode cX9_layWays 59 = .ok (.iconst 0, 1) := by decide +kernel
theorem dX9_layWays_60 : decode cX9_layWays 60 = .ok (.istore 6, 2) := by decide +kernel
theorem dX9_layWays_62 : decode cX9_layWays 62 = .ok (.iload_n 2, 1) := by decide +kernel
theorem dX9_layWays_63 : decode cX9_layWays 63 = .ok (.iload_n 1, 1) := by decide +kernel
theorem dX9_layWays_64 : decode cX9_layWays 64 = .ok (.iconst 1, 1) := by decide +kernel
theorem dX9_layWays_65 : decode cX9_layWays 65 = .ok (.isub, 1) := by decide +kernel
theorem dX9_layWays_66 : decode cX9_layWays 66 = .ok (.if_icmp .ge 62, 3) := by decide +kernel
theorem dX9_layWays_69 : decode cX9_layWays 69 = .ok (.iload 6, 2) := by decide +kernel
theorem dX9_layWays_71 : decode cX9_layWays 71 = .ok (.aload_n 0, 1) := by decide +kernel
theorem dX9_layWays_72 : decode cX9_layWays 72 = .ok (.getfield 153, 3) := by decide +kernel
theorem dX9_layWays_75 : decode cX9_layWays 75 = .ok (.if_icmp .ge 53, 3) := by decide +kernel
theorem dX9_layWays_78 : decode cX9_layWays 78 = .ok (.aload_n 0, 1) := by decide +kernel
theorem dX9_layWays_79 : decode cX9_layWays 79 = .ok (.getfield 40, 3) := by decide +kernel
theorem dX9_layWays_82 : decode cX9_layWays 82 = .ok (.sipush 243, 3) := by decide +kernel
theorem dX9_layWays_85 : decode cX9_layWays 85 = .ok (.iload_n 3, 1) := by decide +kernel
theorem dX9_layWays_86 : decode cX9_layWays 86 = .ok (.imul, 1) := by decide +kernel
theorem dX9_layWays_87 : decode cX9_layWays 87 = .ok (.iload 6, 2) := by decide +kernel
theorem dX9_layWays_89 : decode cX9_layWays 89 = .ok (.iadd, 1) := by decide +kernel
theorem dX9_layWays_90 : decode cX9_layWays 90 = .ok (.baload, 1) := by decide +kernel
theorem dX9_layWays_91 : decode cX9_layWays 91 = .ok (.ifCond .eq 27, 3) := by decide +kernel
theorem dX9_layWays_94 : decode cX9_layWays 94 = .ok (.lload 4, 2) := by decide +kernel
theorem dX9_layWays_96 : decode cX9_layWays 96 = .ok (.aload_n 0, 1) := by decide +kernel
theorem dX9_layWays_97 : decode cX9_layWays 97 = .ok (.getfield 52, 3) := by decide +kernel
theorem dX9_layWays_100 : decode cX9_layWays 100 = .ok (.sipush 243, 3) := by decide +kernel
theorem dX9_layWays_103 : decode cX9_layWays 103 = .ok (.iload_n 2, 1) := by decide +kernel
theorem dX9_layWays_104 : decode cX9_layWays 104 = .ok (.iconst 1, 1) := by decide +kernel
theorem dX9_layWays_105 : decode cX9_layWays 105 = .ok (.iadd, 1) := by decide +kernel
theorem dX9_layWays_106 : decode cX9_layWays 106 = .ok (.imul, 1) := by decide +kernel
theorem dX9_layWays_107 : decode cX9_layWays 107 = .ok (.iload 6, 2) := by decide +kernel
theorem dX9_layWays_109 : decode cX9_layWays 109 = .ok (.iadd, 1) := by decide +kernel
theorem dX9_layWays_110 : decode cX9_layWays 110 = .ok (.laload, 1) := by decide +kernel
theorem dX9_layWays_111 : decode cX9_layWays 111 = .ok (.ladd, 1) := by decide +kernel
theorem dX9_layWays_112 : decode cX9_layWays 112 = .ok (.invokestatic 162, 3) := by decide +kernel
theorem dX9_layWays_115 : decode cX9_layWays 115 = .ok (.goto 5, 3) := by decide +kernel
theorem dX9_layWays_118 : decode cX9_layWays 118 = .ok (.lload 4, 2) := by decide +kernel
theorem dX9_layWays_120 : decode cX9_layWays 120 = .ok (.lstore 4, 2) := by decide +kernel
theorem dX9_layWays_122 : decode cX9_layWays 122 = .ok (.iinc 6 1, 3) := by decide +kernel
theorem dX9_layWays_125 : decode cX9_layWays 125 = .ok (.goto (-63), 3) := by decide +kernel
theorem dX9_layWays_128 : decode cX9_layWays 128 = .ok (.aload_n 0, 1) := by decide +kernel
theorem dX9_layWays_129 : decode cX9_layWays 129 = .ok (.getfield 52, 3) := by decide +kernel
theorem dX9_layWays_132 : decode cX9_layWays 132 = .ok (.sipush 243, 3) := by decide +kernel
theorem dX9_layWays_135 : decode cX9_layWays 135 = .ok (.iload_n 2, 1) := by decide +kernel
theorem dX9_layWays_136 : decode cX9_layWays 136 = .ok (.imul, 1) := by decide +kernel
theorem dX9_layWays_137 : decode cX9_layWays 137 = .ok (.iload_n 3, 1) := by decide +kernel
theorem dX9_layWays_138 : decode cX9_layWays 138 = .ok (.iadd, 1) := by decide +kernel
theorem dX9_layWays_139 : decode cX9_layWays 139 = .ok (.lload 4, 2) := by decide +kernel
theorem dX9_layWays_141 : decode cX9_layWays 141 = .ok (.lastore, 1) := by decide +kernel
theorem dX9_layWays_142 : decode cX9_layWays 142 = .ok (.iinc 3 1, 3) := by decide +kernel
theorem dX9_layWays_145 : decode cX9_layWays 145 = .ok (.goto (-135), 3) := by decide +kernel
theorem dX9_layWays_148 : decode cX9_layWays 148 = .ok (.iinc 2 (-1), 3) := by decide +kernel
theorem dX9_layWays_151 : decode cX9_layWays 151 = .ok (.goto (-147), 3) := by decide +kernel
theorem dX9_layWays_154 : decode cX9_layWays 154 = .ok (.lconst 0, 1) := by decide +kernel
theorem dX9_layWays_155 : decode cX9_layWays 155 = .ok (.lstore_n 2, 1) := by decide +kernel
theorem dX9_layWays_156 : decode cX9_layWays 156 = .ok (.iconst 0, 1) := by decide +kernel
theorem dX9_layWays_157 : decode cX9_layWays 157 = .ok (.istore 4, 2) := by decide +kernel
theorem dX9_layWays_159 : decode cX9_layWays 159 = .ok (.iload 4, 2) := by decide +kernel
theorem dX9_layWays_161 : decode cX9_layWays 161 = .ok (.aload_n 0, 1) := by decide +kernel
theorem dX9_layWays_162 : decode cX9_layWays 162 = .ok (.getfield 153, 3) := by decide +kernel
theorem dX9_layWays_165 : decode cX9_layWays 165 = .ok (.if_icmp .ge 36, 3) := by decide +kernel
theorem dX9_layWays_168 : decode cX9_layWays 168 = .ok (.aload_n 0, 1) := by decide +kernel
theorem dX9_layWays_169 : decode cX9_layWays 169 = .ok (.getfield 43, 3) := by decide +kernel
theorem dX9_layWays_172 : decode cX9_layWays 172 = .ok (.iload 4, 2) := by decide +kernel
theorem dX9_layWays_174 : decode cX9_layWays 174 = .ok (.baload, 1) := by decide +kernel
theorem dX9_layWays_175 : decode cX9_layWays 175 = .ok (.ifCond .eq 18, 3) := by decide +kernel
theorem dX9_layWays_178 : decode cX9_layWays 178 = .ok (.lload_n 2, 1) := by decide +kernel
theorem dX9_layWays_179 : decode cX9_layWays 179 = .ok (.aload_n 0, 1) := by decide +kernel
theorem dX9_layWays_180 : decode cX9_layWays 180 = .ok (.getfield 52, 3) := by decide +kernel
theorem dX9_layWays_183 : decode cX9_layWays 183 = .ok (.iload 4, 2) := by decide +kernel
theorem dX9_layWays_185 : decode cX9_layWays 185 = .ok (.laload, 1) := by decide +kernel
theorem dX9_layWays_186 : decode cX9_layWays 186 = .ok (.ladd, 1) := by decide +kernel
theorem dX9_layWays_187 : decode cX9_layWays 187 = .ok (.invokestatic 162, 3) := by decide +kernel
theorem dX9_layWays_190 : decode cX9_layWays 190 = .ok (.goto 4, 3) := by decide +kernel
theorem dX9_layWays_193 : decode cX9_layWays 193 = .ok (.lload_n 2, 1) := by decide +kernel
theorem dX9_layWays_194 : decode cX9_layWays 194 = .ok (.lstore_n 2, 1) := by decide +kernel
theorem dX9_layWays_195 : decode cX9_layWays 195 = .ok (.iinc 4 1, 3) := by decide +kernel
theorem dX9_layWays_198 : decode cX9_layWays 198 = .ok (.goto (-39), 3) := by decide +kernel
theorem dX9_layWays_201 : decode cX9_layWays 201 = .ok (.lload_n 2, 1) := by decide +kernel
theorem dX9_layWays_202 : decode cX9_layWays 202 = .ok (.lreturn, 1) := by decide +kernel
theorem dX9_allMay_0 : decode cX9_allMay 0 = .ok (.iconst 0, 1) := by decide +kernel
theorem dX9_allMay_1 : decode cX9_allMay 1 = .ok (.istore_n 2, 1) := by decide +kernel
theorem dX9_allMay_2 : decode cX9_allMay 2 = .ok (.iload_n 2, 1) := by decide +kernel
theorem dX9_allMay_3 : decode cX9_allMay 3 = .ok (.iload_n 1, 1) := by decide +kernel
theorem dX9_allMay_4 : decode cX9_allMay 4 = .ok (.if_icmp .ge 38, 3) := by decide +kernel
theorem dX9_allMay_7 : decode cX9_allMay 7 = .ok (.iconst 0, 1) := by decide +kernel
theorem dX9_allMay_8 : decode cX9_allMay 8 = .ok (.istore_n 3, 1) := by decide +kernel
theorem dX9_allMay_9 : decode cX9_allMay 9 = .ok (.iload_n 3, 1) := by decide +kernel
theorem dX9_allMay_10 : decode cX9_allMay 10 = .ok (.aload_n 0, 1) := by decide +kernel
theorem dX9_allMay_11 : decode cX9_allMay 11 = .ok (.getfield 153, 3) := by decide +kernel
theorem dX9_allMay_14 : decode cX9_allMay 14 = .ok (.if_icmp .ge 22, 3) := by decide +kernel
theorem dX9_allMay_17 : decode cX9_allMay 17 = .ok (.aload_n 0, 1) := by decide +kernel
theorem dX9_allMay_18 : decode cX9_allMay 18 = .ok (.getfield 49, 3) := by decide +kernel
theorem dX9_allMay_21 : decode cX9_allMay 21 = .ok (.sipush 243, 3) := by decide +kernel
theorem dX9_allMay_24 : decode cX9_allMay 24 = .ok (.iload_n 2, 1) := by decide +kernel
theorem dX9_allMay_25 : decode cX9_allMay 25 = .ok (.imul, 1) := by decide +kernel
theorem dX9_allMay_26 : decode cX9_allMay 26 = .ok (.iload_n 3, 1) := by decide +kernel
theorem dX9_allMay_27 : decode cX9_allMay 27 = .ok (.iadd, 1) := by decide +kernel
theorem dX9_allMay_28 : decode cX9_allMay 28 = .ok (.iconst 1, 1) := by decide +kernel
theorem dX9_allMay_29 : decode cX9_allMay 29 = .ok (.bastore, 1) := by decide +kernel
theorem dX9_allMay_30 : decode cX9_allMay 30 = .ok (.iinc 3 1, 3) := by decide +kernel
theorem dX9_allMay_33 : decode cX9_allMay 33 = .ok (.goto (-24), 3) := by decide +kernel
theorem dX9_allMay_36 : decode cX9_allMay 36 = .ok (.iinc 2 1, 3) := by decide +kernel
theorem dX9_allMay_39 : decode cX9_allMay 39 = .ok (.goto (-37), 3) := by decide +kernel
theorem dX9_allMay_42 : decode cX9_allMay 42 = .ok (.return_, 1) := by decide +kernel
set_option maxRecDepth 20000 in
theorem ggX9_countAll_X9_layFits : GoodIn wsX9_countAll wsX9_layFits := goodIn_r _ [5, 6, 7, 8, 9, 10, 11, 12, 4, 13, 14, 15, 16, 17, 18, 19, 20, 21, 22, 23, 38, 39, 40, 41, 42, 43, 44, 45, 46, 47, 48, 49, 50, 51, 52, 53, 54, 55, 56, 57, 58, 59, 60, 61, 62, 63, 64, 65, 66, 67] (by decide +kernel) (by decide +kernel)
set_option maxRecDepth 20000 in
theorem gX9_countAll_X9_layFits : GoodIn wsX9_countAll (wsV RX9 166 RX9 yX9_layFits wsX9_layFits) := goodIn_app (goodIn_of _ (by decide +kernel)) ggX9_countAll_X9_layFits
set_option maxRecDepth 20000 in
theorem ggX9_countAll_X9_allMay : GoodIn wsX9_countAll wsX9_allMay := goodIn_r _ [27, 6, 28, 38, 39, 40, 41, 42, 43, 44, 45, 46, 47, 48, 49, 50, 51, 52, 53, 54, 55, 56, 57, 58, 59, 60, 61, 62, 63, 64, 65, 66, 67] (by decide +kernel) (by decide +kernel)
set_option maxRecDepth 20000 in
theorem gX9_countAll_X9_allMay : GoodIn wsX9_countAll (wsV RX9 169 RX9 yX9_allMay wsX9_allMay) := goodIn_app (goodIn_of _ (by decide +kernel)) ggX9_countAll_X9_allMay
set_option maxRecDepth 20000 in
theorem ggX9_countAll_X9_layWays : GoodIn wsX9_countAll wsX9_layWays := goodIn_r _ [32, 6, 28, 8, 9, 33, 7, 34, 35, 4, 36, 37, 38, 39, 40, 41, 42, 43, 44, 45, 46, 47, 48, 49, 50, 51, 52, 53, 54, 55, 56, 57, 58, 59, 60, 61, 62, 63, 64, 65, 66, 67] (by decide +kernel) (by decide +kernel)
set_option maxRecDepth 20000 in
theorem gX9_countAll_X9_layWays : GoodIn wsX9_countAll (wsV RX9 172 RX9 yX9_layWays wsX9_layWays) := goodIn_app (goodIn_of _ (by decide +kernel)) ggX9_countAll_X9_layWays
theorem dX9_countAll_0 : decode cX9_countAll 0 = .ok (.aload_n 0, 1) := by decide +kernel
theorem dX9_countAll_1 : decode cX9_countAll 1 = .ok (.iload_n 2, 1) := by decide +kernel
theorem dX9_countAll_2 : decode cX9_countAll 2 = .ok (.invokevirtual 166, 3) := by decide +kernel
theorem dX9_countAll_5 : decode cX9_countAll 5 = .ok (.aload_n 0, 1) := by decide +kernel
theorem dX9_countAll_6 : decode cX9_countAll 6 = .ok (.iload_n 1, 1) := by decide +kernel
theorem dX9_countAll_7 : decode cX9_countAll 7 = .ok (.invokevirtual 169, 3) := by decide +kernel
theorem dX9_countAll_10 : decode cX9_countAll 10 = .ok (.aload_n 0, 1) := by decide +kernel
theorem dX9_countAll_11 : decode cX9_countAll 11 = .ok (.iload_n 1, 1) := by decide +kernel
theorem dX9_countAll_12 : decode cX9_countAll 12 = .ok (.invokevirtual 172, 3) := by decide +kernel
theorem dX9_countAll_15 : decode cX9_countAll 15 = .ok (.lreturn, 1) := by decide +kernel
set_option maxRecDepth 20000 in
theorem ggX9_many_X9_isSize : GoodIn wsX9_many wsX9_isSize := goodIn_r _ [4, 5, 6, 7, 3, 8] (by decide +kernel) (by decide +kernel)
set_option maxRecDepth 20000 in
theorem gX9_many_X9_isSize : GoodIn wsX9_many (va_wsS RX9 116 yX9_isSize wsX9_isSize) := goodIn_app (goodIn_of _ (by decide +kernel)) ggX9_many_X9_isSize
set_option maxRecDepth 20000 in
theorem ggX9_many_X9_countAll : GoodIn wsX9_many wsX9_countAll := goodIn_r _ [12, 13, 14, 15, 3, 16, 17, 18, 19, 20, 21, 22, 23, 24, 25, 26, 27, 28, 29, 30, 31, 32, 33, 34, 35, 36, 37, 38, 39, 40, 41, 42, 43, 44, 45, 46, 47, 48, 49, 50, 51, 52, 53, 54, 55, 56, 57, 58, 59, 60, 61, 62, 63, 64, 65, 66, 67, 68, 69, 70, 71, 72, 73, 74, 75, 76, 77, 78] (by decide +kernel) (by decide +kernel)
set_option maxRecDepth 20000 in
theorem gX9_many_X9_countAll : GoodIn wsX9_many (wsV RX9 176 RX9 yX9_countAll wsX9_countAll) := goodIn_app (goodIn_of _ (by decide +kernel)) ggX9_many_X9_countAll
theorem dX9_many_0 : decode cX9_many 0 = .ok (.iload_n 1, 1) := by decide +kernel
theorem dX9_many_1 : decode cX9_many 1 = .ok (.iload_n 2, 1) := by decide +kernel
theorem dX9_many_2 : decode cX9_many 2 = .ok (.invokestatic 116, 3) := by decide +kernel
theorem dX9_many_5 : decode cX9_many 5 = .ok (.ifCond .eq 13, 3) := by decide +kernel
theorem dX9_many_8 : decode cX9_many 8 = .ok (.aload_n 0, 1) := by decide +kernel
theorem dX9_many_9 : decode cX9_many 9 = .ok (.iload_n 1, 1) := by decide +kernel
theorem dX9_many_10 : decode cX9_many 10 = .ok (.iload_n 2, 1) := by decide +kernel
theorem dX9_many_11 : decode cX9_many 11 = .ok (.invokevirtual 176, 3) := by decide +kernel
theorem dX9_many_14 : decode cX9_many 14 = .ok (.l2i, 1) := by decide +kernel
theorem dX9_many_15 : decode cX9_many 15 = .ok (.goto 5, 3) := by decide +kernel
theorem dX9_many_18 : decode cX9_many 18 = .ok (.bipush (-3), 2) := by decide +kernel
theorem dX9_many_20 : decode cX9_many 20 = .ok (.ireturn, 1) := by decide +kernel
theorem dX9_layFound_0 : decode cX9_layFound 0 = .ok (.lload_n 2, 1) := by decide +kernel
theorem dX9_layFound_1 : decode cX9_layFound 1 = .ok (.lstore 4, 2) := by decide +kernel
theorem dX9_layFound_3 : decode cX9_layFound 3 = .ok (.iconst 0, 1) := by decide +kernel
theorem dX9_layFound_4 : decode cX9_layFound 4 = .ok (.istore 6, 2) := by decide +kernel
theorem dX9_layFound_6 : decode cX9_layFound 6 = .ok (.iload 6, 2) := by decide +kernel
theorem dX9_layFound_8 : decode cX9_layFound 8 = .ok (.iload_n 1, 1) := by decide +kernel
theorem dX9_layFound_9 : decode cX9_layFound 9 = .ok (.if_icmp .ge 143, 3) := by decide +kernel
theorem dX9_layFound_12 : decode cX9_layFound 12 = .ok (.iconst 0, 1) := by decide +kernel
theorem dX9_layFound_13 : decode cX9_layFound 13 = .ok (.istore 7, 2) := by decide +kernel
theorem dX9_layFound_15 : decode cX9_layFound 15 = .ok (.iconst 0, 1) := by decide +kernel
theorem dX9_layFound_16 : decode cX9_layFound 16 = .ok (.istore 8, 2) := by decide +kernel
theorem dX9_layFound_18 : decode cX9_layFound 18 = .ok (.iload 8, 2) := by decide +kernel
theorem dX9_layFound_20 : decode cX9_layFound 20 = .ok (.ifCond .ne 117, 3) := by decide +kernel
theorem dX9_layFound_23 : decode cX9_layFound 23 = .ok (.iload 6, 2) := by decide +kernel
theorem dX9_layFound_25 : decode cX9_layFound 25 = .ok (.ifCond .ne 13, 3) := by decide +kernel
theorem dX9_layFound_28 : decode cX9_layFound 28 = .ok (.aload_n 0, 1) := by decide +kernel
theorem dX9_layFound_29 : decode cX9_layFound 29 = .ok (.getfield 43, 3) := by decide +kernel
theorem dX9_layFound_32 : decode cX9_layFound 32 = .ok (.iload 7, 2) := by decide +kernel
theorem dX9_layFound_34 : decode cX9_layFound 34 = .ok (.baload, 1) := by decide +kernel
theorem dX9_layFound_35 : decode cX9_layFound 35 = .ok (.goto 24, 3) := by decide +kernel
theorem dX9_layFound_38 : decode cX9_layFound 38 = .ok (.aload_n 0, 1) := by decide +kernel
theorem dX9_layFound_39 : decode cX9_layFound 39 = .ok (.getfield 40, 3) := by decide +kernel
theorem dX9_layFound_42 : decode cX9_layFound 42 = .ok (.sipush 243, 3) := by decide +kernel
theorem dX9_layFound_45 : decode cX9_layFound 45 = .ok (.aload_n 0, 1) := by decide +kernel
theorem dX9_layFound_46 : decode cX9_layFound 46 = .ok (.getfield 56, 3) := by decide +kernel
theorem dX9_layFound_49 : decode cX9_layFound 49 = .ok (.iload 6, 2) := by decide +kernel
theorem dX9_layFound_51 : decode cX9_layFound 51 = .ok (.iconst 1, 1) := by decide +kernel
theorem dX9_layFound_52 : decode cX9_layFound 52 = .ok (.isub, 1) := by decide +kernel
theorem dX9_layFound_53 : decode cX9_layFound 53 = .ok (.iaload, 1) := by decide +kernel
theorem dX9_layFound_54 : decode cX9_layFound 54 = .ok (.imul, 1) := by decide +kernel
theorem dX9_layFound_55 : decode cX9_layFound 55 = .ok (.iload 7, 2) := by decide +kernel
theorem dX9_layFound_57 : decode cX9_layFound 57 = .ok (.iadd, 1) := by decide +kernel
theorem dX9_layFound_58 : decode cX9_layFound 58 = .ok (.baload, 1) := by decide +kernel
theorem dX9_layFound_59 : decode cX9_layFound 59 = .ok (.istore 9, 2) := by decide +kernel
theorem dX9_layFound_61 : decode cX9_layFound 61 = .ok (.iload 9, 2) := by decide +kernel
theorem dX9_layFound_63 : decode cX9_layFound 63 = .ok (.ifCond .eq 20, 3) := by decide +kernel
theorem dX9_layFound_66 : decode cX9_layFound 66 = .ok (.aload_n 0, 1) := by decide +kernel
theorem dX9_layFound_67 : decode cX9_layFound 67 = .ok (.getfield 52, 3) := by decide +kernel
theorem dX9_layFound_70 : decode cX9_layFound 70 = .ok (.sipush 243, 3) := by decide +kernel
theorem dX9_layFound_73 : decode cX9_layFound 73 = .ok (.iload 6, 2) := by decide +kernel
theorem dX9_layFound_75 : decode cX9_layFound 75 = .ok (.imul, 1) := by decide +kernel
theorem dX9_layFound_76 : decode cX9_layFound 76 = .ok (.iload 7, 2) := by decide +kernel
theorem dX9_layFound_78 : decode cX9_layFound 78 = .ok (.iadd, 1) := by decide +kernel
theorem dX9_layFound_79 : decode cX9_layFound 79 = .ok (.laload, 1) := by decide +kernel
theorem dX9_layFound_80 : decode cX9_layFound 80 = .ok (.goto 4, 3) := by decide +kernel
theorem dX9_layFound_83 : decode cX9_layFound 83 = .ok (.lconst 0, 1) := by decide +kernel
theorem dX9_layFound_84 : decode cX9_layFound 84 = .ok (.lstore 10, 2) := by decide +kernel
theorem dX9_layFound_86 : decode cX9_layFound 86 = .ok (.lload 4, 2) := by decide +kernel
theorem dX9_layFound_88 : decode cX9_layFound 88 = .ok (.lload 10, 2) := by decide +kernel
theorem dX9_layFound_90 : decode cX9_layFound 90 = .ok (.lcmp, 1) := by decide +kernel
theorem dX9_layFound_91 : decode cX9_layFound 91 = .ok (.ifCond .ge 7, 3) := by decide +kernel
theorem dX9_layFound_94 : decode cX9_layFound 94 = .ok (.iconst 1, 1) := by decide +kernel
theorem dX9_layFound_95 : decode cX9_layFound 95 = .ok (.goto 4, 3) := by decide +kernel
theorem dX9_layFound_98 : decode cX9_layFound 98 = .ok (.iconst 0, 1) := by decide +kernel
theorem dX9_layFound_99 : decode cX9_layFound 99 = .ok (.istore 8, 2) := by decide +kernel
theorem dX9_layFound_101 : decode cX9_layFound 101 = .ok (.iload 8, 2) := by decide +kernel
theorem dX9_layFound_103 : decode cX9_layFound 103 = .ok (.ifCond .eq 8, 3) := by decide +kernel
theorem dX9_layFound_106 : decode cX9_layFound 106 = .ok (.lload 4, 2) := by decide +kernel
theorem dX9_layFound_108 : decode cX9_layFound 108 = .ok (.goto 8, 3) := by decide +kernel
theorem dX9_layFound_111 : decode cX9_layFound 111 = .ok (.lload 4, 2) := by decide +kernel
theorem dX9_layFound_113 : decode cX9_layFound 113 = .ok (.lload 10, 2) := by decide +kernel
theorem dX9_layFound_115 : decode cX9_layFound 115 = .ok (.lsub, 1) := by decide +kernel
theorem dX9_layFound_116 : decode cX9_layFound 116 = .ok (.lstore 4, 2) := by decide +kernel
theorem dX9_layFound_118 : decode cX9_layFound 118 = .ok (.iload 8, 2) := by decide +kernel
theorem dX9_layFound_120 : decode cX9_layFound 120 = .ok (.ifCond .eq 8, 3) := by decide +kernel
theorem dX9_layFound_123 : decode cX9_layFound 123 = .ok (.iload 7, 2) := by decide +kernel
theorem dX9_layFound_125 : decode cX9_layFound 125 = .ok (.goto 7, 3) := by decide +kernel
theorem dX9_layFound_128 : decode cX9_layFound 128 = .ok (.iload 7, 2) := by decide +kernel
theorem dX9_layFound_130 : decode cX9_layFound 130 = .ok (.iconst 1, 1) := by decide +kernel
theorem dX9_layFound_131 : decode cX9_layFound 131 = .ok (.iadd, 1) := by decide +kernel
theorem dX9_layFound_132 : decode cX9_layFound 132 = .ok (.istore 7, 2) := by decide +kernel
theorem dX9_layFound_134 : decode cX9_layFound 134 = .ok (.goto (-116), 3) := by decide +kernel
theorem dX9_layFound_137 : decode cX9_layFound 137 = .ok (.aload_n 0, 1) := by decide +kernel
theorem dX9_layFound_138 : decode cX9_layFound 138 = .ok (.getfield 56, 3) := by decide +kernel
theorem dX9_layFound_141 : decode cX9_layFound 141 = .ok (.iload 6, 2) := by decide +kernel
theorem dX9_layFound_143 : decode cX9_layFound 143 = .ok (.iload 7, 2) := by decide +kernel
theorem dX9_layFound_145 : decode cX9_layFound 145 = .ok (.iastore, 1) := by decide +kernel
theorem dX9_layFound_146 : decode cX9_layFound 146 = .ok (.iinc 6 1, 3) := by decide +kernel
theorem dX9_layFound_149 : decode cX9_layFound 149 = .ok (.goto (-143), 3) := by decide +kernel
theorem dX9_layFound_152 : decode cX9_layFound 152 = .ok (.return_, 1) := by decide +kernel
set_option maxRecDepth 20000 in
theorem ggX9_picture_X9_isSize : GoodIn wsX9_picture wsX9_isSize := goodIn_r _ [6, 7, 8, 9, 5, 10] (by decide +kernel) (by decide +kernel)
set_option maxRecDepth 20000 in
theorem gX9_picture_X9_isSize : GoodIn wsX9_picture (va_wsS RX9 116 yX9_isSize wsX9_isSize) := goodIn_app (goodIn_of _ (by decide +kernel)) ggX9_picture_X9_isSize
set_option maxRecDepth 20000 in
theorem ggX9_picture_X9_in : GoodIn wsX9_picture wsX9_in := goodIn_r _ [10] (by decide +kernel) (by decide +kernel)
set_option maxRecDepth 20000 in
theorem gX9_picture_X9_in : GoodIn wsX9_picture (va_wsS RX9 95 yX9_in wsX9_in) := goodIn_app (goodIn_of _ (by decide +kernel)) ggX9_picture_X9_in
set_option maxRecDepth 20000 in
theorem ggX9_picture_X9_countAll : GoodIn wsX9_picture wsX9_countAll := goodIn_r _ [14, 15, 16, 17, 5, 18, 19, 20, 21, 22, 23, 24, 25, 26, 27, 28, 29, 30, 31, 32, 33, 34, 35, 36, 37, 38, 39, 40, 41, 42, 43, 44, 45, 46, 47, 48, 49, 50, 55, 56, 57, 58, 59, 60, 61, 62, 63, 64, 65, 66, 67, 68, 69, 70, 71, 72, 73, 74, 75, 76, 77, 78, 79, 80, 81, 82, 83, 84] (by decide +kernel) (by decide +kernel)
set_option maxRecDepth 20000 in
theorem gX9_picture_X9_countAll : GoodIn wsX9_picture (wsV RX9 176 RX9 yX9_countAll wsX9_countAll) := goodIn_app (goodIn_of _ (by decide +kernel)) ggX9_picture_X9_countAll
set_option maxRecDepth 20000 in
theorem ggX9_picture_X9_layFound : GoodIn wsX9_picture wsX9_layFound := goodIn_r _ [54, 20, 22, 2, 46, 55, 56, 57, 58, 59, 60, 61, 62, 63, 64, 65, 66, 67, 68, 69, 70, 71, 72, 73, 74, 75, 76, 77, 78, 79, 80, 81, 82, 83, 84] (by decide +kernel) (by decide +kernel)
set_option maxRecDepth 20000 in
theorem gX9_picture_X9_layFound : GoodIn wsX9_picture (wsV RX9 182 RX9 yX9_layFound wsX9_layFound) := goodIn_app (goodIn_of _ (by decide +kernel)) ggX9_picture_X9_layFound
set_option maxRecDepth 20000 in
theorem ggX9_picture_X9_cellOf : GoodIn wsX9_picture wsX9_cellOf := goodIn_r _ [36, 27, 55, 56, 57, 58, 59, 60, 61, 62, 63, 64, 65, 66, 67, 68, 69, 70, 71, 72, 73, 74, 75, 76, 77, 78, 79, 80, 81, 82, 83, 84] (by decide +kernel) (by decide +kernel)
set_option maxRecDepth 20000 in
theorem gX9_picture_X9_cellOf : GoodIn wsX9_picture (wsV RX9 146 RX9 yX9_cellOf wsX9_cellOf) := goodIn_app (goodIn_of _ (by decide +kernel)) ggX9_picture_X9_cellOf
theorem dX9_picture_0 : decode cX9_picture 0 = .ok (.iload_n 1, 1) := by decide +kernel
theorem dX9_picture_1 : decode cX9_picture 1 = .ok (.iload_n 2, 1) := by decide +kernel
theorem dX9_picture_2 : decode cX9_picture 2 = .ok (.invokestatic 116, 3) := by decide +kernel
theorem dX9_picture_5 : decode cX9_picture 5 = .ok (.ifCond .eq 31, 3) := by decide +kernel
theorem dX9_picture_8 : decode cX9_picture 8 = .ok (.iload_n 3, 1) := by decide +kernel
theorem dX9_picture_9 : decode cX9_picture 9 = .ok (.i2l, 1) := by decide +kernel
theorem dX9_picture_10 : decode cX9_picture 10 = .ok (.lconst 0, 1) := by decide +kernel
theorem dX9_picture_11 : decode cX9_picture 11 = .ok (.ldc2_w 180, 3) := by decide +kernel
theorem dX9_picture_14 : decode cX9_picture 14 = .ok (.invokestatic 95, 3) := by decide +kernel
theorem dX9_picture_17 : decode cX9_picture 17 = .ok (.ifCond .eq 19, 3) := by decide +kernel
theorem dX9_picture_20 : decode cX9_picture 20 = .ok (.iload 4, 2) := by decide +kernel
theorem dX9_picture_22 : decode cX9_picture 22 = .ok (.i2l, 1) := by decide +kernel
theorem dX9_picture_23 : decode cX9_picture 23 = .ok (.lconst 0, 1) := by decide +kernel
theorem dX9_picture_24 : decode cX9_picture 24 = .ok (.iload_n 1, 1) := by decide +kernel
theorem dX9_picture_25 : decode cX9_picture 25 = .ok (.iload_n 2, 1) := by decide +kernel
theorem dX9_picture_26 : decode cX9_picture 26 = .ok (.imul, 1) := by decide +kernel
theorem dX9_picture_27 : decode cX9_picture 27 = .ok (.iconst 1, 1) := by decide +kernel
theorem dX9_picture_28 : decode cX9_picture 28 = .ok (.isub, 1) := by decide +kernel
theorem dX9_picture_29 : decode cX9_picture 29 = .ok (.i2l, 1) := by decide +kernel
theorem dX9_picture_30 : decode cX9_picture 30 = .ok (.invokestatic 95, 3) := by decide +kernel
theorem dX9_picture_33 : decode cX9_picture 33 = .ok (.ifCond .ne 6, 3) := by decide +kernel
theorem dX9_picture_36 : decode cX9_picture 36 = .ok (.bipush (-3), 2) := by decide +kernel
theorem dX9_picture_38 : decode cX9_picture 38 = .ok (.ireturn, 1) := by decide +kernel
theorem dX9_picture_39 : decode cX9_picture 39 = .ok (.aload_n 0, 1) := by decide +kernel
theorem dX9_picture_40 : decode cX9_picture 40 = .ok (.iload_n 1, 1) := by decide +kernel
theorem dX9_picture_41 : decode cX9_picture 41 = .ok (.iload_n 2, 1) := by decide +kernel
theorem dX9_picture_42 : decode cX9_picture 42 = .ok (.invokevirtual 176, 3) := by decide +kernel
theorem dX9_picture_45 : decode cX9_picture 45 = .ok (.iload_n 3, 1) := by decide +kernel
theorem dX9_picture_46 : decode cX9_picture 46 = .ok (.i2l, 1) := by decide +kernel
theorem dX9_picture_47 : decode cX9_picture 47 = .ok (.lcmp, 1) := by decide +kernel
theorem dX9_picture_48 : decode cX9_picture 48 = .ok (.ifCond .gt 5, 3) := by decide +kernel
theorem dX9_picture_51 : decode cX9_picture 51 = .ok (.iconst (-1), 1) := by decide +kernel
theorem dX9_picture_52 : decode cX9_picture 52 = .ok (.ireturn, 1) := by decide +kernel
theorem dX9_picture_53 : decode cX9_picture 53 = .ok (.aload_n 0, 1) := by decide +kernel
theorem dX9_picture_54 : decode cX9_picture 54 = .ok (.iload_n 1, 1) := by decide +kernel
theorem dX9_picture_55 : decode cX9_picture 55 = .ok (.iload_n 3, 1) := by decide +kernel
theorem dX9_picture_56 : decode cX9_picture 56 = .ok (.i2l, 1) := by decide +kernel
theorem dX9_picture_57 : decode cX9_picture 57 = .ok (.invokevirtual 182, 3) := by decide +kernel
theorem dX9_picture_60 : decode cX9_picture 60 = .ok (.aload_n 0, 1) := by decide +kernel
theorem dX9_picture_61 : decode cX9_picture 61 = .ok (.aload_n 0, 1) := by decide +kernel
theorem dX9_picture_62 : decode cX9_picture 62 = .ok (.getfield 56, 3) := by decide +kernel
theorem dX9_picture_65 : decode cX9_picture 65 = .ok (.iload 4, 2) := by decide +kernel
theorem dX9_picture_67 : decode cX9_picture 67 = .ok (.iload_n 2, 1) := by decide +kernel
theorem dX9_picture_68 : decode cX9_picture 68 = .ok (.idiv, 1) := by decide +kernel
theorem dX9_picture_69 : decode cX9_picture 69 = .ok (.iaload, 1) := by decide +kernel
theorem dX9_picture_70 : decode cX9_picture 70 = .ok (.iload 4, 2) := by decide +kernel
theorem dX9_picture_72 : decode cX9_picture 72 = .ok (.iload_n 2, 1) := by decide +kernel
theorem dX9_picture_73 : decode cX9_picture 73 = .ok (.irem, 1) := by decide +kernel
theorem dX9_picture_74 : decode cX9_picture 74 = .ok (.iload_n 2, 1) := by decide +kernel
theorem dX9_picture_75 : decode cX9_picture 75 = .ok (.invokevirtual 146, 3) := by decide +kernel
theorem dX9_picture_78 : decode cX9_picture 78 = .ok (.ireturn, 1) := by decide +kernel
theorem dX9_deskRow_0 : decode cX9_deskRow 0 = .ok (.iconst 0, 1) := by decide +kernel
theorem dX9_deskRow_1 : decode cX9_deskRow 1 = .ok (.istore_n 2, 1) := by decide +kernel
theorem dX9_deskRow_2 : decode cX9_deskRow 2 = .ok (.iconst 0, 1) := by decide +kernel
theorem dX9_deskRow_3 : decode cX9_deskRow 3 = .ok (.istore_n 3, 1) := by decide +kernel
theorem dX9_deskRow_4 : decode cX9_deskRow 4 = .ok (.iload_n 3, 1) := by decide +kernel
theorem dX9_deskRow_5 : decode cX9_deskRow 5 = .ok (.aload_n 0, 1) := by decide +kernel
theorem dX9_deskRow_6 : decode cX9_deskRow 6 = .ok (.getfield 20, 3) := by decide +kernel
theorem dX9_deskRow_9 : decode cX9_deskRow 9 = .ok (.if_icmp .ge 30, 3) := by decide +kernel
theorem dX9_deskRow_12 : decode cX9_deskRow 12 = .ok (.aload_n 0, 1) := by decide +kernel
theorem dX9_deskRow_13 : decode cX9_deskRow 13 = .ok (.getfield 7, 3) := by decide +kernel
theorem dX9_deskRow_16 : decode cX9_deskRow 16 = .ok (.iload_n 2, 1) := by decide +kernel
theorem dX9_deskRow_17 : decode cX9_deskRow 17 = .ok (.imul, 1) := by decide +kernel
theorem dX9_deskRow_18 : decode cX9_deskRow 18 = .ok (.aload_n 0, 1) := by decide +kernel
theorem dX9_deskRow_19 : decode cX9_deskRow 19 = .ok (.getfield 23, 3) := by decide +kernel
theorem dX9_deskRow_22 : decode cX9_deskRow 22 = .ok (.aload_n 0, 1) := by decide +kernel
theorem dX9_deskRow_23 : decode cX9_deskRow 23 = .ok (.getfield 20, 3) := by decide +kernel
theorem dX9_deskRow_26 : decode cX9_deskRow 26 = .ok (.iload_n 1, 1) := by decide +kernel
theorem dX9_deskRow_27 : decode cX9_deskRow 27 = .ok (.imul, 1) := by decide +kernel
theorem dX9_deskRow_28 : decode cX9_deskRow 28 = .ok (.iload_n 3, 1) := by decide +kernel
theorem dX9_deskRow_29 : decode cX9_deskRow 29 = .ok (.iadd, 1) := by decide +kernel
theorem dX9_deskRow_30 : decode cX9_deskRow 30 = .ok (.iaload, 1) := by decide +kernel
theorem dX9_deskRow_31 : decode cX9_deskRow 31 = .ok (.iadd, 1) := by decide +kernel
theorem dX9_deskRow_32 : decode cX9_deskRow 32 = .ok (.istore_n 2, 1) := by decide +kernel
theorem dX9_deskRow_33 : decode cX9_deskRow 33 = .ok (.iinc 3 1, 3) := by decide +kernel
theorem dX9_deskRow_36 : decode cX9_deskRow 36 = .ok (.goto (-32), 3) := by decide +kernel
theorem dX9_deskRow_39 : decode cX9_deskRow 39 = .ok (.iload_n 2, 1) := by decide +kernel
theorem dX9_deskRow_40 : decode cX9_deskRow 40 = .ok (.ireturn, 1) := by decide +kernel
set_option maxRecDepth 20000 in
theorem ggX9_rank_X9_gaps : GoodIn wsX9_rank wsX9_gaps := goodIn_r _ [10, 1, 2, 11, 68, 69, 70, 71, 72, 73, 74, 75, 76, 77, 78, 79, 80, 81, 82, 83, 84, 85, 86, 87, 88, 89, 90, 91, 92, 93, 94, 95, 96, 97] (by decide +kernel) (by decide +kernel)
set_option maxRecDepth 20000 in
theorem gX9_rank_X9_gaps : GoodIn wsX9_rank (wsV RX9 129 RX9 yX9_gaps wsX9_gaps) := goodIn_app (goodIn_of _ (by decide +kernel)) ggX9_rank_X9_gaps
set_option maxRecDepth 20000 in
theorem ggX9_rank_X9_wrongNow : GoodIn wsX9_rank wsX9_wrongNow := goodIn_r _ [15, 1, 2, 16, 17, 18, 19, 9, 20, 21, 22, 23, 24, 11, 25, 26, 27, 68, 69, 70, 71, 72, 73, 74, 75, 76, 77, 78, 79, 80, 81, 82, 83, 84, 85, 86, 87, 88, 89, 90, 91, 92, 93, 94, 95, 96, 97] (by decide +kernel) (by decide +kernel)
set_option maxRecDepth 20000 in
theorem gX9_rank_X9_wrongNow : GoodIn wsX9_rank (wsV RX9 137 RX9 yX9_wrongNow wsX9_wrongNow) := goodIn_app (goodIn_of _ (by decide +kernel)) ggX9_rank_X9_wrongNow
set_option maxRecDepth 20000 in
theorem ggX9_rank_X9_countAll : GoodIn wsX9_rank wsX9_countAll := goodIn_r _ [31, 32, 33, 34, 9, 35, 36, 3, 37, 4, 38, 39, 40, 41, 42, 43, 44, 45, 46, 16, 47, 48, 49, 50, 51, 52, 53, 54, 55, 56, 57, 58, 59, 5, 60, 61, 62, 63, 68, 69, 70, 71, 72, 73, 74, 75, 76, 77, 78, 79, 80, 81, 82, 83, 84, 85, 86, 87, 88, 89, 90, 91, 92, 93, 94, 95, 96, 97] (by decide +kernel) (by decide +kernel)
set_option maxRecDepth 20000 in
theorem gX9_rank_X9_countAll : GoodIn wsX9_rank (wsV RX9 176 RX9 yX9_countAll wsX9_countAll) := goodIn_app (goodIn_of _ (by decide +kernel)) ggX9_rank_X9_countAll
set_option maxRecDepth 20000 in
theorem ggX9_rank_X9_deskRow : GoodIn wsX9_rank wsX9_deskRow := goodIn_r _ [67, 2, 42, 11, 68, 69, 70, 71, 72, 73, 74, 75, 76, 77, 78, 79, 80, 81, 82, 83, 84, 85, 86, 87, 88, 89, 90, 91, 92, 93, 94, 95, 96, 97] (by decide +kernel) (by decide +kernel)
set_option maxRecDepth 20000 in
theorem gX9_rank_X9_deskRow : GoodIn wsX9_rank (wsV RX9 186 RX9 yX9_deskRow wsX9_deskRow) := goodIn_app (goodIn_of _ (by decide +kernel)) ggX9_rank_X9_deskRow
set_option maxRecDepth 20000 in
theorem ggX9_rank_X9_capped : GoodIn wsX9_rank wsX9_capped := goodIn_r _ [62, 63] (by decide +kernel) (by decide +kernel)
set_option maxRecDepth 20000 in
theorem gX9_rank_X9_capped : GoodIn wsX9_rank (va_wsS RX9 162 yX9_capped wsX9_capped) := goodIn_app (goodIn_of _ (by decide +kernel)) ggX9_rank_X9_capped
theorem dX9_rank_0 : decode cX9_rank 0 = .ok (.aload_n 0, 1) := by decide +kernel
theorem dX9_rank_1 : decode cX9_rank 1 = .ok (.invokevirtual 129, 3) := by decide +kernel
theorem dX9_rank_4 : decode cX9_rank 4 = .ok (.ifCond .le 6, 3) := by decide +kernel
theorem dX9_rank_7 : decode cX9_rank 7 = .ok (.bipush (-4), 2) := by decide +kernel
theorem dX9_rank_9 : decode cX9_rank 9 = .ok (.ireturn, 1) := by decide +kernel
theorem dX9_rank_10 : decode cX9_rank 10 = .ok (.aload_n 0, 1) := by decide +kernel
theorem dX9_rank_11 : decode cX9_rank 11 = .ok (.invokevirtual 137, 3) := by decide +kernel
theorem dX9_rank_14 : decode cX9_rank 14 = .ok (.iconst (-1), 1) := by decide +kernel
theorem dX9_rank_15 : decode cX9_rank 15 = .ok (.if_icmp .eq 5, 3) := by decide +kernel
theorem dX9_rank_18 : decode cX9_rank 18 = .ok (.iconst (-1), 1) := by decide +kernel
theorem dX9_rank_19 : decode cX9_rank 19 = .ok (.ireturn, 1) := by decide +kernel
theorem dX9_rank_20 : decode cX9_rank 20 = .ok (.aload_n 0, 1) := by decide +kernel
theorem dX9_rank_21 : decode cX9_rank 21 = .ok (.aload_n 0, 1) := by decide +kernel
theorem dX9_rank_22 : decode cX9_rank 22 = .ok (.getfield 17, 3) := by decide +kernel
theorem dX9_rank_25 : decode cX9_rank 25 = .ok (.aload_n 0, 1) := by decide +kernel
theorem dX9_rank_26 : decode cX9_rank 26 = .ok (.getfield 20, 3) := by decide +kernel
theorem dX9_rank_29 : decode cX9_rank 29 = .ok (.invokevirtual 176, 3) := by decide +kernel
theorem dX9_rank_32 : decode cX9_rank 32 = .ok (.pop2, 1) := by decide +kernel
theorem dX9_rank_33 : decode cX9_rank 33 = .ok (.lconst 0, 1) := by decide +kernel
theorem dX9_rank_34 : decode cX9_rank 34 = .ok (.lstore_n 1, 1) := by decide +kernel
theorem dX9_rank_35 : decode cX9_rank 35 = .ok (.iconst 0, 1) := by decide +kernel
theorem dX9_rank_36 : decode cX9_rank 36 = .ok (.istore_n 3, 1) := by decide +kernel
theorem dX9_rank_37 : decode cX9_rank 37 = .ok (.iload_n 3, 1) := by decide +kernel
theorem dX9_rank_38 : decode cX9_rank 38 = .ok (.aload_n 0, 1) := by decide +kernel
theorem dX9_rank_39 : decode cX9_rank 39 = .ok (.getfield 17, 3) := by decide +kernel
theorem dX9_rank_42 : decode cX9_rank 42 = .ok (.if_icmp .ge 88, 3) := by decide +kernel
theorem dX9_rank_45 : decode cX9_rank 45 = .ok (.iconst 0, 1) := by decide +kernel
theorem dX9_rank_46 : decode cX9_rank 46 = .ok (.istore 4, 2) := by decide +kernel
theorem dX9_rank_48 : decode cX9_rank 48 = .ok (.iload 4, 2) := by decide +kernel
theorem dX9_rank_50 : decode cX9_rank 50 = .ok (.aload_n 0, 1) := by decide +kernel
theorem dX9_rank_51 : decode cX9_rank 51 = .ok (.iload_n 3, 1) := by decide +kernel
theorem dX9_rank_52 : decode cX9_rank 52 = .ok (.invokevirtual 186, 3) := by decide +kernel
theorem dX9_rank_55 : decode cX9_rank 55 = .ok (.if_icmp .ge 69, 3) := by decide +kernel
theorem dX9_rank_58 : decode cX9_rank 58 = .ok (.iload_n 3, 1) := by decide +kernel
theorem dX9_rank_59 : decode cX9_rank 59 = .ok (.ifCond .ne 13, 3) := by decide +kernel
theorem dX9_rank_62 : decode cX9_rank 62 = .ok (.aload_n 0, 1) := by decide +kernel
theorem dX9_rank_63 : decode cX9_rank 63 = .ok (.getfield 43, 3) := by decide +kernel
theorem dX9_rank_66 : decode cX9_rank 66 = .ok (.iload 4, 2) := by decide +kernel
theorem dX9_rank_68 : decode cX9_rank 68 = .ok (.baload, 1) := by decide +kernel
theorem dX9_rank_69 : decode cX9_rank 69 = .ok (.goto 22, 3) := by decide +kernel
theorem dX9_rank_72 : decode cX9_rank 72 = .ok (.aload_n 0, 1) := by decide +kernel
theorem dX9_rank_73 : decode cX9_rank 73 = .ok (.getfield 40, 3) := by decide +kernel
theorem dX9_rank_76 : decode cX9_rank 76 = .ok (.sipush 243, 3) := by decide +kernel
theorem dX9_rank_79 : decode cX9_rank 79 = .ok (.aload_n 0, 1) := by decide +kernel
theorem dX9_rank_80 : decode cX9_rank 80 = .ok (.iload_n 3, 1) := by decide +kernel
theorem dX9_rank_81 : decode cX9_rank 81 = .ok (.iconst 1, 1) := by decide +kernel
theorem dX9_rank_82 : decode cX9_rank 82 = .ok (.isub, 1) := by decide +kernel
theorem dX9_rank_83 : decode cX9_rank 83 = .ok (.invokevirtual 186, 3) := by decide +kernel
theorem dX9_rank_86 : decode cX9_rank 86 = .ok (.imul, 1) := by decide +kernel
theorem dX9_rank_87 : decode cX9_rank 87 = .ok (.iload 4, 2) := by decide +kernel
theorem dX9_rank_89 : decode cX9_rank 89 = .ok (.iadd, 1) := by decide +kernel
theorem dX9_rank_90 : decode cX9_rank 90 = .ok (.baload, 1) := by decide +kernel
theorem dX9_rank_91 : decode cX9_rank 91 = .ok (.istore 5, 2) := by decide +kernel
theorem dX9_rank_93 : decode cX9_rank 93 = .ok (.lload_n 1, 1) := by decide +kernel
theorem dX9_rank_94 : decode cX9_rank 94 = .ok (.iload 5, 2) := by decide +kernel
theorem dX9_rank_96 : decode cX9_rank 96 = .ok (.ifCond .eq 19, 3) := by decide +kernel
theorem dX9_rank_99 : decode cX9_rank 99 = .ok (.aload_n 0, 1) := by decide +kernel
theorem dX9_rank_100 : decode cX9_rank 100 = .ok (.getfield 52, 3) := by decide +kernel
theorem dX9_rank_103 : decode cX9_rank 103 = .ok (.sipush 243, 3) := by decide +kernel
theorem dX9_rank_106 : decode cX9_rank 106 = .ok (.iload_n 3, 1) := by decide +kernel
theorem dX9_rank_107 : decode cX9_rank 107 = .ok (.imul, 1) := by decide +kernel
theorem dX9_rank_108 : decode cX9_rank 108 = .ok (.iload 4, 2) := by decide +kernel
theorem dX9_rank_110 : decode cX9_rank 110 = .ok (.iadd, 1) := by decide +kernel
theorem dX9_rank_111 : decode cX9_rank 111 = .ok (.laload, 1) := by decide +kernel
theorem dX9_rank_112 : decode cX9_rank 112 = .ok (.goto 4, 3) := by decide +kernel
theorem dX9_rank_115 : decode cX9_rank 115 = .ok (.lconst 0, 1) := by decide +kernel
theorem dX9_rank_116 : decode cX9_rank 116 = .ok (.ladd, 1) := by decide +kernel
theorem dX9_rank_117 : decode cX9_rank 117 = .ok (.lstore_n 1, 1) := by decide +kernel
theorem dX9_rank_118 : decode cX9_rank 118 = .ok (.iinc 4 1, 3) := by decide +kernel
theorem dX9_rank_121 : decode cX9_rank 121 = .ok (.goto (-73), 3) := by decide +kernel
theorem dX9_rank_124 : decode cX9_rank 124 = .ok (.iinc 3 1, 3) := by decide +kernel
theorem dX9_rank_127 : decode cX9_rank 127 = .ok (.goto (-90), 3) := by decide +kernel
theorem dX9_rank_130 : decode cX9_rank 130 = .ok (.lload_n 1, 1) := by decide +kernel
theorem dX9_rank_131 : decode cX9_rank 131 = .ok (.invokestatic 162, 3) := by decide +kernel
theorem dX9_rank_134 : decode cX9_rank 134 = .ok (.l2i, 1) := by decide +kernel
theorem dX9_rank_135 : decode cX9_rank 135 = .ok (.ireturn, 1) := by decide +kernel
set_option maxRecDepth 20000 in
theorem ggX9_sizes_X9_countAll : GoodIn wsX9_sizes wsX9_countAll := goodIn_r _ [5, 6, 7, 8, 4, 9, 10, 11, 12, 13, 14, 15, 16, 17, 18, 19, 20, 21, 22, 23, 24, 25, 26, 27, 28, 29, 30, 31, 32, 33, 34, 35, 36, 37, 38, 39, 40, 41, 42, 43, 44, 45, 46, 47, 48, 49, 50, 51, 52, 53, 54, 55, 56, 57, 58, 59, 60, 61, 62, 63, 64, 65, 66, 67, 68, 69, 70, 71] (by decide +kernel) (by decide +kernel)
set_option maxRecDepth 20000 in
theorem gX9_sizes_X9_countAll : GoodIn wsX9_sizes (wsV RX9 176 RX9 yX9_countAll wsX9_countAll) := goodIn_app (goodIn_of _ (by decide +kernel)) ggX9_sizes_X9_countAll
theorem dX9_sizes_0 : decode cX9_sizes 0 = .ok (.iconst 0, 1) := by decide +kernel
theorem dX9_sizes_1 : decode cX9_sizes 1 = .ok (.istore_n 1, 1) := by decide +kernel
theorem dX9_sizes_2 : decode cX9_sizes 2 = .ok (.iconst 1, 1) := by decide +kernel
theorem dX9_sizes_3 : decode cX9_sizes 3 = .ok (.istore_n 2, 1) := by decide +kernel
theorem dX9_sizes_4 : decode cX9_sizes 4 = .ok (.iload_n 2, 1) := by decide +kernel
theorem dX9_sizes_5 : decode cX9_sizes 5 = .ok (.bipush 6, 2) := by decide +kernel
theorem dX9_sizes_7 : decode cX9_sizes 7 = .ok (.if_icmp .ge 52, 3) := by decide +kernel
theorem dX9_sizes_10 : decode cX9_sizes 10 = .ok (.iconst 1, 1) := by decide +kernel
theorem dX9_sizes_11 : decode cX9_sizes 11 = .ok (.istore_n 3, 1) := by decide +kernel
theorem dX9_sizes_12 : decode cX9_sizes 12 = .ok (.iload_n 3, 1) := by decide +kernel
theorem dX9_sizes_13 : decode cX9_sizes 13 = .ok (.bipush 6, 2) := by decide +kernel
theorem dX9_sizes_15 : decode cX9_sizes 15 = .ok (.if_icmp .ge 38, 3) := by decide +kernel
theorem dX9_sizes_18 : decode cX9_sizes 18 = .ok (.iload_n 1, 1) := by decide +kernel
theorem dX9_sizes_19 : decode cX9_sizes 19 = .ok (.aload_n 0, 1) := by decide +kernel
theorem dX9_sizes_20 : decode cX9_sizes 20 = .ok (.iload_n 2, 1) := by decide +kernel
theorem dX9_sizes_21 : decode cX9_sizes 21 = .ok (.iload_n 3, 1) := by decide +kernel
theorem dX9_sizes_22 : decode cX9_sizes 22 = .ok (.invokevirtual 176, 3) := by decide +kernel
theorem dX9_sizes_25 : decode cX9_sizes 25 = .ok (.lconst 0, 1) := by decide +kernel
theorem dX9_sizes_26 : decode cX9_sizes 26 = .ok (.lcmp, 1) := by decide +kernel
theorem dX9_sizes_27 : decode cX9_sizes 27 = .ok (.ifCond .le 17, 3) := by decide +kernel
theorem dX9_sizes_30 : decode cX9_sizes 30 = .ok (.iconst 1, 1) := by decide +kernel
theorem dX9_sizes_31 : decode cX9_sizes 31 = .ok (.iconst 5, 1) := by decide +kernel
theorem dX9_sizes_32 : decode cX9_sizes 32 = .ok (.iload_n 2, 1) := by decide +kernel
theorem dX9_sizes_33 : decode cX9_sizes 33 = .ok (.iconst 1, 1) := by decide +kernel
theorem dX9_sizes_34 : decode cX9_sizes 34 = .ok (.isub, 1) := by decide +kernel
theorem dX9_sizes_35 : decode cX9_sizes 35 = .ok (.imul, 1) := by decide +kernel
theorem dX9_sizes_36 : decode cX9_sizes 36 = .ok (.iload_n 3, 1) := by decide +kernel
theorem dX9_sizes_37 : decode cX9_sizes 37 = .ok (.iadd, 1) := by decide +kernel
theorem dX9_sizes_38 : decode cX9_sizes 38 = .ok (.iconst 1, 1) := by decide +kernel
theorem dX9_sizes_39 : decode cX9_sizes 39 = .ok (.isub, 1) := by decide +kernel
theorem dX9_sizes_40 : decode cX9_sizes 40 = .ok (.ishl, 1) := by decide +kernel
theorem dX9_sizes_41 : decode cX9_sizes 41 = .ok (.goto 4, 3) := by decide +kernel
theorem dX9_sizes_44 : decode cX9_sizes 44 = .ok (.iconst 0, 1) := by decide +kernel
theorem dX9_sizes_45 : decode cX9_sizes 45 = .ok (.ior, 1) := by decide +kernel
theorem dX9_sizes_46 : decode cX9_sizes 46 = .ok (.istore_n 1, 1) := by decide +kernel
theorem dX9_sizes_47 : decode cX9_sizes 47 = .ok (.iinc 3 1, 3) := by decide +kernel
theorem dX9_sizes_50 : decode cX9_sizes 50 = .ok (.goto (-38), 3) := by decide +kernel
theorem dX9_sizes_53 : decode cX9_sizes 53 = .ok (.iinc 2 1, 3) := by decide +kernel
theorem dX9_sizes_56 : decode cX9_sizes 56 = .ok (.goto (-52), 3) := by decide +kernel
theorem dX9_sizes_59 : decode cX9_sizes 59 = .ok (.iload_n 1, 1) := by decide +kernel
theorem dX9_sizes_60 : decode cX9_sizes 60 = .ok (.ireturn, 1) := by decide +kernel
set_option maxRecDepth 20000 in
theorem ggX9_countDesk_X9_layFits : GoodIn wsX9_countDesk wsX9_layFits := goodIn_r _ [10, 3, 11, 12, 13, 14, 15, 16, 9, 17, 18, 19, 20, 21, 22, 23, 24, 25, 26, 27, 37, 38, 39, 40, 41, 42, 43, 44, 45, 46, 47, 48, 49, 50, 51, 52, 53, 54, 55, 56, 57, 58, 59, 60, 61, 62, 63, 64, 65, 66] (by decide +kernel) (by decide +kernel)
set_option maxRecDepth 20000 in
theorem gX9_countDesk_X9_layFits : GoodIn wsX9_countDesk (wsV RX9 166 RX9 yX9_layFits wsX9_layFits) := goodIn_app (goodIn_of _ (by decide +kernel)) ggX9_countDesk_X9_layFits
set_option maxRecDepth 20000 in
theorem ggX9_countDesk_X9_cellOf : GoodIn wsX9_countDesk wsX9_cellOf := goodIn_r _ [27, 18, 37, 38, 39, 40, 41, 42, 43, 44, 45, 46, 47, 48, 49, 50, 51, 52, 53, 54, 55, 56, 57, 58, 59, 60, 61, 62, 63, 64, 65, 66] (by decide +kernel) (by decide +kernel)
set_option maxRecDepth 20000 in
theorem gX9_countDesk_X9_cellOf : GoodIn wsX9_countDesk (wsV RX9 146 RX9 yX9_cellOf wsX9_cellOf) := goodIn_app (goodIn_of _ (by decide +kernel)) ggX9_countDesk_X9_cellOf
set_option maxRecDepth 20000 in
theorem ggX9_countDesk_X9_layWays : GoodIn wsX9_countDesk wsX9_layWays := goodIn_r _ [31, 3, 5, 12, 13, 32, 11, 33, 34, 9, 35, 36, 37, 38, 39, 40, 41, 42, 43, 44, 45, 46, 47, 48, 49, 50, 51, 52, 53, 54, 55, 56, 57, 58, 59, 60, 61, 62, 63, 64, 65, 66] (by decide +kernel) (by decide +kernel)
set_option maxRecDepth 20000 in
theorem gX9_countDesk_X9_layWays : GoodIn wsX9_countDesk (wsV RX9 172 RX9 yX9_layWays wsX9_layWays) := goodIn_app (goodIn_of _ (by decide +kernel)) ggX9_countDesk_X9_layWays
theorem dX9_countDesk_0 : decode cX9_countDesk 0 = .ok (.aload_n 0, 1) := by decide +kernel
theorem dX9_countDesk_1 : decode cX9_countDesk 1 = .ok (.aload_n 0, 1) := by decide +kernel
theorem dX9_countDesk_2 : decode cX9_countDesk 2 = .ok (.getfield 20, 3) := by decide +kernel
theorem dX9_countDesk_5 : decode cX9_countDesk 5 = .ok (.invokevirtual 166, 3) := by decide +kernel
theorem dX9_countDesk_8 : decode cX9_countDesk 8 = .ok (.iconst 0, 1) := by decide +kernel
theorem dX9_countDesk_9 : decode cX9_countDesk 9 = .ok (.istore_n 3, 1) := by decide +kernel
theorem dX9_countDesk_10 : decode cX9_countDesk 10 = .ok (.iload_n 3, 1) := by decide +kernel
theorem dX9_countDesk_11 : decode cX9_countDesk 11 = .ok (.aload_n 0, 1) := by decide +kernel
theorem dX9_countDesk_12 : decode cX9_countDesk 12 = .ok (.getfield 17, 3) := by decide +kernel
theorem dX9_countDesk_15 : decode cX9_countDesk 15 = .ok (.if_icmp .ge 145, 3) := by decide +kernel
theorem dX9_countDesk_18 : decode cX9_countDesk 18 = .ok (.iconst 0, 1) := by decide +kernel
theorem dX9_countDesk_19 : decode cX9_countDesk 19 = .ok (.istore 4, 2) := by decide +kernel
theorem dX9_countDesk_21 : decode cX9_countDesk 21 = .ok (.iload 4, 2) := by decide +kernel
theorem dX9_countDesk_23 : decode cX9_countDesk 23 = .ok (.aload_n 0, 1) := by decide +kernel
theorem dX9_countDesk_24 : decode cX9_countDesk 24 = .ok (.getfield 153, 3) := by decide +kernel
theorem dX9_countDesk_27 : decode cX9_countDesk 27 = .ok (.if_icmp .ge 127, 3) := by decide +kernel
theorem dX9_countDesk_30 : decode cX9_countDesk 30 = .ok (.iconst 1, 1) := by decide +kernel
theorem dX9_countDesk_31 : decode cX9_countDesk 31 = .ok (.istore 5, 2) := by decide +kernel
theorem dX9_countDesk_33 : decode cX9_countDesk 33 = .ok (.iconst 0, 1) := by decide +kernel
theorem dX9_countDesk_34 : decode cX9_countDesk 34 = .ok (.istore 6, 2) := by decide +kernel
theorem dX9_countDesk_36 : decode cX9_countDesk 36 = .ok (.iload 6, 2) := by decide +kernel
theorem dX9_countDesk_38 : decode cX9_countDesk 38 = .ok (.aload_n 0, 1) := by decide +kernel
theorem dX9_countDesk_39 : decode cX9_countDesk 39 = .ok (.getfield 20, 3) := by decide +kernel
theorem dX9_countDesk_42 : decode cX9_countDesk 42 = .ok (.if_icmp .ge 91, 3) := by decide +kernel
theorem dX9_countDesk_45 : decode cX9_countDesk 45 = .ok (.aload_n 0, 1) := by decide +kernel
theorem dX9_countDesk_46 : decode cX9_countDesk 46 = .ok (.iload 4, 2) := by decide +kernel
theorem dX9_countDesk_48 : decode cX9_countDesk 48 = .ok (.iload 6, 2) := by decide +kernel
theorem dX9_countDesk_50 : decode cX9_countDesk 50 = .ok (.aload_n 0, 1) := by decide +kernel
theorem dX9_countDesk_51 : decode cX9_countDesk 51 = .ok (.getfield 20, 3) := by decide +kernel
theorem dX9_countDesk_54 : decode cX9_countDesk 54 = .ok (.invokevirtual 146, 3) := by decide +kernel
theorem dX9_countDesk_57 : decode cX9_countDesk 57 = .ok (.istore 7, 2) := by decide +kernel
theorem dX9_countDesk_59 : decode cX9_countDesk 59 = .ok (.iload 5, 2) := by decide +kernel
theorem dX9_countDesk_61 : decode cX9_countDesk 61 = .ok (.ifCond .eq 63, 3) := by decide +kernel
theorem dX9_countDesk_64 : decode cX9_countDesk 64 = .ok (.aload_n 0, 1) := by decide +kernel
theorem dX9_countDesk_65 : decode cX9_countDesk 65 = .ok (.getfield 23, 3) := by decide +kernel
theorem dX9_countDesk_68 : decode cX9_countDesk 68 = .ok (.aload_n 0, 1) := by decide +kernel
theorem dX9_countDesk_69 : decode cX9_countDesk 69 = .ok (.getfield 20, 3) := by decide +kernel
theorem dX9_countDesk_72 : decode cX9_countDesk 72 = .ok (.iload_n 3, 1) := by decide +kernel
theorem dX9_countDesk_73 : decode cX9_countDesk 73 = .ok (.imul, 1) := by decide +kernel
theorem dX9_countDesk_74 : decode cX9_countDesk 74 = .ok (.iload 6, 2) := by decide +kernel
theorem dX9_countDesk_76 : decode cX9_countDesk 76 = .ok (.iadd, 1) := by decide +kernel
theorem dX9_countDesk_77 : decode cX9_countDesk 77 = .ok (.iaload, 1) := by decide +kernel
theorem dX9_countDesk_78 : decode cX9_countDesk 78 = .ok (.iconst (-1), 1) := by decide +kernel
theorem dX9_countDesk_79 : decode cX9_countDesk 79 = .ok (.if_icmp .eq 22, 3) := by decide +kernel
theorem dX9_countDesk_82 : decode cX9_countDesk 82 = .ok (.aload_n 0, 1) := by decide +kernel
theorem dX9_countDesk_83 : decode cX9_countDesk 83 = .ok (.getfield 23, 3) := by decide +kernel
theorem dX9_countDesk_86 : decode cX9_countDesk 86 = .ok (.aload_n 0, 1) := by decide +kernel
theorem dX9_countDesk_87 : decode cX9_countDesk 87 = .ok (.getfield 20, 3) := by decide +kernel
theorem dX9_countDesk_90 : decode cX9_countDesk 90 = .ok (.iload_n 3, 1) := by decide +kernel
theorem dX9_countDesk_91 : decode cX9_countDesk 91 = .ok (.imul, 1) := by decide +kernel
theorem dX9_countDesk_92 : decode cX9_countDesk 92 = .ok (.iload 6, 2) := by decide +kernel
theorem dX9_countDesk_94 : decode cX9_countDesk 94 = .ok (.iadd, 1) := by decide +kernel
theorem dX9_countDesk_95 : decode cX9_countDesk 95 = .ok (.iaload, 1) := by decide +kernel
theorem dX9_countDesk_96 : decode cX9_countDesk 96 = .ok (.iload 7, 2) := by decide +kernel
theorem dX9_countDesk_98 : decode cX9_countDesk 98 = .ok (.if_icmp .ne 26, 3) := by decide +kernel
theorem dX9_countDesk_101 : decode cX9_countDesk 101 = .ok (.aload_n 0, 1) := by decide +kernel
theorem dX9_countDesk_102 : decode cX9_countDesk 102 = .ok (.getfield 20, 3) := by decide +kernel
theorem dX9_countDesk_105 : decode cX9_countDesk 105 = .ok (.iload_n 3, 1) := by decide +kernel
theorem dX9_countDesk_106 : decode cX9_countDesk 106 = .ok (.imul, 1) := by decide +kernel
theorem dX9_countDesk_107 : decode cX9_countDesk 107 = .ok (.iload 6, 2) := by decide +kernel
theorem dX9_countDesk_109 : decode cX9_countDesk 109 = .ok (.iadd, 1) := by decide +kernel
theorem dX9_countDesk_110 : decode cX9_countDesk 110 = .ok (.iload_n 1, 1) := by decide +kernel
theorem dX9_countDesk_111 : decode cX9_countDesk 111 = .ok (.if_icmp .ne 9, 3) := by decide +kernel
theorem dX9_countDesk_114 : decode cX9_countDesk 114 = .ok (.iload 7, 2) := by decide +kernel
theorem dX9_countDesk_116 : decode cX9_countDesk 116 = .ok (.iload_n 2, 1) := by decide +kernel
theorem dX9_countDesk_117 : decode cX9_countDesk 117 = .ok (.if_icmp .ne 7, 3) := by decide +kernel
theorem dX9_countDesk_120 : decode cX9_countDesk 120 = .ok (.iconst 1, 1) := by decide +kernel
theorem dX9_countDesk_121 : decode cX9_countDesk 121 = .ok (.goto 4, 3) := by decide +kernel
theorem dX9_countDesk_124 : decode cX9_countDesk 124 = .ok (.iconst 0, 1) := by decide +kernel
theorem dX9_countDesk_125 : decode cX9_countDesk 125 = .ok (.istore 5, 2) := by decide +kernel
theorem dX9_countDesk_127 : decode cX9_countDesk 127 = .ok (.iinc 6 1, 3) := by decide +kernel
theorem dX9_countDesk_130 : decode cX9_countDesk 130 = .ok (.goto (-94), 3) := by decide +kernel
theorem dX9_countDesk_133 : decode cX9_countDesk 133 = .ok (.aload_n 0, 1) := by decide +kernel
theorem dX9_countDesk_134 : decode cX9_countDesk 134 = .ok (.getfield 49, 3) := by decide +kernel
theorem dX9_countDesk_137 : decode cX9_countDesk 137 = .ok (.sipush 243, 3) := by decide +kernel
theorem dX9_countDesk_140 : decode cX9_countDesk 140 = .ok (.iload_n 3, 1) := by decide +kernel
theorem dX9_countDesk_141 : decode cX9_countDesk 141 = .ok (.imul, 1) := by decide +kernel
theorem dX9_countDesk_142 : decode cX9_countDesk 142 = .ok (.iload 4, 2) := by decide +kernel
theorem dX9_countDesk_144 : decode cX9_countDesk 144 = .ok (.iadd, 1) := by decide +kernel
theorem dX9_countDesk_145 : decode cX9_countDesk 145 = .ok (.iload 5, 2) := by decide +kernel
theorem dX9_countDesk_147 : decode cX9_countDesk 147 = .ok (.bastore, 1) := by decide +kernel
theorem dX9_countDesk_148 : decode cX9_countDesk 148 = .ok (.iinc 4 1, 3) := by decide +kernel
theorem dX9_countDesk_151 : decode cX9_countDesk 151 = .ok (.goto (-130), 3) := by decide +kernel
theorem dX9_countDesk_154 : decode cX9_countDesk 154 = .ok (.iinc 3 1, 3) := by decide +kernel
theorem dX9_countDesk_157 : decode cX9_countDesk 157 = .ok (.goto (-147), 3) := by decide +kernel
theorem dX9_countDesk_160 : decode cX9_countDesk 160 = .ok (.aload_n 0, 1) := by decide +kernel
theorem dX9_countDesk_161 : decode cX9_countDesk 161 = .ok (.aload_n 0, 1) := by decide +kernel
theorem dX9_countDesk_162 : decode cX9_countDesk 162 = .ok (.getfield 17, 3) := by decide +kernel
theorem dX9_countDesk_165 : decode cX9_countDesk 165 = .ok (.invokevirtual 172, 3) := by decide +kernel
theorem dX9_countDesk_168 : decode cX9_countDesk 168 = .ok (.lreturn, 1) := by decide +kernel
set_option maxRecDepth 20000 in
theorem ggX9_endings_X9_countDesk : GoodIn wsX9_endings wsX9_countDesk := goodIn_r _ [5, 6, 7, 8, 9, 10, 11, 12, 13, 4, 14, 15, 16, 17, 18, 19, 20, 21, 22, 23, 24, 25, 26, 27, 28, 29, 30, 31, 32, 33, 34, 35, 36, 37, 38, 39, 40, 41, 42, 43, 44, 45, 46, 47, 48, 49, 50, 51, 52, 53, 54, 55, 56, 57, 58, 59, 60, 61, 62, 63, 64, 65, 66, 67, 68, 69, 70] (by decide +kernel) (by decide +kernel)
set_option maxRecDepth 20000 in
theorem gX9_endings_X9_countDesk : GoodIn wsX9_endings (wsV RX9 189 RX9 yX9_countDesk wsX9_countDesk) := goodIn_app (goodIn_of _ (by decide +kernel)) ggX9_endings_X9_countDesk
theorem dX9_endings_0 : decode cX9_endings 0 = .ok (.aload_n 0, 1) := by decide +kernel
theorem dX9_endings_1 : decode cX9_endings 1 = .ok (.iconst (-1), 1) := by decide +kernel
theorem dX9_endings_2 : decode cX9_endings 2 = .ok (.iconst 0, 1) := by decide +kernel
theorem dX9_endings_3 : decode cX9_endings 3 = .ok (.invokevirtual 189, 3) := by decide +kernel
theorem dX9_endings_6 : decode cX9_endings 6 = .ok (.l2i, 1) := by decide +kernel
theorem dX9_endings_7 : decode cX9_endings 7 = .ok (.ireturn, 1) := by decide +kernel
set_option maxRecDepth 20000 in
theorem ggX9_ending_X9_isCell : GoodIn wsX9_ending wsX9_isCell := goodIn_r _ [8, 1, 3, 9, 10, 7, 11, 53, 54, 55, 56, 57, 58, 59, 60, 61, 62, 63, 64, 65, 66, 67, 68, 69, 70, 71, 72, 73, 74, 75, 76, 77, 78, 79, 80, 81, 82] (by decide +kernel) (by decide +kernel)
set_option maxRecDepth 20000 in
theorem gX9_ending_X9_isCell : GoodIn wsX9_ending (wsV RX9 120 RX9 yX9_isCell wsX9_isCell) := goodIn_app (goodIn_of _ (by decide +kernel)) ggX9_ending_X9_isCell
set_option maxRecDepth 20000 in
theorem ggX9_ending_X9_countDesk : GoodIn wsX9_ending wsX9_countDesk := goodIn_r _ [15, 3, 1, 16, 17, 18, 19, 20, 21, 7, 22, 23, 24, 25, 26, 27, 28, 29, 30, 31, 32, 33, 34, 35, 36, 37, 38, 39, 40, 41, 42, 43, 44, 45, 46, 47, 48, 53, 54, 55, 56, 57, 58, 59, 60, 61, 62, 63, 64, 65, 66, 67, 68, 69, 70, 71, 72, 73, 74, 75, 76, 77, 78, 79, 80, 81, 82] (by decide +kernel) (by decide +kernel)
set_option maxRecDepth 20000 in
theorem gX9_ending_X9_countDesk : GoodIn wsX9_ending (wsV RX9 189 RX9 yX9_countDesk wsX9_countDesk) := goodIn_app (goodIn_of _ (by decide +kernel)) ggX9_ending_X9_countDesk
set_option maxRecDepth 20000 in
theorem ggX9_ending_X9_layFound : GoodIn wsX9_ending wsX9_layFound := goodIn_r _ [52, 23, 25, 2, 44, 53, 54, 55, 56, 57, 58, 59, 60, 61, 62, 63, 64, 65, 66, 67, 68, 69, 70, 71, 72, 73, 74, 75, 76, 77, 78, 79, 80, 81, 82] (by decide +kernel) (by decide +kernel)
set_option maxRecDepth 20000 in
theorem gX9_ending_X9_layFound : GoodIn wsX9_ending (wsV RX9 182 RX9 yX9_layFound wsX9_layFound) := goodIn_app (goodIn_of _ (by decide +kernel)) ggX9_ending_X9_layFound
set_option maxRecDepth 20000 in
theorem ggX9_ending_X9_cellOf : GoodIn wsX9_ending wsX9_cellOf := goodIn_r _ [39, 30, 53, 54, 55, 56, 57, 58, 59, 60, 61, 62, 63, 64, 65, 66, 67, 68, 69, 70, 71, 72, 73, 74, 75, 76, 77, 78, 79, 80, 81, 82] (by decide +kernel) (by decide +kernel)
set_option maxRecDepth 20000 in
theorem gX9_ending_X9_cellOf : GoodIn wsX9_ending (wsV RX9 146 RX9 yX9_cellOf wsX9_cellOf) := goodIn_app (goodIn_of _ (by decide +kernel)) ggX9_ending_X9_cellOf
theorem dX9_ending_0 : decode cX9_ending 0 = .ok (.aload_n 0, 1) := by decide +kernel
theorem dX9_ending_1 : decode cX9_ending 1 = .ok (.iload_n 1, 1) := by decide +kernel
theorem dX9_ending_2 : decode cX9_ending 2 = .ok (.invokevirtual 120, 3) := by decide +kernel
theorem dX9_ending_5 : decode cX9_ending 5 = .ok (.ifCond .ne 6, 3) := by decide +kernel
theorem dX9_ending_8 : decode cX9_ending 8 = .ok (.bipush (-2), 2) := by decide +kernel
theorem dX9_ending_10 : decode cX9_ending 10 = .ok (.ireturn, 1) := by decide +kernel
theorem dX9_ending_11 : decode cX9_ending 11 = .ok (.aload_n 0, 1) := by decide +kernel
theorem dX9_ending_12 : decode cX9_ending 12 = .ok (.iconst (-1), 1) := by decide +kernel
theorem dX9_ending_13 : decode cX9_ending 13 = .ok (.iconst 0, 1) := by decide +kernel
theorem dX9_ending_14 : decode cX9_ending 14 = .ok (.invokevirtual 189, 3) := by decide +kernel
theorem dX9_ending_17 : decode cX9_ending 17 = .ok (.lconst 0, 1) := by decide +kernel
theorem dX9_ending_18 : decode cX9_ending 18 = .ok (.lcmp, 1) := by decide +kernel
theorem dX9_ending_19 : decode cX9_ending 19 = .ok (.ifCond .ne 5, 3) := by decide +kernel
theorem dX9_ending_22 : decode cX9_ending 22 = .ok (.iconst (-1), 1) := by decide +kernel
theorem dX9_ending_23 : decode cX9_ending 23 = .ok (.ireturn, 1) := by decide +kernel
theorem dX9_ending_24 : decode cX9_ending 24 = .ok (.aload_n 0, 1) := by decide +kernel
theorem dX9_ending_25 : decode cX9_ending 25 = .ok (.aload_n 0, 1) := by decide +kernel
theorem dX9_ending_26 : decode cX9_ending 26 = .ok (.getfield 17, 3) := by decide +kernel
theorem dX9_ending_29 : decode cX9_ending 29 = .ok (.lconst 0, 1) := by decide +kernel
theorem dX9_ending_30 : decode cX9_ending 30 = .ok (.invokevirtual 182, 3) := by decide +kernel
theorem dX9_ending_33 : decode cX9_ending 33 = .ok (.aload_n 0, 1) := by decide +kernel
theorem dX9_ending_34 : decode cX9_ending 34 = .ok (.aload_n 0, 1) := by decide +kernel
theorem dX9_ending_35 : decode cX9_ending 35 = .ok (.getfield 56, 3) := by decide +kernel
theorem dX9_ending_38 : decode cX9_ending 38 = .ok (.iload_n 1, 1) := by decide +kernel
theorem dX9_ending_39 : decode cX9_ending 39 = .ok (.aload_n 0, 1) := by decide +kernel
theorem dX9_ending_40 : decode cX9_ending 40 = .ok (.getfield 20, 3) := by decide +kernel
theorem dX9_ending_43 : decode cX9_ending 43 = .ok (.idiv, 1) := by decide +kernel
theorem dX9_ending_44 : decode cX9_ending 44 = .ok (.iaload, 1) := by decide +kernel
theorem dX9_ending_45 : decode cX9_ending 45 = .ok (.iload_n 1, 1) := by decide +kernel
theorem dX9_ending_46 : decode cX9_ending 46 = .ok (.aload_n 0, 1) := by decide +kernel
theorem dX9_ending_47 : decode cX9_ending 47 = .ok (.getfield 20, 3) := by decide +kernel
theorem dX9_ending_50 : decode cX9_ending 50 = .ok (.irem, 1) := by decide +kernel
theorem dX9_ending_51 : decode cX9_ending 51 = .ok (.aload_n 0, 1) := by decide +kernel
theorem dX9_ending_52 : decode cX9_ending 52 = .ok (.getfield 20, 3) := by decide +kernel
theorem dX9_ending_55 : decode cX9_ending 55 = .ok (.invokevirtual 146, 3) := by decide +kernel
theorem dX9_ending_58 : decode cX9_ending 58 = .ok (.ireturn, 1) := by decide +kernel
set_option maxRecDepth 20000 in
theorem ggX9_sure_X9_isCell : GoodIn wsX9_sure wsX9_isCell := goodIn_r _ [6, 7, 8, 9, 10, 5, 11, 48, 49, 50, 51, 52, 53, 54, 55, 56, 57, 58, 59, 60, 61, 62, 63, 64, 65, 66, 67, 68, 69, 70, 71, 72, 73, 74, 75, 76, 77] (by decide +kernel) (by decide +kernel)
set_option maxRecDepth 20000 in
theorem gX9_sure_X9_isCell : GoodIn wsX9_sure (wsV RX9 120 RX9 yX9_isCell wsX9_isCell) := goodIn_app (goodIn_of _ (by decide +kernel)) ggX9_sure_X9_isCell
set_option maxRecDepth 20000 in
theorem ggX9_sure_X9_countDesk : GoodIn wsX9_sure wsX9_countDesk := goodIn_r _ [15, 8, 7, 16, 17, 18, 19, 20, 21, 5, 22, 23, 24, 25, 26, 27, 28, 29, 1, 30, 31, 32, 33, 34, 35, 36, 37, 38, 39, 40, 41, 42, 43, 44, 45, 46, 47, 48, 49, 50, 51, 52, 53, 54, 55, 56, 57, 58, 59, 60, 61, 62, 63, 64, 65, 66, 67, 68, 69, 70, 71, 72, 73, 74, 75, 76, 77] (by decide +kernel) (by decide +kernel)
set_option maxRecDepth 20000 in
theorem gX9_sure_X9_countDesk : GoodIn wsX9_sure (wsV RX9 189 RX9 yX9_countDesk wsX9_countDesk) := goodIn_app (goodIn_of _ (by decide +kernel)) ggX9_sure_X9_countDesk
theorem dX9_sure_0 : decode cX9_sure 0 = .ok (.aload_n 0, 1) := by decide +kernel
theorem dX9_sure_1 : decode cX9_sure 1 = .ok (.iload_n 1, 1) := by decide +kernel
theorem dX9_sure_2 : decode cX9_sure 2 = .ok (.invokevirtual 120, 3) := by decide +kernel
theorem dX9_sure_5 : decode cX9_sure 5 = .ok (.ifCond .ne 6, 3) := by decide +kernel
theorem dX9_sure_8 : decode cX9_sure 8 = .ok (.bipush (-2), 2) := by decide +kernel
theorem dX9_sure_10 : decode cX9_sure 10 = .ok (.ireturn, 1) := by decide +kernel
theorem dX9_sure_11 : decode cX9_sure 11 = .ok (.iconst (-1), 1) := by decide +kernel
theorem dX9_sure_12 : decode cX9_sure 12 = .ok (.istore_n 2, 1) := by decide +kernel
theorem dX9_sure_13 : decode cX9_sure 13 = .ok (.iconst 0, 1) := by decide +kernel
theorem dX9_sure_14 : decode cX9_sure 14 = .ok (.istore_n 3, 1) := by decide +kernel
theorem dX9_sure_15 : decode cX9_sure 15 = .ok (.iconst 0, 1) := by decide +kernel
theorem dX9_sure_16 : decode cX9_sure 16 = .ok (.istore 4, 2) := by decide +kernel
theorem dX9_sure_18 : decode cX9_sure 18 = .ok (.iload 4, 2) := by decide +kernel
theorem dX9_sure_20 : decode cX9_sure 20 = .ok (.aload_n 0, 1) := by decide +kernel
theorem dX9_sure_21 : decode cX9_sure 21 = .ok (.getfield 7, 3) := by decide +kernel
theorem dX9_sure_24 : decode cX9_sure 24 = .ok (.if_icmp .ge 27, 3) := by decide +kernel
theorem dX9_sure_27 : decode cX9_sure 27 = .ok (.aload_n 0, 1) := by decide +kernel
theorem dX9_sure_28 : decode cX9_sure 28 = .ok (.iload_n 1, 1) := by decide +kernel
theorem dX9_sure_29 : decode cX9_sure 29 = .ok (.iload 4, 2) := by decide +kernel
theorem dX9_sure_31 : decode cX9_sure 31 = .ok (.invokevirtual 189, 3) := by decide +kernel
theorem dX9_sure_34 : decode cX9_sure 34 = .ok (.lconst 0, 1) := by decide +kernel
theorem dX9_sure_35 : decode cX9_sure 35 = .ok (.lcmp, 1) := by decide +kernel
theorem dX9_sure_36 : decode cX9_sure 36 = .ok (.ifCond .le 9, 3) := by decide +kernel
theorem dX9_sure_39 : decode cX9_sure 39 = .ok (.iload 4, 2) := by decide +kernel
theorem dX9_sure_41 : decode cX9_sure 41 = .ok (.istore_n 2, 1) := by decide +kernel
theorem dX9_sure_42 : decode cX9_sure 42 = .ok (.iinc 3 1, 3) := by decide +kernel
theorem dX9_sure_45 : decode cX9_sure 45 = .ok (.iinc 4 1, 3) := by decide +kernel
theorem dX9_sure_48 : decode cX9_sure 48 = .ok (.goto (-30), 3) := by decide +kernel
theorem dX9_sure_51 : decode cX9_sure 51 = .ok (.iload_n 3, 1) := by decide +kernel
theorem dX9_sure_52 : decode cX9_sure 52 = .ok (.iconst 1, 1) := by decide +kernel
theorem dX9_sure_53 : decode cX9_sure 53 = .ok (.if_icmp .ne 7, 3) := by decide +kernel
theorem dX9_sure_56 : decode cX9_sure 56 = .ok (.iload_n 2, 1) := by decide +kernel
theorem dX9_sure_57 : decode cX9_sure 57 = .ok (.goto 4, 3) := by decide +kernel
theorem dX9_sure_60 : decode cX9_sure 60 = .ok (.iconst (-1), 1) := by decide +kernel
theorem dX9_sure_61 : decode cX9_sure 61 = .ok (.ireturn, 1) := by decide +kernel
set_option maxRecDepth 20000 in
theorem ggX9_clues_X9_gaps : GoodIn wsX9_clues wsX9_gaps := goodIn_r _ [11, 1, 2, 5, 71, 72, 73, 74, 75, 76, 77, 78, 79, 80, 81, 82, 83, 84, 85, 86, 87, 88, 89, 90, 91, 92, 93, 94, 95, 96, 97, 98, 99, 100] (by decide +kernel) (by decide +kernel)
set_option maxRecDepth 20000 in
theorem gX9_clues_X9_gaps : GoodIn wsX9_clues (wsV RX9 129 RX9 yX9_gaps wsX9_gaps) := goodIn_app (goodIn_of _ (by decide +kernel)) ggX9_clues_X9_gaps
set_option maxRecDepth 20000 in
theorem ggX9_clues_X9_wrongNow : GoodIn wsX9_clues wsX9_wrongNow := goodIn_r _ [15, 1, 2, 16, 17, 18, 19, 10, 20, 21, 22, 23, 24, 5, 25, 26, 27, 71, 72, 73, 74, 75, 76, 77, 78, 79, 80, 81, 82, 83, 84, 85, 86, 87, 88, 89, 90, 91, 92, 93, 94, 95, 96, 97, 98, 99, 100] (by decide +kernel) (by decide +kernel)
set_option maxRecDepth 20000 in
theorem gX9_clues_X9_wrongNow : GoodIn wsX9_clues (wsV RX9 137 RX9 yX9_wrongNow wsX9_wrongNow) := goodIn_app (goodIn_of _ (by decide +kernel)) ggX9_clues_X9_wrongNow
set_option maxRecDepth 20000 in
theorem ggX9_clues_X9_countAll : GoodIn wsX9_clues wsX9_countAll := goodIn_r _ [31, 32, 33, 34, 10, 35, 36, 37, 38, 39, 40, 41, 42, 43, 44, 45, 46, 47, 48, 16, 49, 50, 51, 52, 53, 54, 55, 56, 57, 58, 59, 60, 61, 62, 63, 64, 65, 66, 71, 72, 73, 74, 75, 76, 77, 78, 79, 80, 81, 82, 83, 84, 85, 86, 87, 88, 89, 90, 91, 92, 93, 94, 95, 96, 97, 98, 99, 100] (by decide +kernel) (by decide +kernel)
set_option maxRecDepth 20000 in
theorem gX9_clues_X9_countAll : GoodIn wsX9_clues (wsV RX9 176 RX9 yX9_countAll wsX9_countAll) := goodIn_app (goodIn_of _ (by decide +kernel)) ggX9_clues_X9_countAll
set_option maxRecDepth 20000 in
theorem ggX9_clues_X9_layFound : GoodIn wsX9_clues wsX9_layFound := goodIn_r _ [70, 37, 39, 4, 62, 71, 72, 73, 74, 75, 76, 77, 78, 79, 80, 81, 82, 83, 84, 85, 86, 87, 88, 89, 90, 91, 92, 93, 94, 95, 96, 97, 98, 99, 100] (by decide +kernel) (by decide +kernel)
set_option maxRecDepth 20000 in
theorem gX9_clues_X9_layFound : GoodIn wsX9_clues (wsV RX9 182 RX9 yX9_layFound wsX9_layFound) := goodIn_app (goodIn_of _ (by decide +kernel)) ggX9_clues_X9_layFound
set_option maxRecDepth 20000 in
theorem ggX9_clues_X9_cellOf : GoodIn wsX9_clues wsX9_cellOf := goodIn_r _ [52, 44, 71, 72, 73, 74, 75, 76, 77, 78, 79, 80, 81, 82, 83, 84, 85, 86, 87, 88, 89, 90, 91, 92, 93, 94, 95, 96, 97, 98, 99, 100] (by decide +kernel) (by decide +kernel)
set_option maxRecDepth 20000 in
theorem gX9_clues_X9_cellOf : GoodIn wsX9_clues (wsV RX9 146 RX9 yX9_cellOf wsX9_cellOf) := goodIn_app (goodIn_of _ (by decide +kernel)) ggX9_clues_X9_cellOf
theorem dX9_clues_0 : decode cX9_clues 0 = .ok (.aload_n 0, 1) := by decide +kernel
theorem dX9_clues_1 : decode cX9_clues 1 = .ok (.invokevirtual 129, 3) := by decide +kernel
theorem dX9_clues_4 : decode cX9_clues 4 = .ok (.ifCond .gt 25, 3) := by decide +kernel
theorem dX9_clues_7 : decode cX9_clues 7 = .ok (.aload_n 0, 1) := by decide +kernel
theorem dX9_clues_8 : decode cX9_clues 8 = .ok (.invokevirtual 137, 3) := by decide +kernel
theorem dX9_clues_11 : decode cX9_clues 11 = .ok (.iconst (-1), 1) := by decide +kernel
theorem dX9_clues_12 : decode cX9_clues 12 = .ok (.if_icmp .ne 17, 3) := by decide +kernel
theorem dX9_clues_15 : decode cX9_clues 15 = .ok (.aload_n 0, 1) := by decide +kernel
theorem dX9_clues_16 : decode cX9_clues 16 = .ok (.getfield 17, 3) := by decide +kernel
theorem dX9_clues_19 : decode cX9_clues 19 = .ok (.aload_n 0, 1) := by decide +kernel
theorem dX9_clues_20 : decode cX9_clues 20 = .ok (.getfield 20, 3) := by decide +kernel
theorem dX9_clues_23 : decode cX9_clues 23 = .ok (.imul, 1) := by decide +kernel
theorem dX9_clues_24 : decode cX9_clues 24 = .ok (.bipush 12, 2) := by decide +kernel
theorem dX9_clues_26 : decode cX9_clues 26 = .ok (.if_icmp .le 6, 3) := by decide +kernel
theorem dX9_clues_29 : decode cX9_clues 29 = .ok (.bipush (-4), 2) := by decide +kernel
theorem dX9_clues_31 : decode cX9_clues 31 = .ok (.ireturn, 1) := by decide +kernel
theorem dX9_clues_32 : decode cX9_clues 32 = .ok (.aload_n 0, 1) := by decide +kernel
theorem dX9_clues_33 : decode cX9_clues 33 = .ok (.aload_n 0, 1) := by decide +kernel
theorem dX9_clues_34 : decode cX9_clues 34 = .ok (.getfield 17, 3) := by decide +kernel
theorem dX9_clues_37 : decode cX9_clues 37 = .ok (.aload_n 0, 1) := by decide +kernel
theorem dX9_clues_38 : decode cX9_clues 38 = .ok (.getfield 20, 3) := by decide +kernel
theorem dX9_clues_41 : decode cX9_clues 41 = .ok (.invokevirtual 176, 3) := by decide +kernel
theorem dX9_clues_44 : decode cX9_clues 44 = .ok (.lstore_n 1, 1) := by decide +kernel
theorem dX9_clues_45 : decode cX9_clues 45 = .ok (.lload_n 1, 1) := by decide +kernel
theorem dX9_clues_46 : decode cX9_clues 46 = .ok (.ldc2_w 192, 3) := by decide +kernel
theorem dX9_clues_49 : decode cX9_clues 49 = .ok (.lcmp, 1) := by decide +kernel
theorem dX9_clues_50 : decode cX9_clues 50 = .ok (.ifCond .le 6, 3) := by decide +kernel
theorem dX9_clues_53 : decode cX9_clues 53 = .ok (.bipush (-6), 2) := by decide +kernel
theorem dX9_clues_55 : decode cX9_clues 55 = .ok (.ireturn, 1) := by decide +kernel
theorem dX9_clues_56 : decode cX9_clues 56 = .ok (.iconst 0, 1) := by decide +kernel
theorem dX9_clues_57 : decode cX9_clues 57 = .ok (.istore_n 3, 1) := by decide +kernel
theorem dX9_clues_58 : decode cX9_clues 58 = .ok (.iconst 0, 1) := by decide +kernel
theorem dX9_clues_59 : decode cX9_clues 59 = .ok (.istore 4, 2) := by decide +kernel
theorem dX9_clues_61 : decode cX9_clues 61 = .ok (.iload 4, 2) := by decide +kernel
theorem dX9_clues_63 : decode cX9_clues 63 = .ok (.i2l, 1) := by decide +kernel
theorem dX9_clues_64 : decode cX9_clues 64 = .ok (.lload_n 1, 1) := by decide +kernel
theorem dX9_clues_65 : decode cX9_clues 65 = .ok (.lcmp, 1) := by decide +kernel
theorem dX9_clues_66 : decode cX9_clues 66 = .ok (.ifCond .ge 112, 3) := by decide +kernel
theorem dX9_clues_69 : decode cX9_clues 69 = .ok (.aload_n 0, 1) := by decide +kernel
theorem dX9_clues_70 : decode cX9_clues 70 = .ok (.aload_n 0, 1) := by decide +kernel
theorem dX9_clues_71 : decode cX9_clues 71 = .ok (.getfield 17, 3) := by decide +kernel
theorem dX9_clues_74 : decode cX9_clues 74 = .ok (.iload 4, 2) := by decide +kernel
theorem dX9_clues_76 : decode cX9_clues 76 = .ok (.i2l, 1) := by decide +kernel
theorem dX9_clues_77 : decode cX9_clues 77 = .ok (.invokevirtual 182, 3) := by decide +kernel
theorem dX9_clues_80 : decode cX9_clues 80 = .ok (.iconst 0, 1) := by decide +kernel
theorem dX9_clues_81 : decode cX9_clues 81 = .ok (.istore 5, 2) := by decide +kernel
theorem dX9_clues_83 : decode cX9_clues 83 = .ok (.iconst 0, 1) := by decide +kernel
theorem dX9_clues_84 : decode cX9_clues 84 = .ok (.istore 6, 2) := by decide +kernel
theorem dX9_clues_86 : decode cX9_clues 86 = .ok (.iload 6, 2) := by decide +kernel
theorem dX9_clues_88 : decode cX9_clues 88 = .ok (.aload_n 0, 1) := by decide +kernel
theorem dX9_clues_89 : decode cX9_clues 89 = .ok (.getfield 17, 3) := by decide +kernel
theorem dX9_clues_92 : decode cX9_clues 92 = .ok (.aload_n 0, 1) := by decide +kernel
theorem dX9_clues_93 : decode cX9_clues 93 = .ok (.getfield 20, 3) := by decide +kernel
theorem dX9_clues_96 : decode cX9_clues 96 = .ok (.imul, 1) := by decide +kernel
theorem dX9_clues_97 : decode cX9_clues 97 = .ok (.if_icmp .ge 59, 3) := by decide +kernel
theorem dX9_clues_100 : decode cX9_clues 100 = .ok (.iload 5, 2) := by decide +kernel
theorem dX9_clues_102 : decode cX9_clues 102 = .ok (.aload_n 0, 1) := by decide +kernel
theorem dX9_clues_103 : decode cX9_clues 103 = .ok (.aload_n 0, 1) := by decide +kernel
theorem dX9_clues_104 : decode cX9_clues 104 = .ok (.getfield 56, 3) := by decide +kernel
theorem dX9_clues_107 : decode cX9_clues 107 = .ok (.iload 6, 2) := by decide +kernel
theorem dX9_clues_109 : decode cX9_clues 109 = .ok (.aload_n 0, 1) := by decide +kernel
theorem dX9_clues_110 : decode cX9_clues 110 = .ok (.getfield 20, 3) := by decide +kernel
theorem dX9_clues_113 : decode cX9_clues 113 = .ok (.idiv, 1) := by decide +kernel
theorem dX9_clues_114 : decode cX9_clues 114 = .ok (.iaload, 1) := by decide +kernel
theorem dX9_clues_115 : decode cX9_clues 115 = .ok (.iload 6, 2) := by decide +kernel
theorem dX9_clues_117 : decode cX9_clues 117 = .ok (.aload_n 0, 1) := by decide +kernel
theorem dX9_clues_118 : decode cX9_clues 118 = .ok (.getfield 20, 3) := by decide +kernel
theorem dX9_clues_121 : decode cX9_clues 121 = .ok (.irem, 1) := by decide +kernel
theorem dX9_clues_122 : decode cX9_clues 122 = .ok (.aload_n 0, 1) := by decide +kernel
theorem dX9_clues_123 : decode cX9_clues 123 = .ok (.getfield 20, 3) := by decide +kernel
theorem dX9_clues_126 : decode cX9_clues 126 = .ok (.invokevirtual 146, 3) := by decide +kernel
theorem dX9_clues_129 : decode cX9_clues 129 = .ok (.aload_n 0, 1) := by decide +kernel
theorem dX9_clues_130 : decode cX9_clues 130 = .ok (.getfield 23, 3) := by decide +kernel
theorem dX9_clues_133 : decode cX9_clues 133 = .ok (.iload 6, 2) := by decide +kernel
theorem dX9_clues_135 : decode cX9_clues 135 = .ok (.iaload, 1) := by decide +kernel
theorem dX9_clues_136 : decode cX9_clues 136 = .ok (.if_icmp .ne 7, 3) := by decide +kernel
theorem dX9_clues_139 : decode cX9_clues 139 = .ok (.iconst 0, 1) := by decide +kernel
theorem dX9_clues_140 : decode cX9_clues 140 = .ok (.goto 7, 3) := by decide +kernel
theorem dX9_clues_143 : decode cX9_clues 143 = .ok (.iconst 1, 1) := by decide +kernel
theorem dX9_clues_144 : decode cX9_clues 144 = .ok (.iload 6, 2) := by decide +kernel
theorem dX9_clues_146 : decode cX9_clues 146 = .ok (.ishl, 1) := by decide +kernel
theorem dX9_clues_147 : decode cX9_clues 147 = .ok (.ior, 1) := by decide +kernel
theorem dX9_clues_148 : decode cX9_clues 148 = .ok (.istore 5, 2) := by decide +kernel
theorem dX9_clues_150 : decode cX9_clues 150 = .ok (.iinc 6 1, 3) := by decide +kernel
theorem dX9_clues_153 : decode cX9_clues 153 = .ok (.goto (-67), 3) := by decide +kernel
theorem dX9_clues_156 : decode cX9_clues 156 = .ok (.iload 5, 2) := by decide +kernel
theorem dX9_clues_158 : decode cX9_clues 158 = .ok (.ifCond .eq 14, 3) := by decide +kernel
theorem dX9_clues_161 : decode cX9_clues 161 = .ok (.aload_n 0, 1) := by decide +kernel
theorem dX9_clues_162 : decode cX9_clues 162 = .ok (.getfield 59, 3) := by decide +kernel
theorem dX9_clues_165 : decode cX9_clues 165 = .ok (.iload_n 3, 1) := by decide +kernel
theorem dX9_clues_166 : decode cX9_clues 166 = .ok (.iload 5, 2) := by decide +kernel
theorem dX9_clues_168 : decode cX9_clues 168 = .ok (.iastore, 1) := by decide +kernel
theorem dX9_clues_169 : decode cX9_clues 169 = .ok (.iinc 3 1, 3) := by decide +kernel
theorem dX9_clues_172 : decode cX9_clues 172 = .ok (.iinc 4 1, 3) := by decide +kernel
theorem dX9_clues_175 : decode cX9_clues 175 = .ok (.goto (-114), 3) := by decide +kernel
theorem dX9_clues_178 : decode cX9_clues 178 = .ok (.iconst 1, 1) := by decide +kernel
theorem dX9_clues_179 : decode cX9_clues 179 = .ok (.aload_n 0, 1) := by decide +kernel
theorem dX9_clues_180 : decode cX9_clues 180 = .ok (.getfield 17, 3) := by decide +kernel
theorem dX9_clues_183 : decode cX9_clues 183 = .ok (.aload_n 0, 1) := by decide +kernel
theorem dX9_clues_184 : decode cX9_clues 184 = .ok (.getfield 20, 3) := by decide +kernel
theorem dX9_clues_187 : decode cX9_clues 187 = .ok (.imul, 1) := by decide +kernel
theorem dX9_clues_188 : decode cX9_clues 188 = .ok (.ishl, 1) := by decide +kernel
theorem dX9_clues_189 : decode cX9_clues 189 = .ok (.iconst 1, 1) := by decide +kernel
theorem dX9_clues_190 : decode cX9_clues 190 = .ok (.isub, 1) := by decide +kernel
theorem dX9_clues_191 : decode cX9_clues 191 = .ok (.istore 4, 2) := by decide +kernel
theorem dX9_clues_193 : decode cX9_clues 193 = .ok (.aload_n 0, 1) := by decide +kernel
theorem dX9_clues_194 : decode cX9_clues 194 = .ok (.getfield 17, 3) := by decide +kernel
theorem dX9_clues_197 : decode cX9_clues 197 = .ok (.aload_n 0, 1) := by decide +kernel
theorem dX9_clues_198 : decode cX9_clues 198 = .ok (.getfield 20, 3) := by decide +kernel
theorem dX9_clues_201 : decode cX9_clues 201 = .ok (.imul, 1) := by decide +kernel
theorem dX9_clues_202 : decode cX9_clues 202 = .ok (.istore 5, 2) := by decide +kernel
theorem dX9_clues_204 : decode cX9_clues 204 = .ok (.iconst 0, 1) := by decide +kernel
theorem dX9_clues_205 : decode cX9_clues 205 = .ok (.istore 6, 2) := by decide +kernel
theorem dX9_clues_207 : decode cX9_clues 207 = .ok (.iload 6, 2) := by decide +kernel
theorem dX9_clues_209 : decode cX9_clues 209 = .ok (.iconst 1, 1) := by decide +kernel
theorem dX9_clues_210 : decode cX9_clues 210 = .ok (.aload_n 0, 1) := by decide +kernel
theorem dX9_clues_211 : decode cX9_clues 211 = .ok (.getfield 17, 3) := by decide +kernel
theorem dX9_clues_214 : decode cX9_clues 214 = .ok (.aload_n 0, 1) := by decide +kernel
theorem dX9_clues_215 : decode cX9_clues 215 = .ok (.getfield 20, 3) := by decide +kernel
theorem dX9_clues_218 : decode cX9_clues 218 = .ok (.imul, 1) := by decide +kernel
theorem dX9_clues_219 : decode cX9_clues 219 = .ok (.ishl, 1) := by decide +kernel
theorem dX9_clues_220 : decode cX9_clues 220 = .ok (.if_icmp .ge 143, 3) := by decide +kernel
theorem dX9_clues_223 : decode cX9_clues 223 = .ok (.iconst 0, 1) := by decide +kernel
theorem dX9_clues_224 : decode cX9_clues 224 = .ok (.istore 7, 2) := by decide +kernel
theorem dX9_clues_226 : decode cX9_clues 226 = .ok (.iconst 0, 1) := by decide +kernel
theorem dX9_clues_227 : decode cX9_clues 227 = .ok (.istore 8, 2) := by decide +kernel
theorem dX9_clues_229 : decode cX9_clues 229 = .ok (.iload 8, 2) := by decide +kernel
theorem dX9_clues_231 : decode cX9_clues 231 = .ok (.aload_n 0, 1) := by decide +kernel
theorem dX9_clues_232 : decode cX9_clues 232 = .ok (.getfield 17, 3) := by decide +kernel
theorem dX9_clues_235 : decode cX9_clues 235 = .ok (.aload_n 0, 1) := by decide +kernel
theorem dX9_clues_236 : decode cX9_clues 236 = .ok (.getfield 20, 3) := by decide +kernel
theorem dX9_clues_239 : decode cX9_clues 239 = .ok (.imul, 1) := by decide +kernel
theorem dX9_clues_240 : decode cX9_clues 240 = .ok (.if_icmp .ge 21, 3) := by decide +kernel
theorem dX9_clues_243 : decode cX9_clues 243 = .ok (.iload 7, 2) := by decide +kernel
theorem dX9_clues_245 : decode cX9_clues 245 = .ok (.iload 6, 2) := by decide +kernel
theorem dX9_clues_247 : decode cX9_clues 247 = .ok (.iload 8, 2) := by decide +kernel
theorem dX9_clues_249 : decode cX9_clues 249 = .ok (.ishr, 1) := by decide +kernel
theorem dX9_clues_250 : decode cX9_clues 250 = .ok (.iconst 1, 1) := by decide +kernel
theorem dX9_clues_251 : decode cX9_clues 251 = .ok (.iand, 1) := by decide +kernel
theorem dX9_clues_252 : decode cX9_clues 252 = .ok (.iadd, 1) := by decide +kernel
theorem dX9_clues_253 : decode cX9_clues 253 = .ok (.istore 7, 2) := by decide +kernel
theorem dX9_clues_255 : decode cX9_clues 255 = .ok (.iinc 8 1, 3) := by decide +kernel
theorem dX9_clues_258 : decode cX9_clues 258 = .ok (.goto (-29), 3) := by decide +kernel
theorem dX9_clues_261 : decode cX9_clues 261 = .ok (.iload 7, 2) := by decide +kernel
theorem dX9_clues_263 : decode cX9_clues 263 = .ok (.iload 5, 2) := by decide +kernel
theorem dX9_clues_265 : decode cX9_clues 265 = .ok (.if_icmp .lt 17, 3) := by decide +kernel
theorem dX9_clues_268 : decode cX9_clues 268 = .ok (.iload 7, 2) := by decide +kernel
theorem dX9_clues_270 : decode cX9_clues 270 = .ok (.iload 5, 2) := by decide +kernel
theorem dX9_clues_272 : decode cX9_clues 272 = .ok (.if_icmp .ne 14, 3) := by decide +kernel
theorem dX9_clues_275 : decode cX9_clues 275 = .ok (.iload 6, 2) := by decide +kernel
theorem dX9_clues_277 : decode cX9_clues 277 = .ok (.iload 4, 2) := by decide +kernel
theorem dX9_clues_279 : decode cX9_clues 279 = .ok (.if_icmp .ge 7, 3) := by decide +kernel
theorem dX9_clues_282 : decode cX9_clues 282 = .ok (.iconst 1, 1) := by decide +kernel
theorem dX9_clues_283 : decode cX9_clues 283 = .ok (.goto 4, 3) := by decide +kernel
theorem dX9_clues_286 : decode cX9_clues 286 = .ok (.iconst 0, 1) := by decide +kernel
theorem dX9_clues_287 : decode cX9_clues 287 = .ok (.istore 8, 2) := by decide +kernel
theorem dX9_clues_289 : decode cX9_clues 289 = .ok (.iconst 0, 1) := by decide +kernel
theorem dX9_clues_290 : decode cX9_clues 290 = .ok (.istore 9, 2) := by decide +kernel
theorem dX9_clues_292 : decode cX9_clues 292 = .ok (.iload 8, 2) := by decide +kernel
theorem dX9_clues_294 : decode cX9_clues 294 = .ok (.ifCond .eq 35, 3) := by decide +kernel
theorem dX9_clues_297 : decode cX9_clues 297 = .ok (.iload 9, 2) := by decide +kernel
theorem dX9_clues_299 : decode cX9_clues 299 = .ok (.iload_n 3, 1) := by decide +kernel
theorem dX9_clues_300 : decode cX9_clues 300 = .ok (.if_icmp .ge 29, 3) := by decide +kernel
theorem dX9_clues_303 : decode cX9_clues 303 = .ok (.aload_n 0, 1) := by decide +kernel
theorem dX9_clues_304 : decode cX9_clues 304 = .ok (.getfield 59, 3) := by decide +kernel
theorem dX9_clues_307 : decode cX9_clues 307 = .ok (.iload 9, 2) := by decide +kernel
theorem dX9_clues_309 : decode cX9_clues 309 = .ok (.iaload, 1) := by decide +kernel
theorem dX9_clues_310 : decode cX9_clues 310 = .ok (.iload 6, 2) := by decide +kernel
theorem dX9_clues_312 : decode cX9_clues 312 = .ok (.iand, 1) := by decide +kernel
theorem dX9_clues_313 : decode cX9_clues 313 = .ok (.ifCond .eq 7, 3) := by decide +kernel
theorem dX9_clues_316 : decode cX9_clues 316 = .ok (.iconst 1, 1) := by decide +kernel
theorem dX9_clues_317 : decode cX9_clues 317 = .ok (.goto 4, 3) := by decide +kernel
theorem dX9_clues_320 : decode cX9_clues 320 = .ok (.iconst 0, 1) := by decide +kernel
theorem dX9_clues_321 : decode cX9_clues 321 = .ok (.istore 8, 2) := by decide +kernel
theorem dX9_clues_323 : decode cX9_clues 323 = .ok (.iinc 9 1, 3) := by decide +kernel
theorem dX9_clues_326 : decode cX9_clues 326 = .ok (.goto (-34), 3) := by decide +kernel
theorem dX9_clues_329 : decode cX9_clues 329 = .ok (.iload 8, 2) := by decide +kernel
theorem dX9_clues_331 : decode cX9_clues 331 = .ok (.ifCond .eq 8, 3) := by decide +kernel
theorem dX9_clues_334 : decode cX9_clues 334 = .ok (.iload 6, 2) := by decide +kernel
theorem dX9_clues_336 : decode cX9_clues 336 = .ok (.goto 5, 3) := by decide +kernel
theorem dX9_clues_339 : decode cX9_clues 339 = .ok (.iload 4, 2) := by decide +kernel
theorem dX9_clues_341 : decode cX9_clues 341 = .ok (.istore 4, 2) := by decide +kernel
theorem dX9_clues_343 : decode cX9_clues 343 = .ok (.iload 8, 2) := by decide +kernel
theorem dX9_clues_345 : decode cX9_clues 345 = .ok (.ifCond .eq 8, 3) := by decide +kernel
theorem dX9_clues_348 : decode cX9_clues 348 = .ok (.iload 7, 2) := by decide +kernel
theorem dX9_clues_350 : decode cX9_clues 350 = .ok (.goto 5, 3) := by decide +kernel
theorem dX9_clues_353 : decode cX9_clues 353 = .ok (.iload 5, 2) := by decide +kernel
theorem dX9_clues_355 : decode cX9_clues 355 = .ok (.istore 5, 2) := by decide +kernel
theorem dX9_clues_357 : decode cX9_clues 357 = .ok (.iinc 6 1, 3) := by decide +kernel
theorem dX9_clues_360 : decode cX9_clues 360 = .ok (.goto (-153), 3) := by decide +kernel
theorem dX9_clues_363 : decode cX9_clues 363 = .ok (.iload 4, 2) := by decide +kernel
theorem dX9_clues_365 : decode cX9_clues 365 = .ok (.ireturn, 1) := by decide +kernel
set_option maxRecDepth 20000 in
theorem ggX9_letter_X9_in : GoodIn wsX9_letter wsX9_in := goodIn_r _ [6] (by decide +kernel) (by decide +kernel)
set_option maxRecDepth 20000 in
theorem gX9_letter_X9_in : GoodIn wsX9_letter (va_wsS RX9 95 yX9_in wsX9_in) := goodIn_app (goodIn_of _ (by decide +kernel)) ggX9_letter_X9_in
theorem dX9_letter_0 : decode cX9_letter 0 = .ok (.iload_n 1, 1) := by decide +kernel
theorem dX9_letter_1 : decode cX9_letter 1 = .ok (.i2l, 1) := by decide +kernel
theorem dX9_letter_2 : decode cX9_letter 2 = .ok (.lconst 0, 1) := by decide +kernel
theorem dX9_letter_3 : decode cX9_letter 3 = .ok (.aload_n 0, 1) := by decide +kernel
theorem dX9_letter_4 : decode cX9_letter 4 = .ok (.getfield 7, 3) := by decide +kernel
theorem dX9_letter_7 : decode cX9_letter 7 = .ok (.iconst 1, 1) := by decide +kernel
theorem dX9_letter_8 : decode cX9_letter 8 = .ok (.isub, 1) := by decide +kernel
theorem dX9_letter_9 : decode cX9_letter 9 = .ok (.i2l, 1) := by decide +kernel
theorem dX9_letter_10 : decode cX9_letter 10 = .ok (.invokestatic 95, 3) := by decide +kernel
theorem dX9_letter_13 : decode cX9_letter 13 = .ok (.ifCond .ne 6, 3) := by decide +kernel
theorem dX9_letter_16 : decode cX9_letter 16 = .ok (.bipush (-2), 2) := by decide +kernel
theorem dX9_letter_18 : decode cX9_letter 18 = .ok (.ireturn, 1) := by decide +kernel
theorem dX9_letter_19 : decode cX9_letter 19 = .ok (.iload_n 2, 1) := by decide +kernel
theorem dX9_letter_20 : decode cX9_letter 20 = .ok (.i2l, 1) := by decide +kernel
theorem dX9_letter_21 : decode cX9_letter 21 = .ok (.lconst 0, 1) := by decide +kernel
theorem dX9_letter_22 : decode cX9_letter 22 = .ok (.lconst 1, 1) := by decide +kernel
theorem dX9_letter_23 : decode cX9_letter 23 = .ok (.invokestatic 95, 3) := by decide +kernel
theorem dX9_letter_26 : decode cX9_letter 26 = .ok (.ifCond .ne 6, 3) := by decide +kernel
theorem dX9_letter_29 : decode cX9_letter 29 = .ok (.bipush (-3), 2) := by decide +kernel
theorem dX9_letter_31 : decode cX9_letter 31 = .ok (.ireturn, 1) := by decide +kernel
theorem dX9_letter_32 : decode cX9_letter 32 = .ok (.aload_n 0, 1) := by decide +kernel
theorem dX9_letter_33 : decode cX9_letter 33 = .ok (.getfield 27, 3) := by decide +kernel
theorem dX9_letter_36 : decode cX9_letter 36 = .ok (.iload_n 1, 1) := by decide +kernel
theorem dX9_letter_37 : decode cX9_letter 37 = .ok (.iaload, 1) := by decide +kernel
theorem dX9_letter_38 : decode cX9_letter 38 = .ok (.istore_n 3, 1) := by decide +kernel
theorem dX9_letter_39 : decode cX9_letter 39 = .ok (.aload_n 0, 1) := by decide +kernel
theorem dX9_letter_40 : decode cX9_letter 40 = .ok (.getfield 27, 3) := by decide +kernel
theorem dX9_letter_43 : decode cX9_letter 43 = .ok (.iload_n 1, 1) := by decide +kernel
theorem dX9_letter_44 : decode cX9_letter 44 = .ok (.iload_n 2, 1) := by decide +kernel
theorem dX9_letter_45 : decode cX9_letter 45 = .ok (.iastore, 1) := by decide +kernel
theorem dX9_letter_46 : decode cX9_letter 46 = .ok (.iload_n 3, 1) := by decide +kernel
theorem dX9_letter_47 : decode cX9_letter 47 = .ok (.ireturn, 1) := by decide +kernel
set_option maxRecDepth 20000 in
theorem ggX9_lookOf_X9_cellOf : GoodIn wsX9_lookOf wsX9_cellOf := goodIn_r _ [6, 7, 8, 9, 10, 11, 12, 13, 14, 15, 16, 17, 18, 19, 20, 21, 22, 23, 24, 25, 26, 27, 28, 29, 30, 31, 32, 33, 34, 35, 36, 37] (by decide +kernel) (by decide +kernel)
set_option maxRecDepth 20000 in
theorem gX9_lookOf_X9_cellOf : GoodIn wsX9_lookOf (wsV RX9 146 RX9 yX9_cellOf wsX9_cellOf) := goodIn_app (goodIn_of _ (by decide +kernel)) ggX9_lookOf_X9_cellOf
theorem dX9_lookOf_0 : decode cX9_lookOf 0 = .ok (.iconst 0, 1) := by decide +kernel
theorem dX9_lookOf_1 : decode cX9_lookOf 1 = .ok (.istore_n 3, 1) := by decide +kernel
theorem dX9_lookOf_2 : decode cX9_lookOf 2 = .ok (.iconst 0, 1) := by decide +kernel
theorem dX9_lookOf_3 : decode cX9_lookOf 3 = .ok (.istore 4, 2) := by decide +kernel
theorem dX9_lookOf_5 : decode cX9_lookOf 5 = .ok (.iload 4, 2) := by decide +kernel
theorem dX9_lookOf_7 : decode cX9_lookOf 7 = .ok (.iload_n 2, 1) := by decide +kernel
theorem dX9_lookOf_8 : decode cX9_lookOf 8 = .ok (.if_icmp .ge 28, 3) := by decide +kernel
theorem dX9_lookOf_11 : decode cX9_lookOf 11 = .ok (.iload_n 3, 1) := by decide +kernel
theorem dX9_lookOf_12 : decode cX9_lookOf 12 = .ok (.aload_n 0, 1) := by decide +kernel
theorem dX9_lookOf_13 : decode cX9_lookOf 13 = .ok (.getfield 27, 3) := by decide +kernel
theorem dX9_lookOf_16 : decode cX9_lookOf 16 = .ok (.aload_n 0, 1) := by decide +kernel
theorem dX9_lookOf_17 : decode cX9_lookOf 17 = .ok (.iload_n 1, 1) := by decide +kernel
theorem dX9_lookOf_18 : decode cX9_lookOf 18 = .ok (.iload 4, 2) := by decide +kernel
theorem dX9_lookOf_20 : decode cX9_lookOf 20 = .ok (.iload_n 2, 1) := by decide +kernel
theorem dX9_lookOf_21 : decode cX9_lookOf 21 = .ok (.invokevirtual 146, 3) := by decide +kernel
theorem dX9_lookOf_24 : decode cX9_lookOf 24 = .ok (.iaload, 1) := by decide +kernel
theorem dX9_lookOf_25 : decode cX9_lookOf 25 = .ok (.iload 4, 2) := by decide +kernel
theorem dX9_lookOf_27 : decode cX9_lookOf 27 = .ok (.ishl, 1) := by decide +kernel
theorem dX9_lookOf_28 : decode cX9_lookOf 28 = .ok (.ior, 1) := by decide +kernel
theorem dX9_lookOf_29 : decode cX9_lookOf 29 = .ok (.istore_n 3, 1) := by decide +kernel
theorem dX9_lookOf_30 : decode cX9_lookOf 30 = .ok (.iinc 4 1, 3) := by decide +kernel
theorem dX9_lookOf_33 : decode cX9_lookOf 33 = .ok (.goto (-28), 3) := by decide +kernel
theorem dX9_lookOf_36 : decode cX9_lookOf 36 = .ok (.iload_n 3, 1) := by decide +kernel
theorem dX9_lookOf_37 : decode cX9_lookOf 37 = .ok (.ireturn, 1) := by decide +kernel
set_option maxRecDepth 20000 in
theorem ggX9_countLook_X9_layFits : GoodIn wsX9_countLook wsX9_layFits := goodIn_r _ [7, 1, 8, 9, 10, 11, 12, 13, 6, 14, 15, 16, 17, 18, 19, 20, 21, 22, 23, 24, 39, 40, 41, 42, 43, 44, 45, 46, 47, 48, 49, 50, 51, 52, 53, 54, 55, 56, 57, 58, 59, 60, 61, 62, 63, 64, 65, 66, 67, 68] (by decide +kernel) (by decide +kernel)
set_option maxRecDepth 20000 in
theorem gX9_countLook_X9_layFits : GoodIn wsX9_countLook (wsV RX9 166 RX9 yX9_layFits wsX9_layFits) := goodIn_app (goodIn_of _ (by decide +kernel)) ggX9_countLook_X9_layFits
set_option maxRecDepth 20000 in
theorem ggX9_countLook_X9_lookOf : GoodIn wsX9_countLook wsX9_lookOf := goodIn_r _ [28, 29, 21, 22, 23, 6, 24, 15, 39, 40, 41, 42, 43, 44, 45, 46, 47, 48, 49, 50, 51, 52, 53, 54, 55, 56, 57, 58, 59, 60, 61, 62, 63, 64, 65, 66, 67, 68] (by decide +kernel) (by decide +kernel)
set_option maxRecDepth 20000 in
theorem gX9_countLook_X9_lookOf : GoodIn wsX9_countLook (wsV RX9 194 RX9 yX9_lookOf wsX9_lookOf) := goodIn_app (goodIn_of _ (by decide +kernel)) ggX9_countLook_X9_lookOf
set_option maxRecDepth 20000 in
theorem ggX9_countLook_X9_layWays : GoodIn wsX9_countLook wsX9_layWays := goodIn_r _ [33, 1, 2, 9, 10, 34, 8, 35, 36, 6, 37, 38, 39, 40, 41, 42, 43, 44, 45, 46, 47, 48, 49, 50, 51, 52, 53, 54, 55, 56, 57, 58, 59, 60, 61, 62, 63, 64, 65, 66, 67, 68] (by decide +kernel) (by decide +kernel)
set_option maxRecDepth 20000 in
theorem gX9_countLook_X9_layWays : GoodIn wsX9_countLook (wsV RX9 172 RX9 yX9_layWays wsX9_layWays) := goodIn_app (goodIn_of _ (by decide +kernel)) ggX9_countLook_X9_layWays
theorem dX9_countLook_0 : decode cX9_countLook 0 = .ok (.aload_n 0, 1) := by decide +kernel
theorem dX9_countLook_1 : decode cX9_countLook 1 = .ok (.iload_n 2, 1) := by decide +kernel
theorem dX9_countLook_2 : decode cX9_countLook 2 = .ok (.invokevirtual 166, 3) := by decide +kernel
theorem dX9_countLook_5 : decode cX9_countLook 5 = .ok (.iconst 0, 1) := by decide +kernel
theorem dX9_countLook_6 : decode cX9_countLook 6 = .ok (.istore 4, 2) := by decide +kernel
theorem dX9_countLook_8 : decode cX9_countLook 8 = .ok (.iload 4, 2) := by decide +kernel
theorem dX9_countLook_10 : decode cX9_countLook 10 = .ok (.aload_n 0, 1) := by decide +kernel
theorem dX9_countLook_11 : decode cX9_countLook 11 = .ok (.getfield 153, 3) := by decide +kernel
theorem dX9_countLook_14 : decode cX9_countLook 14 = .ok (.if_icmp .ge 69, 3) := by decide +kernel
theorem dX9_countLook_17 : decode cX9_countLook 17 = .ok (.aload_n 0, 1) := by decide +kernel
theorem dX9_countLook_18 : decode cX9_countLook 18 = .ok (.iload 4, 2) := by decide +kernel
theorem dX9_countLook_20 : decode cX9_countLook 20 = .ok (.iload_n 2, 1) := by decide +kernel
theorem dX9_countLook_21 : decode cX9_countLook 21 = .ok (.invokevirtual 194, 3) := by decide +kernel
theorem dX9_countLook_24 : decode cX9_countLook 24 = .ok (.istore 5, 2) := by decide +kernel
theorem dX9_countLook_26 : decode cX9_countLook 26 = .ok (.iconst 0, 1) := by decide +kernel
theorem dX9_countLook_27 : decode cX9_countLook 27 = .ok (.istore 6, 2) := by decide +kernel
theorem dX9_countLook_29 : decode cX9_countLook 29 = .ok (.iload 6, 2) := by decide +kernel
theorem dX9_countLook_31 : decode cX9_countLook 31 = .ok (.iload_n 1, 1) := by decide +kernel
theorem dX9_countLook_32 : decode cX9_countLook 32 = .ok (.if_icmp .ge 45, 3) := by decide +kernel
theorem dX9_countLook_35 : decode cX9_countLook 35 = .ok (.aload_n 0, 1) := by decide +kernel
theorem dX9_countLook_36 : decode cX9_countLook 36 = .ok (.getfield 49, 3) := by decide +kernel
theorem dX9_countLook_39 : decode cX9_countLook 39 = .ok (.sipush 243, 3) := by decide +kernel
theorem dX9_countLook_42 : decode cX9_countLook 42 = .ok (.iload 6, 2) := by decide +kernel
theorem dX9_countLook_44 : decode cX9_countLook 44 = .ok (.imul, 1) := by decide +kernel
