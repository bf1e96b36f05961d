theorem dX4_gaps_27 : decode cX4_gaps 27 = .ok (.iinc 3 1, 3) := by decide +kernel
theorem dX4_gaps_30 : decode cX4_gaps 30 = .ok (.goto (-21), 3) := by decide +kernel
theorem dX4_gaps_33 : decode cX4_gaps 33 = .ok (.iload_n 1, 1) := by decide +kernel
theorem dX4_gaps_34 : decode cX4_gaps 34 = .ok (.ireturn, 1) := by decide +kernel
theorem dX4_at_0 : decode cX4_at 0 = .ok (.iload_n 1, 1) := by decide +kernel
theorem dX4_at_1 : decode cX4_at 1 = .ok (.ifCond .lt 39, 3) := by decide +kernel
theorem dX4_at_4 : decode cX4_at 4 = .ok (.iload_n 1, 1) := by decide +kernel
theorem dX4_at_5 : decode cX4_at 5 = .ok (.aload_n 0, 1) := by decide +kernel
theorem dX4_at_6 : decode cX4_at 6 = .ok (.getfield 9, 3) := by decide +kernel
theorem dX4_at_9 : decode cX4_at 9 = .ok (.if_icmp .ge 31, 3) := by decide +kernel
theorem dX4_at_12 : decode cX4_at 12 = .ok (.iload_n 2, 1) := by decide +kernel
theorem dX4_at_13 : decode cX4_at 13 = .ok (.ifCond .lt 27, 3) := by decide +kernel
theorem dX4_at_16 : decode cX4_at 16 = .ok (.iload_n 2, 1) := by decide +kernel
theorem dX4_at_17 : decode cX4_at 17 = .ok (.aload_n 0, 1) := by decide +kernel
theorem dX4_at_18 : decode cX4_at 18 = .ok (.getfield 15, 3) := by decide +kernel
theorem dX4_at_21 : decode cX4_at 21 = .ok (.if_icmp .ge 19, 3) := by decide +kernel
theorem dX4_at_24 : decode cX4_at 24 = .ok (.aload_n 0, 1) := by decide +kernel
theorem dX4_at_25 : decode cX4_at 25 = .ok (.getfield 18, 3) := by decide +kernel
theorem dX4_at_28 : decode cX4_at 28 = .ok (.aload_n 0, 1) := by decide +kernel
theorem dX4_at_29 : decode cX4_at 29 = .ok (.getfield 15, 3) := by decide +kernel
theorem dX4_at_32 : decode cX4_at 32 = .ok (.iload_n 1, 1) := by decide +kernel
theorem dX4_at_33 : decode cX4_at 33 = .ok (.imul, 1) := by decide +kernel
theorem dX4_at_34 : decode cX4_at 34 = .ok (.iload_n 2, 1) := by decide +kernel
theorem dX4_at_35 : decode cX4_at 35 = .ok (.iadd, 1) := by decide +kernel
theorem dX4_at_36 : decode cX4_at 36 = .ok (.iaload, 1) := by decide +kernel
theorem dX4_at_37 : decode cX4_at 37 = .ok (.goto 4, 3) := by decide +kernel
theorem dX4_at_40 : decode cX4_at 40 = .ok (.iconst 3, 1) := by decide +kernel
theorem dX4_at_41 : decode cX4_at 41 = .ok (.ireturn, 1) := by decide +kernel
set_option maxRecDepth 20000 in
theorem ggX4_block_X4_at : GoodIn wsX4_block wsX4_at := goodIn_r _ [5, 6, 7, 8, 9, 10, 11] (by decide +kernel) (by decide +kernel)
set_option maxRecDepth 20000 in
theorem gX4_block_X4_at : GoodIn wsX4_block (wsV RX4 32 RX4 yX4_at wsX4_at) := goodIn_app (goodIn_of _ (by decide +kernel)) ggX4_block_X4_at
theorem dX4_block_0 : decode cX4_block 0 = .ok (.aload_n 0, 1) := by decide +kernel
theorem dX4_block_1 : decode cX4_block 1 = .ok (.iload_n 1, 1) := by decide +kernel
theorem dX4_block_2 : decode cX4_block 2 = .ok (.iconst 1, 1) := by decide +kernel
theorem dX4_block_3 : decode cX4_block 3 = .ok (.isub, 1) := by decide +kernel
theorem dX4_block_4 : decode cX4_block 4 = .ok (.iload_n 2, 1) := by decide +kernel
theorem dX4_block_5 : decode cX4_block 5 = .ok (.iconst 1, 1) := by decide +kernel
theorem dX4_block_6 : decode cX4_block 6 = .ok (.isub, 1) := by decide +kernel
theorem dX4_block_7 : decode cX4_block 7 = .ok (.invokevirtual 32, 3) := by decide +kernel
theorem dX4_block_10 : decode cX4_block 10 = .ok (.bipush 6, 2) := by decide +kernel
theorem dX4_block_12 : decode cX4_block 12 = .ok (.ishl, 1) := by decide +kernel
theorem dX4_block_13 : decode cX4_block 13 = .ok (.aload_n 0, 1) := by decide +kernel
theorem dX4_block_14 : decode cX4_block 14 = .ok (.iload_n 1, 1) := by decide +kernel
theorem dX4_block_15 : decode cX4_block 15 = .ok (.iconst 1, 1) := by decide +kernel
theorem dX4_block_16 : decode cX4_block 16 = .ok (.isub, 1) := by decide +kernel
theorem dX4_block_17 : decode cX4_block 17 = .ok (.iload_n 2, 1) := by decide +kernel
theorem dX4_block_18 : decode cX4_block 18 = .ok (.invokevirtual 32, 3) := by decide +kernel
theorem dX4_block_21 : decode cX4_block 21 = .ok (.iconst 4, 1) := by decide +kernel
theorem dX4_block_22 : decode cX4_block 22 = .ok (.ishl, 1) := by decide +kernel
theorem dX4_block_23 : decode cX4_block 23 = .ok (.ior, 1) := by decide +kernel
theorem dX4_block_24 : decode cX4_block 24 = .ok (.aload_n 0, 1) := by decide +kernel
theorem dX4_block_25 : decode cX4_block 25 = .ok (.iload_n 1, 1) := by decide +kernel
theorem dX4_block_26 : decode cX4_block 26 = .ok (.iload_n 2, 1) := by decide +kernel
theorem dX4_block_27 : decode cX4_block 27 = .ok (.iconst 1, 1) := by decide +kernel
theorem dX4_block_28 : decode cX4_block 28 = .ok (.isub, 1) := by decide +kernel
theorem dX4_block_29 : decode cX4_block 29 = .ok (.invokevirtual 32, 3) := by decide +kernel
theorem dX4_block_32 : decode cX4_block 32 = .ok (.iconst 2, 1) := by decide +kernel
theorem dX4_block_33 : decode cX4_block 33 = .ok (.ishl, 1) := by decide +kernel
theorem dX4_block_34 : decode cX4_block 34 = .ok (.ior, 1) := by decide +kernel
theorem dX4_block_35 : decode cX4_block 35 = .ok (.aload_n 0, 1) := by decide +kernel
theorem dX4_block_36 : decode cX4_block 36 = .ok (.iload_n 1, 1) := by decide +kernel
theorem dX4_block_37 : decode cX4_block 37 = .ok (.iload_n 2, 1) := by decide +kernel
theorem dX4_block_38 : decode cX4_block 38 = .ok (.invokevirtual 32, 3) := by decide +kernel
theorem dX4_block_41 : decode cX4_block 41 = .ok (.ior, 1) := by decide +kernel
theorem dX4_block_42 : decode cX4_block 42 = .ok (.ireturn, 1) := by decide +kernel
theorem dX5_init_0 : decode cX5_init 0 = .ok (.aload_n 0, 1) := by decide +kernel
theorem dX5_init_1 : decode cX5_init 1 = .ok (.invokespecial 3, 3) := by decide +kernel
theorem dX5_init_4 : decode cX5_init 4 = .ok (.aload_n 0, 1) := by decide +kernel
theorem dX5_init_5 : decode cX5_init 5 = .ok (.bipush 27, 2) := by decide +kernel
theorem dX5_init_7 : decode cX5_init 7 = .ok (.newarray .int, 2) := by decide +kernel
theorem dX5_init_9 : decode cX5_init 9 = .ok (.putfield 9, 3) := by decide +kernel
theorem dX5_init_12 : decode cX5_init 12 = .ok (.aload_n 0, 1) := by decide +kernel
theorem dX5_init_13 : decode cX5_init 13 = .ok (.iconst 0, 1) := by decide +kernel
theorem dX5_init_14 : decode cX5_init 14 = .ok (.putfield 15, 3) := by decide +kernel
theorem dX5_init_17 : decode cX5_init 17 = .ok (.aload_n 0, 1) := by decide +kernel
theorem dX5_init_18 : decode cX5_init 18 = .ok (.iconst 0, 1) := by decide +kernel
theorem dX5_init_19 : decode cX5_init 19 = .ok (.putfield 19, 3) := by decide +kernel
theorem dX5_init_22 : decode cX5_init 22 = .ok (.aload_n 0, 1) := by decide +kernel
theorem dX5_init_23 : decode cX5_init 23 = .ok (.bipush 27, 2) := by decide +kernel
theorem dX5_init_25 : decode cX5_init 25 = .ok (.newarray .int, 2) := by decide +kernel
theorem dX5_init_27 : decode cX5_init 27 = .ok (.putfield 22, 3) := by decide +kernel
theorem dX5_init_30 : decode cX5_init 30 = .ok (.aload_n 0, 1) := by decide +kernel
theorem dX5_init_31 : decode cX5_init 31 = .ok (.sipush 729, 3) := by decide +kernel
theorem dX5_init_34 : decode cX5_init 34 = .ok (.newarray .long, 2) := by decide +kernel
theorem dX5_init_36 : decode cX5_init 36 = .ok (.putfield 25, 3) := by decide +kernel
theorem dX5_init_39 : decode cX5_init 39 = .ok (.aload_n 0, 1) := by decide +kernel
theorem dX5_init_40 : decode cX5_init 40 = .ok (.sipush 729, 3) := by decide +kernel
theorem dX5_init_43 : decode cX5_init 43 = .ok (.newarray .long, 2) := by decide +kernel
theorem dX5_init_45 : decode cX5_init 45 = .ok (.putfield 29, 3) := by decide +kernel
theorem dX5_init_48 : decode cX5_init 48 = .ok (.aload_n 0, 1) := by decide +kernel
theorem dX5_init_49 : decode cX5_init 49 = .ok (.bipush 27, 2) := by decide +kernel
theorem dX5_init_51 : decode cX5_init 51 = .ok (.newarray .long, 2) := by decide +kernel
theorem dX5_init_53 : decode cX5_init 53 = .ok (.putfield 32, 3) := by decide +kernel
theorem dX5_init_56 : decode cX5_init 56 = .ok (.aload_n 0, 1) := by decide +kernel
theorem dX5_init_57 : decode cX5_init 57 = .ok (.bipush 27, 2) := by decide +kernel
theorem dX5_init_59 : decode cX5_init 59 = .ok (.newarray .long, 2) := by decide +kernel
theorem dX5_init_61 : decode cX5_init 61 = .ok (.putfield 35, 3) := by decide +kernel
theorem dX5_init_64 : decode cX5_init 64 = .ok (.aload_n 0, 1) := by decide +kernel
theorem dX5_init_65 : decode cX5_init 65 = .ok (.aload_n 1, 1) := by decide +kernel
theorem dX5_init_66 : decode cX5_init 66 = .ok (.putfield 38, 3) := by decide +kernel
theorem dX5_init_69 : decode cX5_init 69 = .ok (.aload_n 0, 1) := by decide +kernel
theorem dX5_init_70 : decode cX5_init 70 = .ok (.aload_n 2, 1) := by decide +kernel
theorem dX5_init_71 : decode cX5_init 71 = .ok (.putfield 42, 3) := by decide +kernel
theorem dX5_init_74 : decode cX5_init 74 = .ok (.return_, 1) := by decide +kernel
set_option maxRecDepth 20000 in
theorem ggX5_lay_X2_list : GoodIn wsX5_lay wsX2_list := goodIn_r _ [12, 13, 14, 15, 16, 17, 18, 19, 20, 21, 11, 22, 46, 47, 48, 49, 50, 51] (by decide +kernel) (by decide +kernel)
set_option maxRecDepth 20000 in
theorem gX5_lay_X2_list : GoodIn wsX5_lay (wsV RX5 46 RX2 yX2_list wsX2_list) := goodIn_app (goodIn_of _ (by decide +kernel)) ggX5_lay_X2_list
set_option maxRecDepth 20000 in
theorem ggX5_lay_X5_bit : GoodIn wsX5_lay wsX5_bit := goodIn_r _ [27, 28, 1, 29, 30, 31, 32, 33, 34, 35, 36, 37, 38, 39, 40, 41, 42, 43, 44, 45, 46, 47, 48, 49, 50, 51, 52] (by decide +kernel) (by decide +kernel)
set_option maxRecDepth 20000 in
theorem gX5_lay_X5_bit : GoodIn wsX5_lay (wsV RX5 61 RX5 yX5_bit wsX5_bit) := goodIn_app (goodIn_of _ (by decide +kernel)) ggX5_lay_X5_bit
theorem dX5_lay_0 : decode cX5_lay 0 = .ok (.aload_n 0, 1) := by decide +kernel
theorem dX5_lay_1 : decode cX5_lay 1 = .ok (.getfield 42, 3) := by decide +kernel
theorem dX5_lay_4 : decode cX5_lay 4 = .ok (.iload_n 1, 1) := by decide +kernel
theorem dX5_lay_5 : decode cX5_lay 5 = .ok (.iload_n 2, 1) := by decide +kernel
theorem dX5_lay_6 : decode cX5_lay 6 = .ok (.invokevirtual 46, 3) := by decide +kernel
theorem dX5_lay_9 : decode cX5_lay 9 = .ok (.aload_n 0, 1) := by decide +kernel
theorem dX5_lay_10 : decode cX5_lay 10 = .ok (.iconst 0, 1) := by decide +kernel
theorem dX5_lay_11 : decode cX5_lay 11 = .ok (.putfield 15, 3) := by decide +kernel
theorem dX5_lay_14 : decode cX5_lay 14 = .ok (.aload_n 0, 1) := by decide +kernel
theorem dX5_lay_15 : decode cX5_lay 15 = .ok (.iconst 0, 1) := by decide +kernel
theorem dX5_lay_16 : decode cX5_lay 16 = .ok (.putfield 19, 3) := by decide +kernel
theorem dX5_lay_19 : decode cX5_lay 19 = .ok (.iconst 0, 1) := by decide +kernel
theorem dX5_lay_20 : decode cX5_lay 20 = .ok (.istore_n 3, 1) := by decide +kernel
theorem dX5_lay_21 : decode cX5_lay 21 = .ok (.iload_n 3, 1) := by decide +kernel
theorem dX5_lay_22 : decode cX5_lay 22 = .ok (.aload_n 0, 1) := by decide +kernel
theorem dX5_lay_23 : decode cX5_lay 23 = .ok (.getfield 42, 3) := by decide +kernel
theorem dX5_lay_26 : decode cX5_lay 26 = .ok (.getfield 52, 3) := by decide +kernel
theorem dX5_lay_29 : decode cX5_lay 29 = .ok (.if_icmp .ge 121, 3) := by decide +kernel
theorem dX5_lay_32 : decode cX5_lay 32 = .ok (.aload_n 0, 1) := by decide +kernel
theorem dX5_lay_33 : decode cX5_lay 33 = .ok (.getfield 42, 3) := by decide +kernel
theorem dX5_lay_36 : decode cX5_lay 36 = .ok (.getfield 55, 3) := by decide +kernel
theorem dX5_lay_39 : decode cX5_lay 39 = .ok (.iload_n 3, 1) := by decide +kernel
theorem dX5_lay_40 : decode cX5_lay 40 = .ok (.iaload, 1) := by decide +kernel
theorem dX5_lay_41 : decode cX5_lay 41 = .ok (.istore 4, 2) := by decide +kernel
theorem dX5_lay_43 : decode cX5_lay 43 = .ok (.aload_n 0, 1) := by decide +kernel
theorem dX5_lay_44 : decode cX5_lay 44 = .ok (.dup, 1) := by decide +kernel
theorem dX5_lay_45 : decode cX5_lay 45 = .ok (.getfield 15, 3) := by decide +kernel
theorem dX5_lay_48 : decode cX5_lay 48 = .ok (.aload_n 0, 1) := by decide +kernel
theorem dX5_lay_49 : decode cX5_lay 49 = .ok (.aload_n 0, 1) := by decide +kernel
theorem dX5_lay_50 : decode cX5_lay 50 = .ok (.getfield 42, 3) := by decide +kernel
theorem dX5_lay_53 : decode cX5_lay 53 = .ok (.getfield 58, 3) := by decide +kernel
theorem dX5_lay_56 : decode cX5_lay 56 = .ok (.iload 4, 2) := by decide +kernel
theorem dX5_lay_58 : decode cX5_lay 58 = .ok (.iload_n 3, 1) := by decide +kernel
theorem dX5_lay_59 : decode cX5_lay 59 = .ok (.invokevirtual 61, 3) := by decide +kernel
theorem dX5_lay_62 : decode cX5_lay 62 = .ok (.ior, 1) := by decide +kernel
theorem dX5_lay_63 : decode cX5_lay 63 = .ok (.putfield 15, 3) := by decide +kernel
theorem dX5_lay_66 : decode cX5_lay 66 = .ok (.aload_n 0, 1) := by decide +kernel
theorem dX5_lay_67 : decode cX5_lay 67 = .ok (.dup, 1) := by decide +kernel
theorem dX5_lay_68 : decode cX5_lay 68 = .ok (.getfield 19, 3) := by decide +kernel
theorem dX5_lay_71 : decode cX5_lay 71 = .ok (.aload_n 0, 1) := by decide +kernel
theorem dX5_lay_72 : decode cX5_lay 72 = .ok (.iload 4, 2) := by decide +kernel
theorem dX5_lay_74 : decode cX5_lay 74 = .ok (.aload_n 0, 1) := by decide +kernel
theorem dX5_lay_75 : decode cX5_lay 75 = .ok (.getfield 42, 3) := by decide +kernel
theorem dX5_lay_78 : decode cX5_lay 78 = .ok (.getfield 58, 3) := by decide +kernel
theorem dX5_lay_81 : decode cX5_lay 81 = .ok (.iload_n 3, 1) := by decide +kernel
theorem dX5_lay_82 : decode cX5_lay 82 = .ok (.invokevirtual 61, 3) := by decide +kernel
theorem dX5_lay_85 : decode cX5_lay 85 = .ok (.ior, 1) := by decide +kernel
theorem dX5_lay_86 : decode cX5_lay 86 = .ok (.putfield 19, 3) := by decide +kernel
theorem dX5_lay_89 : decode cX5_lay 89 = .ok (.aload_n 0, 1) := by decide +kernel
theorem dX5_lay_90 : decode cX5_lay 90 = .ok (.getfield 9, 3) := by decide +kernel
theorem dX5_lay_93 : decode cX5_lay 93 = .ok (.iload_n 3, 1) := by decide +kernel
theorem dX5_lay_94 : decode cX5_lay 94 = .ok (.iconst 0, 1) := by decide +kernel
theorem dX5_lay_95 : decode cX5_lay 95 = .ok (.iastore, 1) := by decide +kernel
theorem dX5_lay_96 : decode cX5_lay 96 = .ok (.iconst 0, 1) := by decide +kernel
theorem dX5_lay_97 : decode cX5_lay 97 = .ok (.istore 5, 2) := by decide +kernel
theorem dX5_lay_99 : decode cX5_lay 99 = .ok (.iload 5, 2) := by decide +kernel
theorem dX5_lay_101 : decode cX5_lay 101 = .ok (.aload_n 0, 1) := by decide +kernel
theorem dX5_lay_102 : decode cX5_lay 102 = .ok (.getfield 42, 3) := by decide +kernel
theorem dX5_lay_105 : decode cX5_lay 105 = .ok (.getfield 52, 3) := by decide +kernel
theorem dX5_lay_108 : decode cX5_lay 108 = .ok (.if_icmp .ge 36, 3) := by decide +kernel
theorem dX5_lay_111 : decode cX5_lay 111 = .ok (.aload_n 0, 1) := by decide +kernel
theorem dX5_lay_112 : decode cX5_lay 112 = .ok (.getfield 9, 3) := by decide +kernel
theorem dX5_lay_115 : decode cX5_lay 115 = .ok (.iload_n 3, 1) := by decide +kernel
theorem dX5_lay_116 : decode cX5_lay 116 = .ok (.dup2, 1) := by decide +kernel
theorem dX5_lay_117 : decode cX5_lay 117 = .ok (.iaload, 1) := by decide +kernel
theorem dX5_lay_118 : decode cX5_lay 118 = .ok (.aload_n 0, 1) := by decide +kernel
theorem dX5_lay_119 : decode cX5_lay 119 = .ok (.iload 4, 2) := by decide +kernel
theorem dX5_lay_121 : decode cX5_lay 121 = .ok (.aload_n 0, 1) := by decide +kernel
theorem dX5_lay_122 : decode cX5_lay 122 = .ok (.getfield 42, 3) := by decide +kernel
theorem dX5_lay_125 : decode cX5_lay 125 = .ok (.getfield 55, 3) := by decide +kernel
theorem dX5_lay_128 : decode cX5_lay 128 = .ok (.iload 5, 2) := by decide +kernel
theorem dX5_lay_130 : decode cX5_lay 130 = .ok (.iaload, 1) := by decide +kernel
theorem dX5_lay_131 : decode cX5_lay 131 = .ok (.iload 5, 2) := by decide +kernel
theorem dX5_lay_133 : decode cX5_lay 133 = .ok (.invokevirtual 61, 3) := by decide +kernel
theorem dX5_lay_136 : decode cX5_lay 136 = .ok (.ior, 1) := by decide +kernel
theorem dX5_lay_137 : decode cX5_lay 137 = .ok (.iastore, 1) := by decide +kernel
theorem dX5_lay_138 : decode cX5_lay 138 = .ok (.iinc 5 1, 3) := by decide +kernel
theorem dX5_lay_141 : decode cX5_lay 141 = .ok (.goto (-42), 3) := by decide +kernel
theorem dX5_lay_144 : decode cX5_lay 144 = .ok (.iinc 3 1, 3) := by decide +kernel
theorem dX5_lay_147 : decode cX5_lay 147 = .ok (.goto (-126), 3) := by decide +kernel
theorem dX5_lay_150 : decode cX5_lay 150 = .ok (.return_, 1) := by decide +kernel
set_option maxRecDepth 20000 in
theorem ggX5_bit_X3_joins : GoodIn wsX5_bit wsX3_joins := goodIn_r _ [8, 9, 26] (by decide +kernel) (by decide +kernel)
set_option maxRecDepth 20000 in
theorem gX5_bit_X3_joins : GoodIn wsX5_bit (wsV RX5 68 RX3 yX3_joins wsX3_joins) := goodIn_app (goodIn_of _ (by decide +kernel)) ggX5_bit_X3_joins
theorem dX5_bit_0 : decode cX5_bit 0 = .ok (.aload_n 0, 1) := by decide +kernel
theorem dX5_bit_1 : decode cX5_bit 1 = .ok (.getfield 38, 3) := by decide +kernel
theorem dX5_bit_4 : decode cX5_bit 4 = .ok (.iload_n 1, 1) := by decide +kernel
theorem dX5_bit_5 : decode cX5_bit 5 = .ok (.iload_n 2, 1) := by decide +kernel
theorem dX5_bit_6 : decode cX5_bit 6 = .ok (.aload_n 0, 1) := by decide +kernel
theorem dX5_bit_7 : decode cX5_bit 7 = .ok (.getfield 42, 3) := by decide +kernel
theorem dX5_bit_10 : decode cX5_bit 10 = .ok (.getfield 65, 3) := by decide +kernel
theorem dX5_bit_13 : decode cX5_bit 13 = .ok (.invokevirtual 68, 3) := by decide +kernel
theorem dX5_bit_16 : decode cX5_bit 16 = .ok (.ifCond .eq 9, 3) := by decide +kernel
theorem dX5_bit_19 : decode cX5_bit 19 = .ok (.iconst 1, 1) := by decide +kernel
theorem dX5_bit_20 : decode cX5_bit 20 = .ok (.iload_n 3, 1) := by decide +kernel
theorem dX5_bit_21 : decode cX5_bit 21 = .ok (.ishl, 1) := by decide +kernel
theorem dX5_bit_22 : decode cX5_bit 22 = .ok (.goto 4, 3) := by decide +kernel
theorem dX5_bit_25 : decode cX5_bit 25 = .ok (.iconst 0, 1) := by decide +kernel
theorem dX5_bit_26 : decode cX5_bit 26 = .ok (.ireturn, 1) := by decide +kernel
theorem dX5_after_0 : decode cX5_after 0 = .ok (.iconst 0, 1) := by decide +kernel
theorem dX5_after_1 : decode cX5_after 1 = .ok (.istore_n 2, 1) := by decide +kernel
theorem dX5_after_2 : decode cX5_after 2 = .ok (.iconst 0, 1) := by decide +kernel
theorem dX5_after_3 : decode cX5_after 3 = .ok (.istore_n 3, 1) := by decide +kernel
theorem dX5_after_4 : decode cX5_after 4 = .ok (.iload_n 3, 1) := by decide +kernel
theorem dX5_after_5 : decode cX5_after 5 = .ok (.aload_n 0, 1) := by decide +kernel
theorem dX5_after_6 : decode cX5_after 6 = .ok (.getfield 42, 3) := by decide +kernel
theorem dX5_after_9 : decode cX5_after 9 = .ok (.getfield 52, 3) := by decide +kernel
theorem dX5_after_12 : decode cX5_after 12 = .ok (.if_icmp .ge 26, 3) := by decide +kernel
theorem dX5_after_15 : decode cX5_after 15 = .ok (.iload_n 1, 1) := by decide +kernel
theorem dX5_after_16 : decode cX5_after 16 = .ok (.iload_n 3, 1) := by decide +kernel
theorem dX5_after_17 : decode cX5_after 17 = .ok (.ishr, 1) := by decide +kernel
theorem dX5_after_18 : decode cX5_after 18 = .ok (.iconst 1, 1) := by decide +kernel
theorem dX5_after_19 : decode cX5_after 19 = .ok (.iand, 1) := by decide +kernel
theorem dX5_after_20 : decode cX5_after 20 = .ok (.ifCond .eq 12, 3) := by decide +kernel
theorem dX5_after_23 : decode cX5_after 23 = .ok (.iload_n 2, 1) := by decide +kernel
theorem dX5_after_24 : decode cX5_after 24 = .ok (.aload_n 0, 1) := by decide +kernel
theorem dX5_after_25 : decode cX5_after 25 = .ok (.getfield 9, 3) := by decide +kernel
theorem dX5_after_28 : decode cX5_after 28 = .ok (.iload_n 3, 1) := by decide +kernel
theorem dX5_after_29 : decode cX5_after 29 = .ok (.iaload, 1) := by decide +kernel
theorem dX5_after_30 : decode cX5_after 30 = .ok (.ior, 1) := by decide +kernel
theorem dX5_after_31 : decode cX5_after 31 = .ok (.istore_n 2, 1) := by decide +kernel
theorem dX5_after_32 : decode cX5_after 32 = .ok (.iinc 3 1, 3) := by decide +kernel
theorem dX5_after_35 : decode cX5_after 35 = .ok (.goto (-31), 3) := by decide +kernel
theorem dX5_after_38 : decode cX5_after 38 = .ok (.iload_n 2, 1) := by decide +kernel
theorem dX5_after_39 : decode cX5_after 39 = .ok (.ireturn, 1) := by decide +kernel
theorem dX5_before_0 : decode cX5_before 0 = .ok (.iconst 0, 1) := by decide +kernel
theorem dX5_before_1 : decode cX5_before 1 = .ok (.istore_n 2, 1) := by decide +kernel
theorem dX5_before_2 : decode cX5_before 2 = .ok (.iconst 0, 1) := by decide +kernel
theorem dX5_before_3 : decode cX5_before 3 = .ok (.istore_n 3, 1) := by decide +kernel
theorem dX5_before_4 : decode cX5_before 4 = .ok (.iload_n 3, 1) := by decide +kernel
theorem dX5_before_5 : decode cX5_before 5 = .ok (.aload_n 0, 1) := by decide +kernel
theorem dX5_before_6 : decode cX5_before 6 = .ok (.getfield 42, 3) := by decide +kernel
theorem dX5_before_9 : decode cX5_before 9 = .ok (.getfield 52, 3) := by decide +kernel
theorem dX5_before_12 : decode cX5_before 12 = .ok (.if_icmp .ge 26, 3) := by decide +kernel
theorem dX5_before_15 : decode cX5_before 15 = .ok (.aload_n 0, 1) := by decide +kernel
theorem dX5_before_16 : decode cX5_before 16 = .ok (.getfield 9, 3) := by decide +kernel
theorem dX5_before_19 : decode cX5_before 19 = .ok (.iload_n 3, 1) := by decide +kernel
theorem dX5_before_20 : decode cX5_before 20 = .ok (.iaload, 1) := by decide +kernel
theorem dX5_before_21 : decode cX5_before 21 = .ok (.iload_n 1, 1) := by decide +kernel
theorem dX5_before_22 : decode cX5_before 22 = .ok (.iand, 1) := by decide +kernel
theorem dX5_before_23 : decode cX5_before 23 = .ok (.ifCond .eq 9, 3) := by decide +kernel
theorem dX5_before_26 : decode cX5_before 26 = .ok (.iload_n 2, 1) := by decide +kernel
theorem dX5_before_27 : decode cX5_before 27 = .ok (.iconst 1, 1) := by decide +kernel
theorem dX5_before_28 : decode cX5_before 28 = .ok (.iload_n 3, 1) := by decide +kernel
theorem dX5_before_29 : decode cX5_before 29 = .ok (.ishl, 1) := by decide +kernel
theorem dX5_before_30 : decode cX5_before 30 = .ok (.ior, 1) := by decide +kernel
theorem dX5_before_31 : decode cX5_before 31 = .ok (.istore_n 2, 1) := by decide +kernel
theorem dX5_before_32 : decode cX5_before 32 = .ok (.iinc 3 1, 3) := by decide +kernel
theorem dX5_before_35 : decode cX5_before 35 = .ok (.goto (-31), 3) := by decide +kernel
theorem dX5_before_38 : decode cX5_before 38 = .ok (.iload_n 2, 1) := by decide +kernel
theorem dX5_before_39 : decode cX5_before 39 = .ok (.ireturn, 1) := by decide +kernel
set_option maxRecDepth 20000 in
theorem ggX5_reached_X5_after : GoodIn wsX5_reached wsX5_after := goodIn_r _ [8, 2, 3, 9, 10, 11, 12, 13, 14, 15, 16, 17, 18, 19, 20, 21, 22, 23, 24, 25] (by decide +kernel) (by decide +kernel)
set_option maxRecDepth 20000 in
theorem gX5_reached_X5_after : GoodIn wsX5_reached (wsV RX5 74 RX5 yX5_after wsX5_after) := goodIn_app (goodIn_of _ (by decide +kernel)) ggX5_reached_X5_after
theorem dX5_reached_0 : decode cX5_reached 0 = .ok (.aload_n 0, 1) := by decide +kernel
theorem dX5_reached_1 : decode cX5_reached 1 = .ok (.getfield 15, 3) := by decide +kernel
theorem dX5_reached_4 : decode cX5_reached 4 = .ok (.istore_n 1, 1) := by decide +kernel
theorem dX5_reached_5 : decode cX5_reached 5 = .ok (.iconst 0, 1) := by decide +kernel
theorem dX5_reached_6 : decode cX5_reached 6 = .ok (.istore_n 2, 1) := by decide +kernel
theorem dX5_reached_7 : decode cX5_reached 7 = .ok (.iload_n 2, 1) := by decide +kernel
theorem dX5_reached_8 : decode cX5_reached 8 = .ok (.aload_n 0, 1) := by decide +kernel
theorem dX5_reached_9 : decode cX5_reached 9 = .ok (.getfield 42, 3) := by decide +kernel
theorem dX5_reached_12 : decode cX5_reached 12 = .ok (.getfield 52, 3) := by decide +kernel
theorem dX5_reached_15 : decode cX5_reached 15 = .ok (.if_icmp .ge 17, 3) := by decide +kernel
theorem dX5_reached_18 : decode cX5_reached 18 = .ok (.iload_n 1, 1) := by decide +kernel
theorem dX5_reached_19 : decode cX5_reached 19 = .ok (.aload_n 0, 1) := by decide +kernel
theorem dX5_reached_20 : decode cX5_reached 20 = .ok (.iload_n 1, 1) := by decide +kernel
theorem dX5_reached_21 : decode cX5_reached 21 = .ok (.invokevirtual 74, 3) := by decide +kernel
theorem dX5_reached_24 : decode cX5_reached 24 = .ok (.ior, 1) := by decide +kernel
theorem dX5_reached_25 : decode cX5_reached 25 = .ok (.istore_n 1, 1) := by decide +kernel
theorem dX5_reached_26 : decode cX5_reached 26 = .ok (.iinc 2 1, 3) := by decide +kernel
theorem dX5_reached_29 : decode cX5_reached 29 = .ok (.goto (-22), 3) := by decide +kernel
theorem dX5_reached_32 : decode cX5_reached 32 = .ok (.iload_n 1, 1) := by decide +kernel
theorem dX5_reached_33 : decode cX5_reached 33 = .ok (.ireturn, 1) := by decide +kernel
set_option maxRecDepth 20000 in
theorem ggX5_closing_X5_before : GoodIn wsX5_closing wsX5_before := goodIn_r _ [8, 2, 3, 9, 10, 11, 12, 13, 14, 15, 16, 17, 18, 19, 20, 21, 22, 23, 24, 25] (by decide +kernel) (by decide +kernel)
set_option maxRecDepth 20000 in
theorem gX5_closing_X5_before : GoodIn wsX5_closing (wsV RX5 78 RX5 yX5_before wsX5_before) := goodIn_app (goodIn_of _ (by decide +kernel)) ggX5_closing_X5_before
theorem dX5_closing_0 : decode cX5_closing 0 = .ok (.aload_n 0, 1) := by decide +kernel
theorem dX5_closing_1 : decode cX5_closing 1 = .ok (.getfield 19, 3) := by decide +kernel
theorem dX5_closing_4 : decode cX5_closing 4 = .ok (.istore_n 1, 1) := by decide +kernel
theorem dX5_closing_5 : decode cX5_closing 5 = .ok (.iconst 0, 1) := by decide +kernel
theorem dX5_closing_6 : decode cX5_closing 6 = .ok (.istore_n 2, 1) := by decide +kernel
theorem dX5_closing_7 : decode cX5_closing 7 = .ok (.iload_n 2, 1) := by decide +kernel
theorem dX5_closing_8 : decode cX5_closing 8 = .ok (.aload_n 0, 1) := by decide +kernel
theorem dX5_closing_9 : decode cX5_closing 9 = .ok (.getfield 42, 3) := by decide +kernel
theorem dX5_closing_12 : decode cX5_closing 12 = .ok (.getfield 52, 3) := by decide +kernel
theorem dX5_closing_15 : decode cX5_closing 15 = .ok (.if_icmp .ge 17, 3) := by decide +kernel
theorem dX5_closing_18 : decode cX5_closing 18 = .ok (.iload_n 1, 1) := by decide +kernel
theorem dX5_closing_19 : decode cX5_closing 19 = .ok (.aload_n 0, 1) := by decide +kernel
theorem dX5_closing_20 : decode cX5_closing 20 = .ok (.iload_n 1, 1) := by decide +kernel
theorem dX5_closing_21 : decode cX5_closing 21 = .ok (.invokevirtual 78, 3) := by decide +kernel
theorem dX5_closing_24 : decode cX5_closing 24 = .ok (.ior, 1) := by decide +kernel
theorem dX5_closing_25 : decode cX5_closing 25 = .ok (.istore_n 1, 1) := by decide +kernel
theorem dX5_closing_26 : decode cX5_closing 26 = .ok (.iinc 2 1, 3) := by decide +kernel
theorem dX5_closing_29 : decode cX5_closing 29 = .ok (.goto (-22), 3) := by decide +kernel
theorem dX5_closing_32 : decode cX5_closing 32 = .ok (.iload_n 1, 1) := by decide +kernel
theorem dX5_closing_33 : decode cX5_closing 33 = .ok (.ireturn, 1) := by decide +kernel
set_option maxRecDepth 20000 in
theorem ggX5_used_X5_reached : GoodIn wsX5_used wsX5_reached := goodIn_r _ [5, 6, 7, 8, 9, 10, 11, 4, 12, 13, 23, 24, 25, 26, 27, 28, 29, 30, 31, 32, 33, 34, 35, 36, 37, 38] (by decide +kernel) (by decide +kernel)
set_option maxRecDepth 20000 in
theorem gX5_used_X5_reached : GoodIn wsX5_used (wsV RX5 81 RX5 yX5_reached wsX5_reached) := goodIn_app (goodIn_of _ (by decide +kernel)) ggX5_used_X5_reached
set_option maxRecDepth 20000 in
theorem ggX5_used_X5_closing : GoodIn wsX5_used wsX5_closing := goodIn_r _ [17, 18, 7, 8, 19, 20, 21, 4, 22, 13, 23, 24, 25, 26, 27, 28, 29, 30, 31, 32, 33, 34, 35, 36, 37, 38] (by decide +kernel) (by decide +kernel)
set_option maxRecDepth 20000 in
theorem gX5_used_X5_closing : GoodIn wsX5_used (wsV RX5 85 RX5 yX5_closing wsX5_closing) := goodIn_app (goodIn_of _ (by decide +kernel)) ggX5_used_X5_closing
theorem dX5_used_0 : decode cX5_used 0 = .ok (.aload_n 0, 1) := by decide +kernel
theorem dX5_used_1 : decode cX5_used 1 = .ok (.invokevirtual 81, 3) := by decide +kernel
theorem dX5_used_4 : decode cX5_used 4 = .ok (.aload_n 0, 1) := by decide +kernel
theorem dX5_used_5 : decode cX5_used 5 = .ok (.invokevirtual 85, 3) := by decide +kernel
theorem dX5_used_8 : decode cX5_used 8 = .ok (.iand, 1) := by decide +kernel
theorem dX5_used_9 : decode cX5_used 9 = .ok (.ireturn, 1) := by decide +kernel
set_option maxRecDepth 20000 in
theorem ggX5_goesOn_X5_used : GoodIn wsX5_goesOn wsX5_used := goodIn_r _ [8, 9, 10, 11, 7, 12, 1, 2, 3, 13, 14, 15, 16, 17, 18, 19, 20, 21, 22, 23, 24, 25, 26, 27, 28, 29, 30, 31, 32, 33, 34, 35, 36, 37, 38, 39, 40, 41, 42] (by decide +kernel) (by decide +kernel)
set_option maxRecDepth 20000 in
theorem gX5_goesOn_X5_used : GoodIn wsX5_goesOn (wsV RX5 88 RX5 yX5_used wsX5_used) := goodIn_app (goodIn_of _ (by decide +kernel)) ggX5_goesOn_X5_used
set_option maxRecDepth 20000 in
theorem ggX5_goesOn_X5_after : GoodIn wsX5_goesOn wsX5_after := goodIn_r _ [16, 2, 3, 17, 27, 28, 29, 30, 31, 32, 33, 34, 35, 36, 37, 38, 39, 40, 41, 42] (by decide +kernel) (by decide +kernel)
set_option maxRecDepth 20000 in
theorem gX5_goesOn_X5_after : GoodIn wsX5_goesOn (wsV RX5 74 RX5 yX5_after wsX5_after) := goodIn_app (goodIn_of _ (by decide +kernel)) ggX5_goesOn_X5_after
theorem dX5_goesOn_0 : decode cX5_goesOn 0 = .ok (.aload_n 0, 1) := by decide +kernel
theorem dX5_goesOn_1 : decode cX5_goesOn 1 = .ok (.invokevirtual 88, 3) := by decide +kernel
theorem dX5_goesOn_4 : decode cX5_goesOn 4 = .ok (.istore_n 1, 1) := by decide +kernel
theorem dX5_goesOn_5 : decode cX5_goesOn 5 = .ok (.aload_n 0, 1) := by decide +kernel
theorem dX5_goesOn_6 : decode cX5_goesOn 6 = .ok (.getfield 15, 3) := by decide +kernel
theorem dX5_goesOn_9 : decode cX5_goesOn 9 = .ok (.iload_n 1, 1) := by decide +kernel
theorem dX5_goesOn_10 : decode cX5_goesOn 10 = .ok (.iand, 1) := by decide +kernel
theorem dX5_goesOn_11 : decode cX5_goesOn 11 = .ok (.istore_n 2, 1) := by decide +kernel
theorem dX5_goesOn_12 : decode cX5_goesOn 12 = .ok (.iconst 0, 1) := by decide +kernel
theorem dX5_goesOn_13 : decode cX5_goesOn 13 = .ok (.istore_n 3, 1) := by decide +kernel
theorem dX5_goesOn_14 : decode cX5_goesOn 14 = .ok (.iload_n 3, 1) := by decide +kernel
theorem dX5_goesOn_15 : decode cX5_goesOn 15 = .ok (.aload_n 0, 1) := by decide +kernel
theorem dX5_goesOn_16 : decode cX5_goesOn 16 = .ok (.getfield 42, 3) := by decide +kernel
theorem dX5_goesOn_19 : decode cX5_goesOn 19 = .ok (.getfield 52, 3) := by decide +kernel
theorem dX5_goesOn_22 : decode cX5_goesOn 22 = .ok (.if_icmp .ge 17, 3) := by decide +kernel
theorem dX5_goesOn_25 : decode cX5_goesOn 25 = .ok (.aload_n 0, 1) := by decide +kernel
theorem dX5_goesOn_26 : decode cX5_goesOn 26 = .ok (.iload_n 2, 1) := by decide +kernel
theorem dX5_goesOn_27 : decode cX5_goesOn 27 = .ok (.invokevirtual 74, 3) := by decide +kernel
theorem dX5_goesOn_30 : decode cX5_goesOn 30 = .ok (.iload_n 1, 1) := by decide +kernel
theorem dX5_goesOn_31 : decode cX5_goesOn 31 = .ok (.iand, 1) := by decide +kernel
theorem dX5_goesOn_32 : decode cX5_goesOn 32 = .ok (.istore_n 2, 1) := by decide +kernel
theorem dX5_goesOn_33 : decode cX5_goesOn 33 = .ok (.iinc 3 1, 3) := by decide +kernel
theorem dX5_goesOn_36 : decode cX5_goesOn 36 = .ok (.goto (-22), 3) := by decide +kernel
theorem dX5_goesOn_39 : decode cX5_goesOn 39 = .ok (.iload_n 2, 1) := by decide +kernel
theorem dX5_goesOn_40 : decode cX5_goesOn 40 = .ok (.ifCond .eq 7, 3) := by decide +kernel
theorem dX5_goesOn_43 : decode cX5_goesOn 43 = .ok (.iconst 1, 1) := by decide +kernel
theorem dX5_goesOn_44 : decode cX5_goesOn 44 = .ok (.goto 4, 3) := by decide +kernel
theorem dX5_goesOn_47 : decode cX5_goesOn 47 = .ok (.iconst 0, 1) := by decide +kernel
theorem dX5_goesOn_48 : decode cX5_goesOn 48 = .ok (.ireturn, 1) := by decide +kernel
set_option maxRecDepth 20000 in
theorem ggX5_leastHeight_X5_after : GoodIn wsX5_leastHeight wsX5_after := goodIn_r _ [9, 2, 3, 10, 11, 12, 13, 14, 15, 16, 17, 18, 19, 20, 21, 22, 23, 24, 25, 26] (by decide +kernel) (by decide +kernel)
set_option maxRecDepth 20000 in
theorem gX5_leastHeight_X5_after : GoodIn wsX5_leastHeight (wsV RX5 74 RX5 yX5_after wsX5_after) := goodIn_app (goodIn_of _ (by decide +kernel)) ggX5_leastHeight_X5_after
theorem dX5_leastHeight_0 : decode cX5_leastHeight 0 = .ok (.aload_n 0, 1) := by decide +kernel
theorem dX5_leastHeight_1 : decode cX5_leastHeight 1 = .ok (.getfield 15, 3) := by decide +kernel
theorem dX5_leastHeight_4 : decode cX5_leastHeight 4 = .ok (.istore_n 1, 1) := by decide +kernel
theorem dX5_leastHeight_5 : decode cX5_leastHeight 5 = .ok (.iconst 1, 1) := by decide +kernel
theorem dX5_leastHeight_6 : decode cX5_leastHeight 6 = .ok (.istore_n 2, 1) := by decide +kernel
theorem dX5_leastHeight_7 : decode cX5_leastHeight 7 = .ok (.iload_n 2, 1) := by decide +kernel
theorem dX5_leastHeight_8 : decode cX5_leastHeight 8 = .ok (.aload_n 0, 1) := by decide +kernel
theorem dX5_leastHeight_9 : decode cX5_leastHeight 9 = .ok (.getfield 42, 3) := by decide +kernel
theorem dX5_leastHeight_12 : decode cX5_leastHeight 12 = .ok (.getfield 52, 3) := by decide +kernel
theorem dX5_leastHeight_15 : decode cX5_leastHeight 15 = .ok (.if_icmp .gt 26, 3) := by decide +kernel
theorem dX5_leastHeight_18 : decode cX5_leastHeight 18 = .ok (.iload_n 1, 1) := by decide +kernel
theorem dX5_leastHeight_19 : decode cX5_leastHeight 19 = .ok (.aload_n 0, 1) := by decide +kernel
theorem dX5_leastHeight_20 : decode cX5_leastHeight 20 = .ok (.getfield 19, 3) := by decide +kernel
theorem dX5_leastHeight_23 : decode cX5_leastHeight 23 = .ok (.iand, 1) := by decide +kernel
theorem dX5_leastHeight_24 : decode cX5_leastHeight 24 = .ok (.ifCond .eq 5, 3) := by decide +kernel
theorem dX5_leastHeight_27 : decode cX5_leastHeight 27 = .ok (.iload_n 2, 1) := by decide +kernel
theorem dX5_leastHeight_28 : decode cX5_leastHeight 28 = .ok (.ireturn, 1) := by decide +kernel
theorem dX5_leastHeight_29 : decode cX5_leastHeight 29 = .ok (.aload_n 0, 1) := by decide +kernel
theorem dX5_leastHeight_30 : decode cX5_leastHeight 30 = .ok (.iload_n 1, 1) := by decide +kernel
theorem dX5_leastHeight_31 : decode cX5_leastHeight 31 = .ok (.invokevirtual 74, 3) := by decide +kernel
theorem dX5_leastHeight_34 : decode cX5_leastHeight 34 = .ok (.istore_n 1, 1) := by decide +kernel
theorem dX5_leastHeight_35 : decode cX5_leastHeight 35 = .ok (.iinc 2 1, 3) := by decide +kernel
theorem dX5_leastHeight_38 : decode cX5_leastHeight 38 = .ok (.goto (-31), 3) := by decide +kernel
theorem dX5_leastHeight_41 : decode cX5_leastHeight 41 = .ok (.iconst (-1), 1) := by decide +kernel
theorem dX5_leastHeight_42 : decode cX5_leastHeight 42 = .ok (.ireturn, 1) := by decide +kernel
set_option maxRecDepth 20000 in
theorem ggX5_ofHeight_X5_choose : GoodIn wsX5_ofHeight wsX5_choose := goodIn_r _ [9, 10, 11, 2, 3, 12, 13, 14, 15, 16, 17, 8, 18, 19, 20, 21, 22, 23, 24, 25, 26, 27, 28, 29, 30, 1, 31, 32, 33, 34, 49, 50, 51, 52, 53, 54, 55, 56, 57, 58, 59, 60, 61, 62, 63, 64] (by decide +kernel) (by decide +kernel)
set_option maxRecDepth 20000 in
theorem gX5_ofHeight_X5_choose : GoodIn wsX5_ofHeight (wsV RX5 91 RX5 yX5_choose wsX5_choose) := goodIn_app (goodIn_of _ (by decide +kernel)) ggX5_ofHeight_X5_choose
set_option maxRecDepth 20000 in
theorem ggX5_ofHeight_X5_push : GoodIn wsX5_ofHeight wsX5_push := goodIn_r _ [38, 3, 13, 4, 39, 49, 50, 51, 52, 53, 54, 55, 56, 57, 58] (by decide +kernel) (by decide +kernel)
set_option maxRecDepth 20000 in
theorem gX5_ofHeight_X5_push : GoodIn wsX5_ofHeight (wsV RX5 94 RX5 yX5_push wsX5_push) := goodIn_app (goodIn_of _ (by decide +kernel)) ggX5_ofHeight_X5_push
set_option maxRecDepth 20000 in
theorem ggX5_ofHeight_X5_squareTable : GoodIn wsX5_ofHeight wsX5_squareTable := goodIn_r _ [43, 44, 13, 45, 46, 47, 8, 48, 4, 49, 50, 51, 52, 53, 54, 55, 56, 57, 58] (by decide +kernel) (by decide +kernel)
set_option maxRecDepth 20000 in
theorem gX5_ofHeight_X5_squareTable : GoodIn wsX5_ofHeight (wsV RX5 98 RX5 yX5_squareTable wsX5_squareTable) := goodIn_app (goodIn_of _ (by decide +kernel)) ggX5_ofHeight_X5_squareTable
theorem dX5_ofHeight_0 : decode cX5_ofHeight 0 = .ok (.aload_n 0, 1) := by decide +kernel
theorem dX5_ofHeight_1 : decode cX5_ofHeight 1 = .ok (.invokevirtual 91, 3) := by decide +kernel
theorem dX5_ofHeight_4 : decode cX5_ofHeight 4 = .ok (.istore_n 2, 1) := by decide +kernel
theorem dX5_ofHeight_5 : decode cX5_ofHeight 5 = .ok (.iload_n 1, 1) := by decide +kernel
theorem dX5_ofHeight_6 : decode cX5_ofHeight 6 = .ok (.iconst 1, 1) := by decide +kernel
theorem dX5_ofHeight_7 : decode cX5_ofHeight 7 = .ok (.isub, 1) := by decide +kernel
theorem dX5_ofHeight_8 : decode cX5_ofHeight 8 = .ok (.istore_n 3, 1) := by decide +kernel
theorem dX5_ofHeight_9 : decode cX5_ofHeight 9 = .ok (.iload_n 3, 1) := by decide +kernel
theorem dX5_ofHeight_10 : decode cX5_ofHeight 10 = .ok (.ifCond .le 31, 3) := by decide +kernel
theorem dX5_ofHeight_13 : decode cX5_ofHeight 13 = .ok (.iload_n 3, 1) := by decide +kernel
theorem dX5_ofHeight_14 : decode cX5_ofHeight 14 = .ok (.iconst 1, 1) := by decide +kernel
theorem dX5_ofHeight_15 : decode cX5_ofHeight 15 = .ok (.iand, 1) := by decide +kernel
theorem dX5_ofHeight_16 : decode cX5_ofHeight 16 = .ok (.ifCond .eq 8, 3) := by decide +kernel
theorem dX5_ofHeight_19 : decode cX5_ofHeight 19 = .ok (.aload_n 0, 1) := by decide +kernel
theorem dX5_ofHeight_20 : decode cX5_ofHeight 20 = .ok (.iload_n 2, 1) := by decide +kernel
theorem dX5_ofHeight_21 : decode cX5_ofHeight 21 = .ok (.invokevirtual 94, 3) := by decide +kernel
theorem dX5_ofHeight_24 : decode cX5_ofHeight 24 = .ok (.iload_n 3, 1) := by decide +kernel
theorem dX5_ofHeight_25 : decode cX5_ofHeight 25 = .ok (.iconst 1, 1) := by decide +kernel
theorem dX5_ofHeight_26 : decode cX5_ofHeight 26 = .ok (.if_icmp .le 8, 3) := by decide +kernel
theorem dX5_ofHeight_29 : decode cX5_ofHeight 29 = .ok (.aload_n 0, 1) := by decide +kernel
theorem dX5_ofHeight_30 : decode cX5_ofHeight 30 = .ok (.iload_n 2, 1) := by decide +kernel
theorem dX5_ofHeight_31 : decode cX5_ofHeight 31 = .ok (.invokevirtual 98, 3) := by decide +kernel
theorem dX5_ofHeight_34 : decode cX5_ofHeight 34 = .ok (.iload_n 3, 1) := by decide +kernel
theorem dX5_ofHeight_35 : decode cX5_ofHeight 35 = .ok (.iconst 1, 1) := by decide +kernel
theorem dX5_ofHeight_36 : decode cX5_ofHeight 36 = .ok (.ishr, 1) := by decide +kernel
theorem dX5_ofHeight_37 : decode cX5_ofHeight 37 = .ok (.istore_n 3, 1) := by decide +kernel
theorem dX5_ofHeight_38 : decode cX5_ofHeight 38 = .ok (.goto (-29), 3) := by decide +kernel
theorem dX5_ofHeight_41 : decode cX5_ofHeight 41 = .ok (.lconst 0, 1) := by decide +kernel
theorem dX5_ofHeight_42 : decode cX5_ofHeight 42 = .ok (.lstore_n 3, 1) := by decide +kernel
theorem dX5_ofHeight_43 : decode cX5_ofHeight 43 = .ok (.iconst 0, 1) := by decide +kernel
theorem dX5_ofHeight_44 : decode cX5_ofHeight 44 = .ok (.istore 5, 2) := by decide +kernel
theorem dX5_ofHeight_46 : decode cX5_ofHeight 46 = .ok (.iload 5, 2) := by decide +kernel
theorem dX5_ofHeight_48 : decode cX5_ofHeight 48 = .ok (.iload_n 2, 1) := by decide +kernel
theorem dX5_ofHeight_49 : decode cX5_ofHeight 49 = .ok (.if_icmp .ge 36, 3) := by decide +kernel
theorem dX5_ofHeight_52 : decode cX5_ofHeight 52 = .ok (.aload_n 0, 1) := by decide +kernel
theorem dX5_ofHeight_53 : decode cX5_ofHeight 53 = .ok (.getfield 19, 3) := by decide +kernel
theorem dX5_ofHeight_56 : decode cX5_ofHeight 56 = .ok (.aload_n 0, 1) := by decide +kernel
theorem dX5_ofHeight_57 : decode cX5_ofHeight 57 = .ok (.getfield 22, 3) := by decide +kernel
theorem dX5_ofHeight_60 : decode cX5_ofHeight 60 = .ok (.iload 5, 2) := by decide +kernel
theorem dX5_ofHeight_62 : decode cX5_ofHeight 62 = .ok (.iaload, 1) := by decide +kernel
theorem dX5_ofHeight_63 : decode cX5_ofHeight 63 = .ok (.ishr, 1) := by decide +kernel
theorem dX5_ofHeight_64 : decode cX5_ofHeight 64 = .ok (.iconst 1, 1) := by decide +kernel
theorem dX5_ofHeight_65 : decode cX5_ofHeight 65 = .ok (.iand, 1) := by decide +kernel
theorem dX5_ofHeight_66 : decode cX5_ofHeight 66 = .ok (.ifCond .eq 13, 3) := by decide +kernel
theorem dX5_ofHeight_69 : decode cX5_ofHeight 69 = .ok (.lload_n 3, 1) := by decide +kernel
theorem dX5_ofHeight_70 : decode cX5_ofHeight 70 = .ok (.aload_n 0, 1) := by decide +kernel
theorem dX5_ofHeight_71 : decode cX5_ofHeight 71 = .ok (.getfield 32, 3) := by decide +kernel
theorem dX5_ofHeight_74 : decode cX5_ofHeight 74 = .ok (.iload 5, 2) := by decide +kernel
theorem dX5_ofHeight_76 : decode cX5_ofHeight 76 = .ok (.laload, 1) := by decide +kernel
theorem dX5_ofHeight_77 : decode cX5_ofHeight 77 = .ok (.ladd, 1) := by decide +kernel
theorem dX5_ofHeight_78 : decode cX5_ofHeight 78 = .ok (.lstore_n 3, 1) := by decide +kernel
theorem dX5_ofHeight_79 : decode cX5_ofHeight 79 = .ok (.iinc 5 1, 3) := by decide +kernel
theorem dX5_ofHeight_82 : decode cX5_ofHeight 82 = .ok (.goto (-36), 3) := by decide +kernel
theorem dX5_ofHeight_85 : decode cX5_ofHeight 85 = .ok (.lload_n 3, 1) := by decide +kernel
theorem dX5_ofHeight_86 : decode cX5_ofHeight 86 = .ok (.ldc2_w 101, 3) := by decide +kernel
theorem dX5_ofHeight_89 : decode cX5_ofHeight 89 = .ok (.lrem, 1) := by decide +kernel
theorem dX5_ofHeight_90 : decode cX5_ofHeight 90 = .ok (.l2i, 1) := by decide +kernel
theorem dX5_ofHeight_91 : decode cX5_ofHeight 91 = .ok (.ireturn, 1) := by decide +kernel
set_option maxRecDepth 20000 in
theorem ggX5_choose_X5_used : GoodIn wsX5_choose wsX5_used := goodIn_r _ [12, 13, 14, 15, 11, 16, 5, 1, 2, 17, 18, 19, 20, 7, 21, 22, 23, 24, 25, 26, 27, 28, 29, 30, 31, 32, 33, 34, 35, 36, 37, 38, 39, 40, 41, 42, 43, 44, 45] (by decide +kernel) (by decide +kernel)
set_option maxRecDepth 20000 in
theorem gX5_choose_X5_used : GoodIn wsX5_choose (wsV RX5 88 RX5 yX5_used wsX5_used) := goodIn_app (goodIn_of _ (by decide +kernel)) ggX5_choose_X5_used
theorem dX5_choose_0 : decode cX5_choose 0 = .ok (.aload_n 0, 1) := by decide +kernel
theorem dX5_choose_1 : decode cX5_choose 1 = .ok (.invokevirtual 88, 3) := by decide +kernel
theorem dX5_choose_4 : decode cX5_choose 4 = .ok (.istore_n 1, 1) := by decide +kernel
theorem dX5_choose_5 : decode cX5_choose 5 = .ok (.iconst 0, 1) := by decide +kernel
theorem dX5_choose_6 : decode cX5_choose 6 = .ok (.istore_n 2, 1) := by decide +kernel
theorem dX5_choose_7 : decode cX5_choose 7 = .ok (.iconst 0, 1) := by decide +kernel
theorem dX5_choose_8 : decode cX5_choose 8 = .ok (.istore_n 3, 1) := by decide +kernel
theorem dX5_choose_9 : decode cX5_choose 9 = .ok (.iload_n 3, 1) := by decide +kernel
theorem dX5_choose_10 : decode cX5_choose 10 = .ok (.aload_n 0, 1) := by decide +kernel
theorem dX5_choose_11 : decode cX5_choose 11 = .ok (.getfield 42, 3) := by decide +kernel
theorem dX5_choose_14 : decode cX5_choose 14 = .ok (.getfield 52, 3) := by decide +kernel
theorem dX5_choose_17 : decode cX5_choose 17 = .ok (.if_icmp .ge 27, 3) := by decide +kernel
theorem dX5_choose_20 : decode cX5_choose 20 = .ok (.iload_n 1, 1) := by decide +kernel
theorem dX5_choose_21 : decode cX5_choose 21 = .ok (.iload_n 3, 1) := by decide +kernel
theorem dX5_choose_22 : decode cX5_choose 22 = .ok (.ishr, 1) := by decide +kernel
theorem dX5_choose_23 : decode cX5_choose 23 = .ok (.iconst 1, 1) := by decide +kernel
theorem dX5_choose_24 : decode cX5_choose 24 = .ok (.iand, 1) := by decide +kernel
theorem dX5_choose_25 : decode cX5_choose 25 = .ok (.ifCond .eq 13, 3) := by decide +kernel
theorem dX5_choose_28 : decode cX5_choose 28 = .ok (.aload_n 0, 1) := by decide +kernel
theorem dX5_choose_29 : decode cX5_choose 29 = .ok (.getfield 22, 3) := by decide +kernel
theorem dX5_choose_32 : decode cX5_choose 32 = .ok (.iload_n 2, 1) := by decide +kernel
theorem dX5_choose_33 : decode cX5_choose 33 = .ok (.iload_n 3, 1) := by decide +kernel
theorem dX5_choose_34 : decode cX5_choose 34 = .ok (.iastore, 1) := by decide +kernel
theorem dX5_choose_35 : decode cX5_choose 35 = .ok (.iinc 2 1, 3) := by decide +kernel
theorem dX5_choose_38 : decode cX5_choose 38 = .ok (.iinc 3 1, 3) := by decide +kernel
theorem dX5_choose_41 : decode cX5_choose 41 = .ok (.goto (-32), 3) := by decide +kernel
theorem dX5_choose_44 : decode cX5_choose 44 = .ok (.iconst 0, 1) := by decide +kernel
theorem dX5_choose_45 : decode cX5_choose 45 = .ok (.istore_n 3, 1) := by decide +kernel
theorem dX5_choose_46 : decode cX5_choose 46 = .ok (.iload_n 3, 1) := by decide +kernel
theorem dX5_choose_47 : decode cX5_choose 47 = .ok (.iload_n 2, 1) := by decide +kernel
theorem dX5_choose_48 : decode cX5_choose 48 = .ok (.if_icmp .ge 77, 3) := by decide +kernel
theorem dX5_choose_51 : decode cX5_choose 51 = .ok (.aload_n 0, 1) := by decide +kernel
theorem dX5_choose_52 : decode cX5_choose 52 = .ok (.getfield 32, 3) := by decide +kernel
theorem dX5_choose_55 : decode cX5_choose 55 = .ok (.iload_n 3, 1) := by decide +kernel
theorem dX5_choose_56 : decode cX5_choose 56 = .ok (.aload_n 0, 1) := by decide +kernel
theorem dX5_choose_57 : decode cX5_choose 57 = .ok (.getfield 15, 3) := by decide +kernel
theorem dX5_choose_60 : decode cX5_choose 60 = .ok (.aload_n 0, 1) := by decide +kernel
theorem dX5_choose_61 : decode cX5_choose 61 = .ok (.getfield 22, 3) := by decide +kernel
theorem dX5_choose_64 : decode cX5_choose 64 = .ok (.iload_n 3, 1) := by decide +kernel
theorem dX5_choose_65 : decode cX5_choose 65 = .ok (.iaload, 1) := by decide +kernel
theorem dX5_choose_66 : decode cX5_choose 66 = .ok (.ishr, 1) := by decide +kernel
theorem dX5_choose_67 : decode cX5_choose 67 = .ok (.iconst 1, 1) := by decide +kernel
theorem dX5_choose_68 : decode cX5_choose 68 = .ok (.iand, 1) := by decide +kernel
theorem dX5_choose_69 : decode cX5_choose 69 = .ok (.i2l, 1) := by decide +kernel
theorem dX5_choose_70 : decode cX5_choose 70 = .ok (.lastore, 1) := by decide +kernel
theorem dX5_choose_71 : decode cX5_choose 71 = .ok (.iconst 0, 1) := by decide +kernel
theorem dX5_choose_72 : decode cX5_choose 72 = .ok (.istore 4, 2) := by decide +kernel
theorem dX5_choose_74 : decode cX5_choose 74 = .ok (.iload 4, 2) := by decide +kernel
theorem dX5_choose_76 : decode cX5_choose 76 = .ok (.iload_n 2, 1) := by decide +kernel
theorem dX5_choose_77 : decode cX5_choose 77 = .ok (.if_icmp .ge 42, 3) := by decide +kernel
theorem dX5_choose_80 : decode cX5_choose 80 = .ok (.aload_n 0, 1) := by decide +kernel
theorem dX5_choose_81 : decode cX5_choose 81 = .ok (.getfield 25, 3) := by decide +kernel
theorem dX5_choose_84 : decode cX5_choose 84 = .ok (.iload_n 3, 1) := by decide +kernel
theorem dX5_choose_85 : decode cX5_choose 85 = .ok (.iload_n 2, 1) := by decide +kernel
theorem dX5_choose_86 : decode cX5_choose 86 = .ok (.imul, 1) := by decide +kernel
theorem dX5_choose_87 : decode cX5_choose 87 = .ok (.iload 4, 2) := by decide +kernel
theorem dX5_choose_89 : decode cX5_choose 89 = .ok (.iadd, 1) := by decide +kernel
theorem dX5_choose_90 : decode cX5_choose 90 = .ok (.aload_n 0, 1) := by decide +kernel
theorem dX5_choose_91 : decode cX5_choose 91 = .ok (.getfield 9, 3) := by decide +kernel
theorem dX5_choose_94 : decode cX5_choose 94 = .ok (.aload_n 0, 1) := by decide +kernel
theorem dX5_choose_95 : decode cX5_choose 95 = .ok (.getfield 22, 3) := by decide +kernel
theorem dX5_choose_98 : decode cX5_choose 98 = .ok (.iload_n 3, 1) := by decide +kernel
theorem dX5_choose_99 : decode cX5_choose 99 = .ok (.iaload, 1) := by decide +kernel
theorem dX5_choose_100 : decode cX5_choose 100 = .ok (.iaload, 1) := by decide +kernel
theorem dX5_choose_101 : decode cX5_choose 101 = .ok (.aload_n 0, 1) := by decide +kernel
theorem dX5_choose_102 : decode cX5_choose 102 = .ok (.getfield 22, 3) := by decide +kernel
theorem dX5_choose_105 : decode cX5_choose 105 = .ok (.iload 4, 2) := by decide +kernel
theorem dX5_choose_107 : decode cX5_choose 107 = .ok (.iaload, 1) := by decide +kernel
theorem dX5_choose_108 : decode cX5_choose 108 = .ok (.ishr, 1) := by decide +kernel
theorem dX5_choose_109 : decode cX5_choose 109 = .ok (.iconst 1, 1) := by decide +kernel
theorem dX5_choose_110 : decode cX5_choose 110 = .ok (.iand, 1) := by decide +kernel
theorem dX5_choose_111 : decode cX5_choose 111 = .ok (.i2l, 1) := by decide +kernel
theorem dX5_choose_112 : decode cX5_choose 112 = .ok (.lastore, 1) := by decide +kernel
theorem dX5_choose_113 : decode cX5_choose 113 = .ok (.iinc 4 1, 3) := by decide +kernel
theorem dX5_choose_116 : decode cX5_choose 116 = .ok (.goto (-42), 3) := by decide +kernel
theorem dX5_choose_119 : decode cX5_choose 119 = .ok (.iinc 3 1, 3) := by decide +kernel
theorem dX5_choose_122 : decode cX5_choose 122 = .ok (.goto (-76), 3) := by decide +kernel
theorem dX5_choose_125 : decode cX5_choose 125 = .ok (.iload_n 2, 1) := by decide +kernel
theorem dX5_choose_126 : decode cX5_choose 126 = .ok (.ireturn, 1) := by decide +kernel
theorem dX5_push_0 : decode cX5_push 0 = .ok (.iconst 0, 1) := by decide +kernel
theorem dX5_push_1 : decode cX5_push 1 = .ok (.istore_n 2, 1) := by decide +kernel
theorem dX5_push_2 : decode cX5_push 2 = .ok (.iload_n 2, 1) := by decide +kernel
theorem dX5_push_3 : decode cX5_push 3 = .ok (.iload_n 1, 1) := by decide +kernel
theorem dX5_push_4 : decode cX5_push 4 = .ok (.if_icmp .ge 59, 3) := by decide +kernel
theorem dX5_push_7 : decode cX5_push 7 = .ok (.lconst 0, 1) := by decide +kernel
theorem dX5_push_8 : decode cX5_push 8 = .ok (.lstore_n 3, 1) := by decide +kernel
theorem dX5_push_9 : decode cX5_push 9 = .ok (.iconst 0, 1) := by decide +kernel
theorem dX5_push_10 : decode cX5_push 10 = .ok (.istore 5, 2) := by decide +kernel
theorem dX5_push_12 : decode cX5_push 12 = .ok (.iload 5, 2) := by decide +kernel
theorem dX5_push_14 : decode cX5_push 14 = .ok (.iload_n 1, 1) := by decide +kernel
theorem dX5_push_15 : decode cX5_push 15 = .ok (.if_icmp .ge 35, 3) := by decide +kernel
theorem dX5_push_18 : decode cX5_push 18 = .ok (.lload_n 3, 1) := by decide +kernel
theorem dX5_push_19 : decode cX5_push 19 = .ok (.aload_n 0, 1) := by decide +kernel
theorem dX5_push_20 : decode cX5_push 20 = .ok (.getfield 32, 3) := by decide +kernel
theorem dX5_push_23 : decode cX5_push 23 = .ok (.iload 5, 2) := by decide +kernel
theorem dX5_push_25 : decode cX5_push 25 = .ok (.laload, 1) := by decide +kernel
theorem dX5_push_26 : decode cX5_push 26 = .ok (.aload_n 0, 1) := by decide +kernel
theorem dX5_push_27 : decode cX5_push 27 = .ok (.getfield 25, 3) := by decide +kernel
theorem dX5_push_30 : decode cX5_push 30 = .ok (.iload 5, 2) := by decide +kernel
theorem dX5_push_32 : decode cX5_push 32 = .ok (.iload_n 1, 1) := by decide +kernel
theorem dX5_push_33 : decode cX5_push 33 = .ok (.imul, 1) := by decide +kernel
theorem dX5_push_34 : decode cX5_push 34 = .ok (.iload_n 2, 1) := by decide +kernel
theorem dX5_push_35 : decode cX5_push 35 = .ok (.iadd, 1) := by decide +kernel
theorem dX5_push_36 : decode cX5_push 36 = .ok (.laload, 1) := by decide +kernel
theorem dX5_push_37 : decode cX5_push 37 = .ok (.lmul, 1) := by decide +kernel
theorem dX5_push_38 : decode cX5_push 38 = .ok (.ladd, 1) := by decide +kernel
theorem dX5_push_39 : decode cX5_push 39 = .ok (.ldc2_w 101, 3) := by decide +kernel
theorem dX5_push_42 : decode cX5_push 42 = .ok (.lrem, 1) := by decide +kernel
theorem dX5_push_43 : decode cX5_push 43 = .ok (.lstore_n 3, 1) := by decide +kernel
theorem dX5_push_44 : decode cX5_push 44 = .ok (.iinc 5 1, 3) := by decide +kernel
theorem dX5_push_47 : decode cX5_push 47 = .ok (.goto (-35), 3) := by decide +kernel
theorem dX5_push_50 : decode cX5_push 50 = .ok (.aload_n 0, 1) := by decide +kernel
theorem dX5_push_51 : decode cX5_push 51 = .ok (.getfield 35, 3) := by decide +kernel
theorem dX5_push_54 : decode cX5_push 54 = .ok (.iload_n 2, 1) := by decide +kernel
theorem dX5_push_55 : decode cX5_push 55 = .ok (.lload_n 3, 1) := by decide +kernel
theorem dX5_push_56 : decode cX5_push 56 = .ok (.lastore, 1) := by decide +kernel
theorem dX5_push_57 : decode cX5_push 57 = .ok (.iinc 2 1, 3) := by decide +kernel
theorem dX5_push_60 : decode cX5_push 60 = .ok (.goto (-58), 3) := by decide +kernel
theorem dX5_push_63 : decode cX5_push 63 = .ok (.aload_n 0, 1) := by decide +kernel
theorem dX5_push_64 : decode cX5_push 64 = .ok (.getfield 32, 3) := by decide +kernel
theorem dX5_push_67 : decode cX5_push 67 = .ok (.astore_n 2, 1) := by decide +kernel
theorem dX5_push_68 : decode cX5_push 68 = .ok (.aload_n 0, 1) := by decide +kernel
theorem dX5_push_69 : decode cX5_push 69 = .ok (.aload_n 0, 1) := by decide +kernel
theorem dX5_push_70 : decode cX5_push 70 = .ok (.getfield 35, 3) := by decide +kernel
theorem dX5_push_73 : decode cX5_push 73 = .ok (.putfield 32, 3) := by decide +kernel
theorem dX5_push_76 : decode cX5_push 76 = .ok (.aload_n 0, 1) := by decide +kernel
theorem dX5_push_77 : decode cX5_push 77 = .ok (.aload_n 2, 1) := by decide +kernel
theorem dX5_push_78 : decode cX5_push 78 = .ok (.putfield 35, 3) := by decide +kernel
theorem dX5_push_81 : decode cX5_push 81 = .ok (.return_, 1) := by decide +kernel
set_option maxRecDepth 20000 in
theorem ggX5_squareTable_X5_addRow : GoodIn wsX5_squareTable wsX5_addRow := goodIn_r _ [7, 1, 2, 8, 9, 10, 11, 12, 13, 14, 15, 16, 17, 18] (by decide +kernel) (by decide +kernel)
set_option maxRecDepth 20000 in
theorem gX5_squareTable_X5_addRow : GoodIn wsX5_squareTable (wsV RX5 103 RX5 yX5_addRow wsX5_addRow) := goodIn_app (goodIn_of _ (by decide +kernel)) ggX5_squareTable_X5_addRow
theorem dX5_squareTable_0 : decode cX5_squareTable 0 = .ok (.iconst 0, 1) := by decide +kernel
theorem dX5_squareTable_1 : decode cX5_squareTable 1 = .ok (.istore_n 2, 1) := by decide +kernel
theorem dX5_squareTable_2 : decode cX5_squareTable 2 = .ok (.iload_n 2, 1) := by decide +kernel
theorem dX5_squareTable_3 : decode cX5_squareTable 3 = .ok (.iload_n 1, 1) := by decide +kernel
theorem dX5_squareTable_4 : decode cX5_squareTable 4 = .ok (.iload_n 1, 1) := by decide +kernel
theorem dX5_squareTable_5 : decode cX5_squareTable 5 = .ok (.imul, 1) := by decide +kernel
theorem dX5_squareTable_6 : decode cX5_squareTable 6 = .ok (.if_icmp .ge 16, 3) := by decide +kernel
theorem dX5_squareTable_9 : decode cX5_squareTable 9 = .ok (.aload_n 0, 1) := by decide +kernel
theorem dX5_squareTable_10 : decode cX5_squareTable 10 = .ok (.getfield 29, 3) := by decide +kernel
theorem dX5_squareTable_13 : decode cX5_squareTable 13 = .ok (.iload_n 2, 1) := by decide +kernel
theorem dX5_squareTable_14 : decode cX5_squareTable 14 = .ok (.lconst 0, 1) := by decide +kernel
theorem dX5_squareTable_15 : decode cX5_squareTable 15 = .ok (.lastore, 1) := by decide +kernel
theorem dX5_squareTable_16 : decode cX5_squareTable 16 = .ok (.iinc 2 1, 3) := by decide +kernel
theorem dX5_squareTable_19 : decode cX5_squareTable 19 = .ok (.goto (-17), 3) := by decide +kernel
theorem dX5_squareTable_22 : decode cX5_squareTable 22 = .ok (.iconst 0, 1) := by decide +kernel
theorem dX5_squareTable_23 : decode cX5_squareTable 23 = .ok (.istore_n 2, 1) := by decide +kernel
theorem dX5_squareTable_24 : decode cX5_squareTable 24 = .ok (.iload_n 2, 1) := by decide +kernel
theorem dX5_squareTable_25 : decode cX5_squareTable 25 = .ok (.iload_n 1, 1) := by decide +kernel
theorem dX5_squareTable_26 : decode cX5_squareTable 26 = .ok (.if_icmp .ge 54, 3) := by decide +kernel
theorem dX5_squareTable_29 : decode cX5_squareTable 29 = .ok (.iconst 0, 1) := by decide +kernel
theorem dX5_squareTable_30 : decode cX5_squareTable 30 = .ok (.istore_n 3, 1) := by decide +kernel
theorem dX5_squareTable_31 : decode cX5_squareTable 31 = .ok (.iload_n 3, 1) := by decide +kernel
theorem dX5_squareTable_32 : decode cX5_squareTable 32 = .ok (.iload_n 1, 1) := by decide +kernel
theorem dX5_squareTable_33 : decode cX5_squareTable 33 = .ok (.if_icmp .ge 41, 3) := by decide +kernel
theorem dX5_squareTable_36 : decode cX5_squareTable 36 = .ok (.aload_n 0, 1) := by decide +kernel
theorem dX5_squareTable_37 : decode cX5_squareTable 37 = .ok (.getfield 25, 3) := by decide +kernel
theorem dX5_squareTable_40 : decode cX5_squareTable 40 = .ok (.iload_n 2, 1) := by decide +kernel
theorem dX5_squareTable_41 : decode cX5_squareTable 41 = .ok (.iload_n 1, 1) := by decide +kernel
theorem dX5_squareTable_42 : decode cX5_squareTable 42 = .ok (.imul, 1) := by decide +kernel
theorem dX5_squareTable_43 : decode cX5_squareTable 43 = .ok (.iload_n 3, 1) := by decide +kernel
theorem dX5_squareTable_44 : decode cX5_squareTable 44 = .ok (.iadd, 1) := by decide +kernel
theorem dX5_squareTable_45 : decode cX5_squareTable 45 = .ok (.laload, 1) := by decide +kernel
theorem dX5_squareTable_46 : decode cX5_squareTable 46 = .ok (.lstore 4, 2) := by decide +kernel
theorem dX5_squareTable_48 : decode cX5_squareTable 48 = .ok (.lload 4, 2) := by decide +kernel
theorem dX5_squareTable_50 : decode cX5_squareTable 50 = .ok (.lconst 0, 1) := by decide +kernel
theorem dX5_squareTable_51 : decode cX5_squareTable 51 = .ok (.lcmp, 1) := by decide +kernel
theorem dX5_squareTable_52 : decode cX5_squareTable 52 = .ok (.ifCond .eq 16, 3) := by decide +kernel
theorem dX5_squareTable_55 : decode cX5_squareTable 55 = .ok (.aload_n 0, 1) := by decide +kernel
theorem dX5_squareTable_56 : decode cX5_squareTable 56 = .ok (.iload_n 2, 1) := by decide +kernel
theorem dX5_squareTable_57 : decode cX5_squareTable 57 = .ok (.iload_n 1, 1) := by decide +kernel
theorem dX5_squareTable_58 : decode cX5_squareTable 58 = .ok (.imul, 1) := by decide +kernel
theorem dX5_squareTable_59 : decode cX5_squareTable 59 = .ok (.lload 4, 2) := by decide +kernel
theorem dX5_squareTable_61 : decode cX5_squareTable 61 = .ok (.iload_n 3, 1) := by decide +kernel
theorem dX5_squareTable_62 : decode cX5_squareTable 62 = .ok (.iload_n 1, 1) := by decide +kernel
theorem dX5_squareTable_63 : decode cX5_squareTable 63 = .ok (.imul, 1) := by decide +kernel
theorem dX5_squareTable_64 : decode cX5_squareTable 64 = .ok (.iload_n 1, 1) := by decide +kernel
theorem dX5_squareTable_65 : decode cX5_squareTable 65 = .ok (.invokevirtual 103, 3) := by decide +kernel
theorem dX5_squareTable_68 : decode cX5_squareTable 68 = .ok (.iinc 3 1, 3) := by decide +kernel
theorem dX5_squareTable_71 : decode cX5_squareTable 71 = .ok (.goto (-40), 3) := by decide +kernel
theorem dX5_squareTable_74 : decode cX5_squareTable 74 = .ok (.iinc 2 1, 3) := by decide +kernel
theorem dX5_squareTable_77 : decode cX5_squareTable 77 = .ok (.goto (-53), 3) := by decide +kernel
theorem dX5_squareTable_80 : decode cX5_squareTable 80 = .ok (.aload_n 0, 1) := by decide +kernel
theorem dX5_squareTable_81 : decode cX5_squareTable 81 = .ok (.getfield 25, 3) := by decide +kernel
theorem dX5_squareTable_84 : decode cX5_squareTable 84 = .ok (.astore_n 2, 1) := by decide +kernel
theorem dX5_squareTable_85 : decode cX5_squareTable 85 = .ok (.aload_n 0, 1) := by decide +kernel
theorem dX5_squareTable_86 : decode cX5_squareTable 86 = .ok (.aload_n 0, 1) := by decide +kernel
theorem dX5_squareTable_87 : decode cX5_squareTable 87 = .ok (.getfield 29, 3) := by decide +kernel
theorem dX5_squareTable_90 : decode cX5_squareTable 90 = .ok (.putfield 25, 3) := by decide +kernel
theorem dX5_squareTable_93 : decode cX5_squareTable 93 = .ok (.aload_n 0, 1) := by decide +kernel
theorem dX5_squareTable_94 : decode cX5_squareTable 94 = .ok (.aload_n 2, 1) := by decide +kernel
theorem dX5_squareTable_95 : decode cX5_squareTable 95 = .ok (.putfield 29, 3) := by decide +kernel
theorem dX5_squareTable_98 : decode cX5_squareTable 98 = .ok (.return_, 1) := by decide +kernel
theorem dX5_addRow_0 : decode cX5_addRow 0 = .ok (.iconst 0, 1) := by decide +kernel
theorem dX5_addRow_1 : decode cX5_addRow 1 = .ok (.istore 6, 2) := by decide +kernel
theorem dX5_addRow_3 : decode cX5_addRow 3 = .ok (.iload 6, 2) := by decide +kernel
theorem dX5_addRow_5 : decode cX5_addRow 5 = .ok (.iload 5, 2) := by decide +kernel
theorem dX5_addRow_7 : decode cX5_addRow 7 = .ok (.if_icmp .ge 44, 3) := by decide +kernel
theorem dX5_addRow_10 : decode cX5_addRow 10 = .ok (.aload_n 0, 1) := by decide +kernel
theorem dX5_addRow_11 : decode cX5_addRow 11 = .ok (.getfield 29, 3) := by decide +kernel
theorem dX5_addRow_14 : decode cX5_addRow 14 = .ok (.iload_n 1, 1) := by decide +kernel
theorem dX5_addRow_15 : decode cX5_addRow 15 = .ok (.iload 6, 2) := by decide +kernel
theorem dX5_addRow_17 : decode cX5_addRow 17 = .ok (.iadd, 1) := by decide +kernel
theorem dX5_addRow_18 : decode cX5_addRow 18 = .ok (.aload_n 0, 1) := by decide +kernel
theorem dX5_addRow_19 : decode cX5_addRow 19 = .ok (.getfield 29, 3) := by decide +kernel
theorem dX5_addRow_22 : decode cX5_addRow 22 = .ok (.iload_n 1, 1) := by decide +kernel
theorem dX5_addRow_23 : decode cX5_addRow 23 = .ok (.iload 6, 2) := by decide +kernel
theorem dX5_addRow_25 : decode cX5_addRow 25 = .ok (.iadd, 1) := by decide +kernel
theorem dX5_addRow_26 : decode cX5_addRow 26 = .ok (.laload, 1) := by decide +kernel
theorem dX5_addRow_27 : decode cX5_addRow 27 = .ok (.lload_n 2, 1) := by decide +kernel
theorem dX5_addRow_28 : decode cX5_addRow 28 = .ok (.aload_n 0, 1) := by decide +kernel
theorem dX5_addRow_29 : decode cX5_addRow 29 = .ok (.getfield 25, 3) := by decide +kernel
theorem dX5_addRow_32 : decode cX5_addRow 32 = .ok (.iload 4, 2) := by decide +kernel
theorem dX5_addRow_34 : decode cX5_addRow 34 = .ok (.iload 6, 2) := by decide +kernel
theorem dX5_addRow_36 : decode cX5_addRow 36 = .ok (.iadd, 1) := by decide +kernel
theorem dX5_addRow_37 : decode cX5_addRow 37 = .ok (.laload, 1) := by decide +kernel
theorem dX5_addRow_38 : decode cX5_addRow 38 = .ok (.lmul, 1) := by decide +kernel
theorem dX5_addRow_39 : decode cX5_addRow 39 = .ok (.ladd, 1) := by decide +kernel
theorem dX5_addRow_40 : decode cX5_addRow 40 = .ok (.ldc2_w 101, 3) := by decide +kernel
theorem dX5_addRow_43 : decode cX5_addRow 43 = .ok (.lrem, 1) := by decide +kernel
theorem dX5_addRow_44 : decode cX5_addRow 44 = .ok (.lastore, 1) := by decide +kernel
theorem dX5_addRow_45 : decode cX5_addRow 45 = .ok (.iinc 6 1, 3) := by decide +kernel
theorem dX5_addRow_48 : decode cX5_addRow 48 = .ok (.goto (-45), 3) := by decide +kernel
theorem dX5_addRow_51 : decode cX5_addRow 51 = .ok (.return_, 1) := by decide +kernel
theorem dX6_init_0 : decode cX6_init 0 = .ok (.aload_n 0, 1) := by decide +kernel
theorem dX6_init_1 : decode cX6_init 1 = .ok (.invokespecial 3, 3) := by decide +kernel
theorem dX6_init_4 : decode cX6_init 4 = .ok (.aload_n 0, 1) := by decide +kernel
theorem dX6_init_5 : decode cX6_init 5 = .ok (.sipush 243, 3) := by decide +kernel
theorem dX6_init_8 : decode cX6_init 8 = .ok (.newarray .int, 2) := by decide +kernel
theorem dX6_init_10 : decode cX6_init 10 = .ok (.putfield 9, 3) := by decide +kernel
theorem dX6_init_13 : decode cX6_init 13 = .ok (.aload_n 0, 1) := by decide +kernel
theorem dX6_init_14 : decode cX6_init 14 = .ok (.sipush 243, 3) := by decide +kernel
theorem dX6_init_17 : decode cX6_init 17 = .ok (.newarray .int, 2) := by decide +kernel
theorem dX6_init_19 : decode cX6_init 19 = .ok (.putfield 15, 3) := by decide +kernel
theorem dX6_init_22 : decode cX6_init 22 = .ok (.aload_n 0, 1) := by decide +kernel
theorem dX6_init_23 : decode cX6_init 23 = .ok (.sipush 243, 3) := by decide +kernel
theorem dX6_init_26 : decode cX6_init 26 = .ok (.newarray .int, 2) := by decide +kernel
theorem dX6_init_28 : decode cX6_init 28 = .ok (.putfield 18, 3) := by decide +kernel
theorem dX6_init_31 : decode cX6_init 31 = .ok (.aload_n 0, 1) := by decide +kernel
theorem dX6_init_32 : decode cX6_init 32 = .ok (.iconst 5, 1) := by decide +kernel
theorem dX6_init_33 : decode cX6_init 33 = .ok (.newarray .int, 2) := by decide +kernel
theorem dX6_init_35 : decode cX6_init 35 = .ok (.putfield 21, 3) := by decide +kernel
theorem dX6_init_38 : decode cX6_init 38 = .ok (.aload_n 0, 1) := by decide +kernel
theorem dX6_init_39 : decode cX6_init 39 = .ok (.iconst 5, 1) := by decide +kernel
theorem dX6_init_40 : decode cX6_init 40 = .ok (.newarray .int, 2) := by decide +kernel
theorem dX6_init_42 : decode cX6_init 42 = .ok (.putfield 24, 3) := by decide +kernel
theorem dX6_init_45 : decode cX6_init 45 = .ok (.aload_n 0, 1) := by decide +kernel
theorem dX6_init_46 : decode cX6_init 46 = .ok (.iconst 5, 1) := by decide +kernel
theorem dX6_init_47 : decode cX6_init 47 = .ok (.newarray .int, 2) := by decide +kernel
theorem dX6_init_49 : decode cX6_init 49 = .ok (.putfield 27, 3) := by decide +kernel
theorem dX6_init_52 : decode cX6_init 52 = .ok (.aload_n 0, 1) := by decide +kernel
theorem dX6_init_53 : decode cX6_init 53 = .ok (.aload_n 1, 1) := by decide +kernel
theorem dX6_init_54 : decode cX6_init 54 = .ok (.putfield 30, 3) := by decide +kernel
theorem dX6_init_57 : decode cX6_init 57 = .ok (.aload_n 0, 1) := by decide +kernel
theorem dX6_init_58 : decode cX6_init 58 = .ok (.aload_n 1, 1) := by decide +kernel
theorem dX6_init_59 : decode cX6_init 59 = .ok (.getfield 34, 3) := by decide +kernel
theorem dX6_init_62 : decode cX6_init 62 = .ok (.putfield 40, 3) := by decide +kernel
theorem dX6_init_65 : decode cX6_init 65 = .ok (.return_, 1) := by decide +kernel
set_option maxRecDepth 20000 in
theorem ggX6_unlike_X6_sortRows : GoodIn wsX6_unlike wsX6_sortRows := goodIn_r _ [9, 10, 11, 12, 13, 14, 15, 16, 17, 18, 19, 20, 21, 63, 64, 65, 66, 67, 68, 69, 70, 81, 82, 83, 84, 85, 86] (by decide +kernel) (by decide +kernel)
set_option maxRecDepth 20000 in
theorem gX6_unlike_X6_sortRows : GoodIn wsX6_unlike (wsV RX6 41 RX6 yX6_sortRows wsX6_sortRows) := goodIn_app (goodIn_of _ (by decide +kernel)) ggX6_unlike_X6_sortRows
set_option maxRecDepth 20000 in
theorem ggX6_unlike_X6_reach : GoodIn wsX6_unlike wsX6_reach := goodIn_r _ [25, 1, 2, 3, 10, 11, 14, 13, 26, 27, 28, 29, 30, 31, 8, 32, 33, 34, 35, 36, 37, 38, 39, 40, 41, 42, 43, 44, 45, 46, 47, 48, 49, 50, 51, 52, 53, 54, 55, 56, 57, 58, 63, 64, 65, 66, 67, 68, 69, 70, 71, 72, 73, 74, 75, 76, 77, 78, 79, 80, 81, 82, 83, 84, 85, 86, 87] (by decide +kernel) (by decide +kernel)
set_option maxRecDepth 20000 in
theorem gX6_unlike_X6_reach : GoodIn wsX6_unlike (wsV RX6 55 RX6 yX6_reach wsX6_reach) := goodIn_app (goodIn_of _ (by decide +kernel)) ggX6_unlike_X6_reach
set_option maxRecDepth 20000 in
theorem ggX6_unlike_X6_takeLook : GoodIn wsX6_unlike wsX6_takeLook := goodIn_r _ [62, 28, 27, 34, 13, 26, 63, 64, 65, 66, 67, 68, 69, 70] (by decide +kernel) (by decide +kernel)
set_option maxRecDepth 20000 in
theorem gX6_unlike_X6_takeLook : GoodIn wsX6_unlike (wsV RX6 60 RX6 yX6_takeLook wsX6_takeLook) := goodIn_app (goodIn_of _ (by decide +kernel)) ggX6_unlike_X6_takeLook
theorem dX6_unlike_0 : decode cX6_unlike 0 = .ok (.aload_n 0, 1) := by decide +kernel
theorem dX6_unlike_1 : decode cX6_unlike 1 = .ok (.aload_n 1, 1) := by decide +kernel
theorem dX6_unlike_2 : decode cX6_unlike 2 = .ok (.invokevirtual 41, 3) := by decide +kernel
theorem dX6_unlike_5 : decode cX6_unlike 5 = .ok (.aload_n 0, 1) := by decide +kernel
theorem dX6_unlike_6 : decode cX6_unlike 6 = .ok (.getfield 30, 3) := by decide +kernel
theorem dX6_unlike_9 : decode cX6_unlike 9 = .ok (.getfield 45, 3) := by decide +kernel
theorem dX6_unlike_12 : decode cX6_unlike 12 = .ok (.getfield 49, 3) := by decide +kernel
theorem dX6_unlike_15 : decode cX6_unlike 15 = .ok (.iconst 1, 1) := by decide +kernel
theorem dX6_unlike_16 : decode cX6_unlike 16 = .ok (.isub, 1) := by decide +kernel
theorem dX6_unlike_17 : decode cX6_unlike 17 = .ok (.istore_n 2, 1) := by decide +kernel
theorem dX6_unlike_18 : decode cX6_unlike 18 = .ok (.iload_n 2, 1) := by decide +kernel
theorem dX6_unlike_19 : decode cX6_unlike 19 = .ok (.ifCond .ne 9, 3) := by decide +kernel
theorem dX6_unlike_22 : decode cX6_unlike 22 = .ok (.aload_n 0, 1) := by decide +kernel
theorem dX6_unlike_23 : decode cX6_unlike 23 = .ok (.iconst 0, 1) := by decide +kernel
theorem dX6_unlike_24 : decode cX6_unlike 24 = .ok (.invokevirtual 55, 3) := by decide +kernel
theorem dX6_unlike_27 : decode cX6_unlike 27 = .ok (.ireturn, 1) := by decide +kernel
theorem dX6_unlike_28 : decode cX6_unlike 28 = .ok (.iconst 0, 1) := by decide +kernel
theorem dX6_unlike_29 : decode cX6_unlike 29 = .ok (.istore_n 3, 1) := by decide +kernel
theorem dX6_unlike_30 : decode cX6_unlike 30 = .ok (.iconst 0, 1) := by decide +kernel
theorem dX6_unlike_31 : decode cX6_unlike 31 = .ok (.istore 4, 2) := by decide +kernel
theorem dX6_unlike_33 : decode cX6_unlike 33 = .ok (.aload_n 0, 1) := by decide +kernel
theorem dX6_unlike_34 : decode cX6_unlike 34 = .ok (.iconst 0, 1) := by decide +kernel
theorem dX6_unlike_35 : decode cX6_unlike 35 = .ok (.invokevirtual 55, 3) := by decide +kernel
theorem dX6_unlike_38 : decode cX6_unlike 38 = .ok (.pop, 1) := by decide +kernel
theorem dX6_unlike_39 : decode cX6_unlike 39 = .ok (.iconst 0, 1) := by decide +kernel
theorem dX6_unlike_40 : decode cX6_unlike 40 = .ok (.istore 5, 2) := by decide +kernel
theorem dX6_unlike_42 : decode cX6_unlike 42 = .ok (.iload 5, 2) := by decide +kernel
theorem dX6_unlike_44 : decode cX6_unlike 44 = .ok (.ldc 59, 2) := by decide +kernel
theorem dX6_unlike_46 : decode cX6_unlike 46 = .ok (.if_icmp .ge 58, 3) := by decide +kernel
theorem dX6_unlike_49 : decode cX6_unlike 49 = .ok (.iload 4, 2) := by decide +kernel
theorem dX6_unlike_51 : decode cX6_unlike 51 = .ok (.ifCond .lt 53, 3) := by decide +kernel
theorem dX6_unlike_54 : decode cX6_unlike 54 = .ok (.aload_n 0, 1) := by decide +kernel
theorem dX6_unlike_55 : decode cX6_unlike 55 = .ok (.iload 4, 2) := by decide +kernel
theorem dX6_unlike_57 : decode cX6_unlike 57 = .ok (.invokevirtual 60, 3) := by decide +kernel
theorem dX6_unlike_60 : decode cX6_unlike 60 = .ok (.ifCond .ne 9, 3) := by decide +kernel
theorem dX6_unlike_63 : decode cX6_unlike 63 = .ok (.iinc 4 (-1), 3) := by decide +kernel
theorem dX6_unlike_66 : decode cX6_unlike 66 = .ok (.goto 32, 3) := by decide +kernel
theorem dX6_unlike_69 : decode cX6_unlike 69 = .ok (.iload 4, 2) := by decide +kernel
theorem dX6_unlike_71 : decode cX6_unlike 71 = .ok (.iconst 1, 1) := by decide +kernel
theorem dX6_unlike_72 : decode cX6_unlike 72 = .ok (.iadd, 1) := by decide +kernel
theorem dX6_unlike_73 : decode cX6_unlike 73 = .ok (.iload_n 2, 1) := by decide +kernel
theorem dX6_unlike_74 : decode cX6_unlike 74 = .ok (.if_icmp .ne 14, 3) := by decide +kernel
theorem dX6_unlike_77 : decode cX6_unlike 77 = .ok (.iload_n 3, 1) := by decide +kernel
theorem dX6_unlike_78 : decode cX6_unlike 78 = .ok (.aload_n 0, 1) := by decide +kernel
theorem dX6_unlike_79 : decode cX6_unlike 79 = .ok (.iload_n 2, 1) := by decide +kernel
theorem dX6_unlike_80 : decode cX6_unlike 80 = .ok (.invokevirtual 55, 3) := by decide +kernel
theorem dX6_unlike_83 : decode cX6_unlike 83 = .ok (.iadd, 1) := by decide +kernel
theorem dX6_unlike_84 : decode cX6_unlike 84 = .ok (.istore_n 3, 1) := by decide +kernel
theorem dX6_unlike_85 : decode cX6_unlike 85 = .ok (.goto 13, 3) := by decide +kernel
theorem dX6_unlike_88 : decode cX6_unlike 88 = .ok (.iinc 4 1, 3) := by decide +kernel
theorem dX6_unlike_91 : decode cX6_unlike 91 = .ok (.aload_n 0, 1) := by decide +kernel
theorem dX6_unlike_92 : decode cX6_unlike 92 = .ok (.iload 4, 2) := by decide +kernel
theorem dX6_unlike_94 : decode cX6_unlike 94 = .ok (.invokevirtual 55, 3) := by decide +kernel
theorem dX6_unlike_97 : decode cX6_unlike 97 = .ok (.pop, 1) := by decide +kernel
theorem dX6_unlike_98 : decode cX6_unlike 98 = .ok (.iinc 5 1, 3) := by decide +kernel
theorem dX6_unlike_101 : decode cX6_unlike 101 = .ok (.goto (-59), 3) := by decide +kernel
theorem dX6_unlike_104 : decode cX6_unlike 104 = .ok (.iload_n 3, 1) := by decide +kernel
theorem dX6_unlike_105 : decode cX6_unlike 105 = .ok (.ireturn, 1) := by decide +kernel
set_option maxRecDepth 20000 in
theorem ggX6_sortRows_X2_colour : GoodIn wsX6_sortRows wsX2_colour := goodIn_r _ [10, 11, 12, 21, 22, 23, 24, 25, 26] (by decide +kernel) (by decide +kernel)
set_option maxRecDepth 20000 in
theorem gX6_sortRows_X2_colour : GoodIn wsX6_sortRows (wsV RX6 72 RX2 yX2_colour wsX2_colour) := goodIn_app (goodIn_of _ (by decide +kernel)) ggX6_sortRows_X2_colour
theorem dX6_sortRows_0 : decode cX6_sortRows 0 = .ok (.iconst 0, 1) := by decide +kernel
theorem dX6_sortRows_1 : decode cX6_sortRows 1 = .ok (.istore_n 2, 1) := by decide +kernel
theorem dX6_sortRows_2 : decode cX6_sortRows 2 = .ok (.iload_n 2, 1) := by decide +kernel
theorem dX6_sortRows_3 : decode cX6_sortRows 3 = .ok (.aload_n 0, 1) := by decide +kernel
theorem dX6_sortRows_4 : decode cX6_sortRows 4 = .ok (.getfield 40, 3) := by decide +kernel
theorem dX6_sortRows_7 : decode cX6_sortRows 7 = .ok (.getfield 64, 3) := by decide +kernel
theorem dX6_sortRows_10 : decode cX6_sortRows 10 = .ok (.if_icmp .ge 56, 3) := by decide +kernel
theorem dX6_sortRows_13 : decode cX6_sortRows 13 = .ok (.iconst 0, 1) := by decide +kernel
theorem dX6_sortRows_14 : decode cX6_sortRows 14 = .ok (.istore_n 3, 1) := by decide +kernel
theorem dX6_sortRows_15 : decode cX6_sortRows 15 = .ok (.iconst 0, 1) := by decide +kernel
theorem dX6_sortRows_16 : decode cX6_sortRows 16 = .ok (.istore 4, 2) := by decide +kernel
theorem dX6_sortRows_18 : decode cX6_sortRows 18 = .ok (.iload 4, 2) := by decide +kernel
theorem dX6_sortRows_20 : decode cX6_sortRows 20 = .ok (.aload_n 0, 1) := by decide +kernel
theorem dX6_sortRows_21 : decode cX6_sortRows 21 = .ok (.getfield 40, 3) := by decide +kernel
theorem dX6_sortRows_24 : decode cX6_sortRows 24 = .ok (.getfield 69, 3) := by decide +kernel
theorem dX6_sortRows_27 : decode cX6_sortRows 27 = .ok (.if_icmp .ge 26, 3) := by decide +kernel
theorem dX6_sortRows_30 : decode cX6_sortRows 30 = .ok (.iload_n 3, 1) := by decide +kernel
theorem dX6_sortRows_31 : decode cX6_sortRows 31 = .ok (.iconst 1, 1) := by decide +kernel
theorem dX6_sortRows_32 : decode cX6_sortRows 32 = .ok (.ishl, 1) := by decide +kernel
theorem dX6_sortRows_33 : decode cX6_sortRows 33 = .ok (.aload_n 1, 1) := by decide +kernel
theorem dX6_sortRows_34 : decode cX6_sortRows 34 = .ok (.aload_n 0, 1) := by decide +kernel
theorem dX6_sortRows_35 : decode cX6_sortRows 35 = .ok (.getfield 40, 3) := by decide +kernel
theorem dX6_sortRows_38 : decode cX6_sortRows 38 = .ok (.iload_n 2, 1) := by decide +kernel
theorem dX6_sortRows_39 : decode cX6_sortRows 39 = .ok (.iload 4, 2) := by decide +kernel
theorem dX6_sortRows_41 : decode cX6_sortRows 41 = .ok (.invokevirtual 72, 3) := by decide +kernel
theorem dX6_sortRows_44 : decode cX6_sortRows 44 = .ok (.iaload, 1) := by decide +kernel
theorem dX6_sortRows_45 : decode cX6_sortRows 45 = .ok (.ior, 1) := by decide +kernel
theorem dX6_sortRows_46 : decode cX6_sortRows 46 = .ok (.istore_n 3, 1) := by decide +kernel
theorem dX6_sortRows_47 : decode cX6_sortRows 47 = .ok (.iinc 4 1, 3) := by decide +kernel
theorem dX6_sortRows_50 : decode cX6_sortRows 50 = .ok (.goto (-32), 3) := by decide +kernel
theorem dX6_sortRows_53 : decode cX6_sortRows 53 = .ok (.aload_n 0, 1) := by decide +kernel
theorem dX6_sortRows_54 : decode cX6_sortRows 54 = .ok (.getfield 9, 3) := by decide +kernel
theorem dX6_sortRows_57 : decode cX6_sortRows 57 = .ok (.iload_n 2, 1) := by decide +kernel
theorem dX6_sortRows_58 : decode cX6_sortRows 58 = .ok (.iload_n 3, 1) := by decide +kernel
theorem dX6_sortRows_59 : decode cX6_sortRows 59 = .ok (.iastore, 1) := by decide +kernel
theorem dX6_sortRows_60 : decode cX6_sortRows 60 = .ok (.iinc 2 1, 3) := by decide +kernel
theorem dX6_sortRows_63 : decode cX6_sortRows 63 = .ok (.goto (-61), 3) := by decide +kernel
theorem dX6_sortRows_66 : decode cX6_sortRows 66 = .ok (.iconst 0, 1) := by decide +kernel
theorem dX6_sortRows_67 : decode cX6_sortRows 67 = .ok (.istore_n 2, 1) := by decide +kernel
theorem dX6_sortRows_68 : decode cX6_sortRows 68 = .ok (.iconst 0, 1) := by decide +kernel
theorem dX6_sortRows_69 : decode cX6_sortRows 69 = .ok (.istore_n 3, 1) := by decide +kernel
theorem dX6_sortRows_70 : decode cX6_sortRows 70 = .ok (.iload_n 3, 1) := by decide +kernel
theorem dX6_sortRows_71 : decode cX6_sortRows 71 = .ok (.iconst 1, 1) := by decide +kernel
theorem dX6_sortRows_72 : decode cX6_sortRows 72 = .ok (.aload_n 0, 1) := by decide +kernel
theorem dX6_sortRows_73 : decode cX6_sortRows 73 = .ok (.getfield 40, 3) := by decide +kernel
theorem dX6_sortRows_76 : decode cX6_sortRows 76 = .ok (.getfield 69, 3) := by decide +kernel
theorem dX6_sortRows_79 : decode cX6_sortRows 79 = .ok (.ishl, 1) := by decide +kernel
theorem dX6_sortRows_80 : decode cX6_sortRows 80 = .ok (.if_icmp .ge 52, 3) := by decide +kernel
theorem dX6_sortRows_83 : decode cX6_sortRows 83 = .ok (.iconst 0, 1) := by decide +kernel
theorem dX6_sortRows_84 : decode cX6_sortRows 84 = .ok (.istore 4, 2) := by decide +kernel
theorem dX6_sortRows_86 : decode cX6_sortRows 86 = .ok (.iload 4, 2) := by decide +kernel
theorem dX6_sortRows_88 : decode cX6_sortRows 88 = .ok (.aload_n 0, 1) := by decide +kernel
theorem dX6_sortRows_89 : decode cX6_sortRows 89 = .ok (.getfield 40, 3) := by decide +kernel
theorem dX6_sortRows_92 : decode cX6_sortRows 92 = .ok (.getfield 64, 3) := by decide +kernel
theorem dX6_sortRows_95 : decode cX6_sortRows 95 = .ok (.if_icmp .ge 31, 3) := by decide +kernel
theorem dX6_sortRows_98 : decode cX6_sortRows 98 = .ok (.aload_n 0, 1) := by decide +kernel
theorem dX6_sortRows_99 : decode cX6_sortRows 99 = .ok (.getfield 9, 3) := by decide +kernel
theorem dX6_sortRows_102 : decode cX6_sortRows 102 = .ok (.iload 4, 2) := by decide +kernel
theorem dX6_sortRows_104 : decode cX6_sortRows 104 = .ok (.iaload, 1) := by decide +kernel
theorem dX6_sortRows_105 : decode cX6_sortRows 105 = .ok (.iload_n 3, 1) := by decide +kernel
theorem dX6_sortRows_106 : decode cX6_sortRows 106 = .ok (.if_icmp .ne 14, 3) := by decide +kernel
theorem dX6_sortRows_109 : decode cX6_sortRows 109 = .ok (.aload_n 0, 1) := by decide +kernel
theorem dX6_sortRows_110 : decode cX6_sortRows 110 = .ok (.getfield 15, 3) := by decide +kernel
theorem dX6_sortRows_113 : decode cX6_sortRows 113 = .ok (.iload_n 2, 1) := by decide +kernel
theorem dX6_sortRows_114 : decode cX6_sortRows 114 = .ok (.iload 4, 2) := by decide +kernel
theorem dX6_sortRows_116 : decode cX6_sortRows 116 = .ok (.iastore, 1) := by decide +kernel
theorem dX6_sortRows_117 : decode cX6_sortRows 117 = .ok (.iinc 2 1, 3) := by decide +kernel
theorem dX6_sortRows_120 : decode cX6_sortRows 120 = .ok (.iinc 4 1, 3) := by decide +kernel
theorem dX6_sortRows_123 : decode cX6_sortRows 123 = .ok (.goto (-37), 3) := by decide +kernel
theorem dX6_sortRows_126 : decode cX6_sortRows 126 = .ok (.iinc 3 1, 3) := by decide +kernel
theorem dX6_sortRows_129 : decode cX6_sortRows 129 = .ok (.goto (-59), 3) := by decide +kernel
theorem dX6_sortRows_132 : decode cX6_sortRows 132 = .ok (.return_, 1) := by decide +kernel
set_option maxRecDepth 20000 in
theorem ggX6_reach_X6_mayStand : GoodIn wsX6_reach wsX6_mayStand := goodIn_r _ [15, 1, 4, 16, 17, 10, 18, 8, 19, 20, 21, 22, 23, 24, 25, 26, 27, 28, 29, 30, 31, 32, 33, 34, 42, 43, 44, 45, 46, 47, 48, 49, 60, 61, 62, 63, 64, 65, 50, 51, 52, 53, 54, 55, 56, 66] (by decide +kernel) (by decide +kernel)
set_option maxRecDepth 20000 in
theorem gX6_reach_X6_mayStand : GoodIn wsX6_reach (wsV RX6 76 RX6 yX6_mayStand wsX6_mayStand) := goodIn_app (goodIn_of _ (by decide +kernel)) ggX6_reach_X6_mayStand
set_option maxRecDepth 20000 in
theorem ggX6_reach_J6_bitCount_0f7a4 : GoodIn wsX6_reach wsJ6_bitCount_0f7a4 := goodIn_r _ [38, 39, 40, 41] (by decide +kernel) (by decide +kernel)
set_option maxRecDepth 20000 in
theorem gX6_reach_J6_bitCount_0f7a4 : GoodIn wsX6_reach (va_wsS RX6 80 yJ6_bitCount_0f7a4 wsJ6_bitCount_0f7a4) := goodIn_app (goodIn_of _ (by decide +kernel)) ggX6_reach_J6_bitCount_0f7a4
theorem dX6_reach_0 : decode cX6_reach 0 = .ok (.iload_n 1, 1) := by decide +kernel
theorem dX6_reach_1 : decode cX6_reach 1 = .ok (.aload_n 0, 1) := by decide +kernel
theorem dX6_reach_2 : decode cX6_reach 2 = .ok (.getfield 30, 3) := by decide +kernel
theorem dX6_reach_5 : decode cX6_reach 5 = .ok (.getfield 45, 3) := by decide +kernel
theorem dX6_reach_8 : decode cX6_reach 8 = .ok (.getfield 49, 3) := by decide +kernel
theorem dX6_reach_11 : decode cX6_reach 11 = .ok (.iconst 1, 1) := by decide +kernel
theorem dX6_reach_12 : decode cX6_reach 12 = .ok (.isub, 1) := by decide +kernel
theorem dX6_reach_13 : decode cX6_reach 13 = .ok (.if_icmp .ge 7, 3) := by decide +kernel
theorem dX6_reach_16 : decode cX6_reach 16 = .ok (.iconst 1, 1) := by decide +kernel
theorem dX6_reach_17 : decode cX6_reach 17 = .ok (.goto 4, 3) := by decide +kernel
theorem dX6_reach_20 : decode cX6_reach 20 = .ok (.iconst 0, 1) := by decide +kernel
theorem dX6_reach_21 : decode cX6_reach 21 = .ok (.istore_n 2, 1) := by decide +kernel
theorem dX6_reach_22 : decode cX6_reach 22 = .ok (.iload_n 1, 1) := by decide +kernel
theorem dX6_reach_23 : decode cX6_reach 23 = .ok (.aload_n 0, 1) := by decide +kernel
theorem dX6_reach_24 : decode cX6_reach 24 = .ok (.getfield 40, 3) := by decide +kernel
theorem dX6_reach_27 : decode cX6_reach 27 = .ok (.getfield 64, 3) := by decide +kernel
theorem dX6_reach_30 : decode cX6_reach 30 = .ok (.imul, 1) := by decide +kernel
theorem dX6_reach_31 : decode cX6_reach 31 = .ok (.istore_n 3, 1) := by decide +kernel
theorem dX6_reach_32 : decode cX6_reach 32 = .ok (.iconst 0, 1) := by decide +kernel
theorem dX6_reach_33 : decode cX6_reach 33 = .ok (.istore 4, 2) := by decide +kernel
theorem dX6_reach_35 : decode cX6_reach 35 = .ok (.iconst 0, 1) := by decide +kernel
theorem dX6_reach_36 : decode cX6_reach 36 = .ok (.istore 5, 2) := by decide +kernel
theorem dX6_reach_38 : decode cX6_reach 38 = .ok (.iconst 0, 1) := by decide +kernel
theorem dX6_reach_39 : decode cX6_reach 39 = .ok (.istore 6, 2) := by decide +kernel
theorem dX6_reach_41 : decode cX6_reach 41 = .ok (.iload 6, 2) := by decide +kernel
theorem dX6_reach_43 : decode cX6_reach 43 = .ok (.aload_n 0, 1) := by decide +kernel
theorem dX6_reach_44 : decode cX6_reach 44 = .ok (.getfield 40, 3) := by decide +kernel
theorem dX6_reach_47 : decode cX6_reach 47 = .ok (.getfield 64, 3) := by decide +kernel
theorem dX6_reach_50 : decode cX6_reach 50 = .ok (.if_icmp .ge 86, 3) := by decide +kernel
theorem dX6_reach_53 : decode cX6_reach 53 = .ok (.aload_n 0, 1) := by decide +kernel
theorem dX6_reach_54 : decode cX6_reach 54 = .ok (.getfield 15, 3) := by decide +kernel
theorem dX6_reach_57 : decode cX6_reach 57 = .ok (.iload 6, 2) := by decide +kernel
theorem dX6_reach_59 : decode cX6_reach 59 = .ok (.iaload, 1) := by decide +kernel
theorem dX6_reach_60 : decode cX6_reach 60 = .ok (.istore 7, 2) := by decide +kernel
theorem dX6_reach_62 : decode cX6_reach 62 = .ok (.iconst 1, 1) := by decide +kernel
theorem dX6_reach_63 : decode cX6_reach 63 = .ok (.aload_n 0, 1) := by decide +kernel
theorem dX6_reach_64 : decode cX6_reach 64 = .ok (.getfield 9, 3) := by decide +kernel
theorem dX6_reach_67 : decode cX6_reach 67 = .ok (.iload 7, 2) := by decide +kernel
theorem dX6_reach_69 : decode cX6_reach 69 = .ok (.iaload, 1) := by decide +kernel
theorem dX6_reach_70 : decode cX6_reach 70 = .ok (.ishl, 1) := by decide +kernel
theorem dX6_reach_71 : decode cX6_reach 71 = .ok (.istore 8, 2) := by decide +kernel
theorem dX6_reach_73 : decode cX6_reach 73 = .ok (.iload_n 2, 1) := by decide +kernel
theorem dX6_reach_74 : decode cX6_reach 74 = .ok (.ifCond .ne 11, 3) := by decide +kernel
theorem dX6_reach_77 : decode cX6_reach 77 = .ok (.iload 5, 2) := by decide +kernel
theorem dX6_reach_79 : decode cX6_reach 79 = .ok (.iload 8, 2) := by decide +kernel
theorem dX6_reach_81 : decode cX6_reach 81 = .ok (.iand, 1) := by decide +kernel
theorem dX6_reach_82 : decode cX6_reach 82 = .ok (.ifCond .ne 48, 3) := by decide +kernel
theorem dX6_reach_85 : decode cX6_reach 85 = .ok (.aload_n 0, 1) := by decide +kernel
theorem dX6_reach_86 : decode cX6_reach 86 = .ok (.iload_n 1, 1) := by decide +kernel
theorem dX6_reach_87 : decode cX6_reach 87 = .ok (.iload 7, 2) := by decide +kernel
theorem dX6_reach_89 : decode cX6_reach 89 = .ok (.invokevirtual 76, 3) := by decide +kernel
theorem dX6_reach_92 : decode cX6_reach 92 = .ok (.ifCond .eq 38, 3) := by decide +kernel
theorem dX6_reach_95 : decode cX6_reach 95 = .ok (.iload 5, 2) := by decide +kernel
theorem dX6_reach_97 : decode cX6_reach 97 = .ok (.iload 8, 2) := by decide +kernel
theorem dX6_reach_99 : decode cX6_reach 99 = .ok (.ior, 1) := by decide +kernel
theorem dX6_reach_100 : decode cX6_reach 100 = .ok (.istore 5, 2) := by decide +kernel
theorem dX6_reach_102 : decode cX6_reach 102 = .ok (.iload_n 2, 1) := by decide +kernel
theorem dX6_reach_103 : decode cX6_reach 103 = .ok (.ifCond .eq 27, 3) := by decide +kernel
theorem dX6_reach_106 : decode cX6_reach 106 = .ok (.iload_n 3, 1) := by decide +kernel
theorem dX6_reach_107 : decode cX6_reach 107 = .ok (.iload 4, 2) := by decide +kernel
theorem dX6_reach_109 : decode cX6_reach 109 = .ok (.iadd, 1) := by decide +kernel
theorem dX6_reach_110 : decode cX6_reach 110 = .ok (.sipush 243, 3) := by decide +kernel
theorem dX6_reach_113 : decode cX6_reach 113 = .ok (.if_icmp .ge 17, 3) := by decide +kernel
theorem dX6_reach_116 : decode cX6_reach 116 = .ok (.aload_n 0, 1) := by decide +kernel
theorem dX6_reach_117 : decode cX6_reach 117 = .ok (.getfield 18, 3) := by decide +kernel
theorem dX6_reach_120 : decode cX6_reach 120 = .ok (.iload_n 3, 1) := by decide +kernel
theorem dX6_reach_121 : decode cX6_reach 121 = .ok (.iload 4, 2) := by decide +kernel
theorem dX6_reach_123 : decode cX6_reach 123 = .ok (.iadd, 1) := by decide +kernel
theorem dX6_reach_124 : decode cX6_reach 124 = .ok (.iload 7, 2) := by decide +kernel
theorem dX6_reach_126 : decode cX6_reach 126 = .ok (.iastore, 1) := by decide +kernel
theorem dX6_reach_127 : decode cX6_reach 127 = .ok (.iinc 4 1, 3) := by decide +kernel
theorem dX6_reach_130 : decode cX6_reach 130 = .ok (.iinc 6 1, 3) := by decide +kernel
theorem dX6_reach_133 : decode cX6_reach 133 = .ok (.goto (-92), 3) := by decide +kernel
theorem dX6_reach_136 : decode cX6_reach 136 = .ok (.aload_n 0, 1) := by decide +kernel
theorem dX6_reach_137 : decode cX6_reach 137 = .ok (.getfield 21, 3) := by decide +kernel
theorem dX6_reach_140 : decode cX6_reach 140 = .ok (.iload_n 1, 1) := by decide +kernel
theorem dX6_reach_141 : decode cX6_reach 141 = .ok (.iload_n 3, 1) := by decide +kernel
theorem dX6_reach_142 : decode cX6_reach 142 = .ok (.iload 4, 2) := by decide +kernel
theorem dX6_reach_144 : decode cX6_reach 144 = .ok (.iadd, 1) := by decide +kernel
theorem dX6_reach_145 : decode cX6_reach 145 = .ok (.iastore, 1) := by decide +kernel
theorem dX6_reach_146 : decode cX6_reach 146 = .ok (.aload_n 0, 1) := by decide +kernel
theorem dX6_reach_147 : decode cX6_reach 147 = .ok (.getfield 27, 3) := by decide +kernel
theorem dX6_reach_150 : decode cX6_reach 150 = .ok (.iload_n 1, 1) := by decide +kernel
theorem dX6_reach_151 : decode cX6_reach 151 = .ok (.iload_n 3, 1) := by decide +kernel
theorem dX6_reach_152 : decode cX6_reach 152 = .ok (.iastore, 1) := by decide +kernel
theorem dX6_reach_153 : decode cX6_reach 153 = .ok (.iload 5, 2) := by decide +kernel
theorem dX6_reach_155 : decode cX6_reach 155 = .ok (.invokestatic 80, 3) := by decide +kernel
theorem dX6_reach_158 : decode cX6_reach 158 = .ok (.ireturn, 1) := by decide +kernel
set_option maxRecDepth 20000 in
theorem ggX6_mayStand_X0_waysUnder : GoodIn wsX6_mayStand wsX0_waysUnder := goodIn_r _ [12, 13, 14, 15, 16, 17, 18, 19, 20, 21, 22, 23, 38, 39, 40, 41, 42, 43, 44, 32, 33, 34, 35, 36, 37, 45] (by decide +kernel) (by decide +kernel)
set_option maxRecDepth 20000 in
theorem gX6_mayStand_X0_waysUnder : GoodIn wsX6_mayStand (wsV RX6 88 RX0 yX0_waysUnder wsX0_waysUnder) := goodIn_app (goodIn_of _ (by decide +kernel)) ggX6_mayStand_X0_waysUnder
theorem dX6_mayStand_0 : decode cX6_mayStand 0 = .ok (.iload_n 1, 1) := by decide +kernel
theorem dX6_mayStand_1 : decode cX6_mayStand 1 = .ok (.ifCond .ne 30, 3) := by decide +kernel
theorem dX6_mayStand_4 : decode cX6_mayStand 4 = .ok (.aload_n 0, 1) := by decide +kernel
theorem dX6_mayStand_5 : decode cX6_mayStand 5 = .ok (.getfield 30, 3) := by decide +kernel
theorem dX6_mayStand_8 : decode cX6_mayStand 8 = .ok (.aload_n 0, 1) := by decide +kernel
theorem dX6_mayStand_9 : decode cX6_mayStand 9 = .ok (.getfield 40, 3) := by decide +kernel
theorem dX6_mayStand_12 : decode cX6_mayStand 12 = .ok (.getfield 85, 3) := by decide +kernel
theorem dX6_mayStand_15 : decode cX6_mayStand 15 = .ok (.iload_n 1, 1) := by decide +kernel
theorem dX6_mayStand_16 : decode cX6_mayStand 16 = .ok (.iload_n 2, 1) := by decide +kernel
theorem dX6_mayStand_17 : decode cX6_mayStand 17 = .ok (.invokevirtual 88, 3) := by decide +kernel
theorem dX6_mayStand_20 : decode cX6_mayStand 20 = .ok (.lconst 0, 1) := by decide +kernel
theorem dX6_mayStand_21 : decode cX6_mayStand 21 = .ok (.lcmp, 1) := by decide +kernel
theorem dX6_mayStand_22 : decode cX6_mayStand 22 = .ok (.ifCond .eq 7, 3) := by decide +kernel
theorem dX6_mayStand_25 : decode cX6_mayStand 25 = .ok (.iconst 1, 1) := by decide +kernel
theorem dX6_mayStand_26 : decode cX6_mayStand 26 = .ok (.goto 4, 3) := by decide +kernel
theorem dX6_mayStand_29 : decode cX6_mayStand 29 = .ok (.iconst 0, 1) := by decide +kernel
theorem dX6_mayStand_30 : decode cX6_mayStand 30 = .ok (.ireturn, 1) := by decide +kernel
theorem dX6_mayStand_31 : decode cX6_mayStand 31 = .ok (.aload_n 0, 1) := by decide +kernel
theorem dX6_mayStand_32 : decode cX6_mayStand 32 = .ok (.getfield 24, 3) := by decide +kernel
theorem dX6_mayStand_35 : decode cX6_mayStand 35 = .ok (.iload_n 1, 1) := by decide +kernel
theorem dX6_mayStand_36 : decode cX6_mayStand 36 = .ok (.iconst 1, 1) := by decide +kernel
theorem dX6_mayStand_37 : decode cX6_mayStand 37 = .ok (.isub, 1) := by decide +kernel
theorem dX6_mayStand_38 : decode cX6_mayStand 38 = .ok (.iaload, 1) := by decide +kernel
theorem dX6_mayStand_39 : decode cX6_mayStand 39 = .ok (.istore_n 3, 1) := by decide +kernel
theorem dX6_mayStand_40 : decode cX6_mayStand 40 = .ok (.iload_n 3, 1) := by decide +kernel
theorem dX6_mayStand_41 : decode cX6_mayStand 41 = .ok (.aload_n 0, 1) := by decide +kernel
theorem dX6_mayStand_42 : decode cX6_mayStand 42 = .ok (.getfield 27, 3) := by decide +kernel
theorem dX6_mayStand_45 : decode cX6_mayStand 45 = .ok (.iload_n 1, 1) := by decide +kernel
theorem dX6_mayStand_46 : decode cX6_mayStand 46 = .ok (.iconst 1, 1) := by decide +kernel
theorem dX6_mayStand_47 : decode cX6_mayStand 47 = .ok (.isub, 1) := by decide +kernel
theorem dX6_mayStand_48 : decode cX6_mayStand 48 = .ok (.iaload, 1) := by decide +kernel
theorem dX6_mayStand_49 : decode cX6_mayStand 49 = .ok (.if_icmp .ge 39, 3) := by decide +kernel
theorem dX6_mayStand_52 : decode cX6_mayStand 52 = .ok (.aload_n 0, 1) := by decide +kernel
theorem dX6_mayStand_53 : decode cX6_mayStand 53 = .ok (.getfield 30, 3) := by decide +kernel
theorem dX6_mayStand_56 : decode cX6_mayStand 56 = .ok (.aload_n 0, 1) := by decide +kernel
theorem dX6_mayStand_57 : decode cX6_mayStand 57 = .ok (.getfield 40, 3) := by decide +kernel
theorem dX6_mayStand_60 : decode cX6_mayStand 60 = .ok (.getfield 92, 3) := by decide +kernel
theorem dX6_mayStand_63 : decode cX6_mayStand 63 = .ok (.aload_n 0, 1) := by decide +kernel
theorem dX6_mayStand_64 : decode cX6_mayStand 64 = .ok (.getfield 18, 3) := by decide +kernel
theorem dX6_mayStand_67 : decode cX6_mayStand 67 = .ok (.iload_n 3, 1) := by decide +kernel
theorem dX6_mayStand_68 : decode cX6_mayStand 68 = .ok (.iaload, 1) := by decide +kernel
theorem dX6_mayStand_69 : decode cX6_mayStand 69 = .ok (.iaload, 1) := by decide +kernel
theorem dX6_mayStand_70 : decode cX6_mayStand 70 = .ok (.iload_n 1, 1) := by decide +kernel
theorem dX6_mayStand_71 : decode cX6_mayStand 71 = .ok (.iload_n 2, 1) := by decide +kernel
theorem dX6_mayStand_72 : decode cX6_mayStand 72 = .ok (.invokevirtual 88, 3) := by decide +kernel
theorem dX6_mayStand_75 : decode cX6_mayStand 75 = .ok (.lconst 0, 1) := by decide +kernel
theorem dX6_mayStand_76 : decode cX6_mayStand 76 = .ok (.lcmp, 1) := by decide +kernel
theorem dX6_mayStand_77 : decode cX6_mayStand 77 = .ok (.ifCond .eq 5, 3) := by decide +kernel
theorem dX6_mayStand_80 : decode cX6_mayStand 80 = .ok (.iconst 1, 1) := by decide +kernel
theorem dX6_mayStand_81 : decode cX6_mayStand 81 = .ok (.ireturn, 1) := by decide +kernel
theorem dX6_mayStand_82 : decode cX6_mayStand 82 = .ok (.iinc 3 1, 3) := by decide +kernel
theorem dX6_mayStand_85 : decode cX6_mayStand 85 = .ok (.goto (-45), 3) := by decide +kernel
theorem dX6_mayStand_88 : decode cX6_mayStand 88 = .ok (.iconst 0, 1) := by decide +kernel
theorem dX6_mayStand_89 : decode cX6_mayStand 89 = .ok (.ireturn, 1) := by decide +kernel
theorem dX6_takeLook_0 : decode cX6_takeLook 0 = .ok (.aload_n 0, 1) := by decide +kernel
theorem dX6_takeLook_1 : decode cX6_takeLook 1 = .ok (.getfield 27, 3) := by decide +kernel
theorem dX6_takeLook_4 : decode cX6_takeLook 4 = .ok (.iload_n 1, 1) := by decide +kernel
theorem dX6_takeLook_5 : decode cX6_takeLook 5 = .ok (.iaload, 1) := by decide +kernel
theorem dX6_takeLook_6 : decode cX6_takeLook 6 = .ok (.aload_n 0, 1) := by decide +kernel
theorem dX6_takeLook_7 : decode cX6_takeLook 7 = .ok (.getfield 21, 3) := by decide +kernel
theorem dX6_takeLook_10 : decode cX6_takeLook 10 = .ok (.iload_n 1, 1) := by decide +kernel
theorem dX6_takeLook_11 : decode cX6_takeLook 11 = .ok (.iaload, 1) := by decide +kernel
theorem dX6_takeLook_12 : decode cX6_takeLook 12 = .ok (.if_icmp .lt 5, 3) := by decide +kernel
theorem dX6_takeLook_15 : decode cX6_takeLook 15 = .ok (.iconst 0, 1) := by decide +kernel
theorem dX6_takeLook_16 : decode cX6_takeLook 16 = .ok (.ireturn, 1) := by decide +kernel
theorem dX6_takeLook_17 : decode cX6_takeLook 17 = .ok (.aload_n 0, 1) := by decide +kernel
theorem dX6_takeLook_18 : decode cX6_takeLook 18 = .ok (.getfield 27, 3) := by decide +kernel
theorem dX6_takeLook_21 : decode cX6_takeLook 21 = .ok (.iload_n 1, 1) := by decide +kernel
theorem dX6_takeLook_22 : decode cX6_takeLook 22 = .ok (.iaload, 1) := by decide +kernel
theorem dX6_takeLook_23 : decode cX6_takeLook 23 = .ok (.istore_n 2, 1) := by decide +kernel
theorem dX6_takeLook_24 : decode cX6_takeLook 24 = .ok (.aload_n 0, 1) := by decide +kernel
theorem dX6_takeLook_25 : decode cX6_takeLook 25 = .ok (.getfield 24, 3) := by decide +kernel
theorem dX6_takeLook_28 : decode cX6_takeLook 28 = .ok (.iload_n 1, 1) := by decide +kernel
theorem dX6_takeLook_29 : decode cX6_takeLook 29 = .ok (.iload_n 2, 1) := by decide +kernel
theorem dX6_takeLook_30 : decode cX6_takeLook 30 = .ok (.iastore, 1) := by decide +kernel
theorem dX6_takeLook_31 : decode cX6_takeLook 31 = .ok (.aload_n 0, 1) := by decide +kernel
theorem dX6_takeLook_32 : decode cX6_takeLook 32 = .ok (.getfield 9, 3) := by decide +kernel
theorem dX6_takeLook_35 : decode cX6_takeLook 35 = .ok (.aload_n 0, 1) := by decide +kernel
theorem dX6_takeLook_36 : decode cX6_takeLook 36 = .ok (.getfield 18, 3) := by decide +kernel
theorem dX6_takeLook_39 : decode cX6_takeLook 39 = .ok (.iload_n 2, 1) := by decide +kernel
theorem dX6_takeLook_40 : decode cX6_takeLook 40 = .ok (.iaload, 1) := by decide +kernel
theorem dX6_takeLook_41 : decode cX6_takeLook 41 = .ok (.iaload, 1) := by decide +kernel
theorem dX6_takeLook_42 : decode cX6_takeLook 42 = .ok (.istore_n 3, 1) := by decide +kernel
theorem dX6_takeLook_43 : decode cX6_takeLook 43 = .ok (.iload_n 2, 1) := by decide +kernel
theorem dX6_takeLook_44 : decode cX6_takeLook 44 = .ok (.aload_n 0, 1) := by decide +kernel
theorem dX6_takeLook_45 : decode cX6_takeLook 45 = .ok (.getfield 21, 3) := by decide +kernel
theorem dX6_takeLook_48 : decode cX6_takeLook 48 = .ok (.iload_n 1, 1) := by decide +kernel
theorem dX6_takeLook_49 : decode cX6_takeLook 49 = .ok (.iaload, 1) := by decide +kernel
theorem dX6_takeLook_50 : decode cX6_takeLook 50 = .ok (.if_icmp .ge 24, 3) := by decide +kernel
theorem dX6_takeLook_53 : decode cX6_takeLook 53 = .ok (.aload_n 0, 1) := by decide +kernel
theorem dX6_takeLook_54 : decode cX6_takeLook 54 = .ok (.getfield 9, 3) := by decide +kernel
theorem dX6_takeLook_57 : decode cX6_takeLook 57 = .ok (.aload_n 0, 1) := by decide +kernel
theorem dX6_takeLook_58 : decode cX6_takeLook 58 = .ok (.getfield 18, 3) := by decide +kernel
theorem dX6_takeLook_61 : decode cX6_takeLook 61 = .ok (.iload_n 2, 1) := by decide +kernel
theorem dX6_takeLook_62 : decode cX6_takeLook 62 = .ok (.iaload, 1) := by decide +kernel
theorem dX6_takeLook_63 : decode cX6_takeLook 63 = .ok (.iaload, 1) := by decide +kernel
theorem dX6_takeLook_64 : decode cX6_takeLook 64 = .ok (.iload_n 3, 1) := by decide +kernel
theorem dX6_takeLook_65 : decode cX6_takeLook 65 = .ok (.if_icmp .ne 9, 3) := by decide +kernel
theorem dX6_takeLook_68 : decode cX6_takeLook 68 = .ok (.iinc 2 1, 3) := by decide +kernel
theorem dX6_takeLook_71 : decode cX6_takeLook 71 = .ok (.goto (-28), 3) := by decide +kernel
theorem dX6_takeLook_74 : decode cX6_takeLook 74 = .ok (.aload_n 0, 1) := by decide +kernel
theorem dX6_takeLook_75 : decode cX6_takeLook 75 = .ok (.getfield 27, 3) := by decide +kernel
theorem dX6_takeLook_78 : decode cX6_takeLook 78 = .ok (.iload_n 1, 1) := by decide +kernel
theorem dX6_takeLook_79 : decode cX6_takeLook 79 = .ok (.iload_n 2, 1) := by decide +kernel
theorem dX6_takeLook_80 : decode cX6_takeLook 80 = .ok (.iastore, 1) := by decide +kernel
theorem dX6_takeLook_81 : decode cX6_takeLook 81 = .ok (.iconst 1, 1) := by decide +kernel
theorem dX6_takeLook_82 : decode cX6_takeLook 82 = .ok (.ireturn, 1) := by decide +kernel
theorem dX7_init_0 : decode cX7_init 0 = .ok (.aload_n 0, 1) := by decide +kernel
theorem dX7_init_1 : decode cX7_init 1 = .ok (.invokespecial 3, 3) := by decide +kernel
theorem dX7_init_4 : decode cX7_init 4 = .ok (.aload_n 0, 1) := by decide +kernel
theorem dX7_init_5 : decode cX7_init 5 = .ok (.iconst 1, 1) := by decide +kernel
theorem dX7_init_6 : decode cX7_init 6 = .ok (.putfield 9, 3) := by decide +kernel
theorem dX7_init_9 : decode cX7_init 9 = .ok (.aload_n 0, 1) := by decide +kernel
theorem dX7_init_10 : decode cX7_init 10 = .ok (.bipush 20, 2) := by decide +kernel
theorem dX7_init_12 : decode cX7_init 12 = .ok (.newarray .int, 2) := by decide +kernel
theorem dX7_init_14 : decode cX7_init 14 = .ok (.putfield 15, 3) := by decide +kernel
theorem dX7_init_17 : decode cX7_init 17 = .ok (.aload_n 0, 1) := by decide +kernel
theorem dX7_init_18 : decode cX7_init 18 = .ok (.bipush 20, 2) := by decide +kernel
theorem dX7_init_20 : decode cX7_init 20 = .ok (.newarray .int, 2) := by decide +kernel
theorem dX7_init_22 : decode cX7_init 22 = .ok (.putfield 19, 3) := by decide +kernel
theorem dX7_init_25 : decode cX7_init 25 = .ok (.aload_n 0, 1) := by decide +kernel
theorem dX7_init_26 : decode cX7_init 26 = .ok (.sipush 245, 3) := by decide +kernel
theorem dX7_init_29 : decode cX7_init 29 = .ok (.newarray .int, 2) := by decide +kernel
theorem dX7_init_31 : decode cX7_init 31 = .ok (.putfield 22, 3) := by decide +kernel
theorem dX7_init_34 : decode cX7_init 34 = .ok (.aload_n 0, 1) := by decide +kernel
theorem dX7_init_35 : decode cX7_init 35 = .ok (.iconst 0, 1) := by decide +kernel
theorem dX7_init_36 : decode cX7_init 36 = .ok (.putfield 25, 3) := by decide +kernel
theorem dX7_init_39 : decode cX7_init 39 = .ok (.aload_n 0, 1) := by decide +kernel
theorem dX7_init_40 : decode cX7_init 40 = .ok (.iconst 0, 1) := by decide +kernel
theorem dX7_init_41 : decode cX7_init 41 = .ok (.putfield 28, 3) := by decide +kernel
theorem dX7_init_44 : decode cX7_init 44 = .ok (.aload_n 0, 1) := by decide +kernel
theorem dX7_init_45 : decode cX7_init 45 = .ok (.iconst 0, 1) := by decide +kernel
theorem dX7_init_46 : decode cX7_init 46 = .ok (.putfield 31, 3) := by decide +kernel
theorem dX7_init_49 : decode cX7_init 49 = .ok (.aload_n 0, 1) := by decide +kernel
theorem dX7_init_50 : decode cX7_init 50 = .ok (.iconst 0, 1) := by decide +kernel
theorem dX7_init_51 : decode cX7_init 51 = .ok (.putfield 34, 3) := by decide +kernel
theorem dX7_init_54 : decode cX7_init 54 = .ok (.aload_n 0, 1) := by decide +kernel
theorem dX7_init_55 : decode cX7_init 55 = .ok (.iconst 0, 1) := by decide +kernel
theorem dX7_init_56 : decode cX7_init 56 = .ok (.putfield 37, 3) := by decide +kernel
theorem dX7_init_59 : decode cX7_init 59 = .ok (.aload_n 0, 1) := by decide +kernel
theorem dX7_init_60 : decode cX7_init 60 = .ok (.iconst 0, 1) := by decide +kernel
theorem dX7_init_61 : decode cX7_init 61 = .ok (.putfield 40, 3) := by decide +kernel
theorem dX7_init_64 : decode cX7_init 64 = .ok (.aload_n 0, 1) := by decide +kernel
theorem dX7_init_65 : decode cX7_init 65 = .ok (.iconst 0, 1) := by decide +kernel
theorem dX7_init_66 : decode cX7_init 66 = .ok (.putfield 43, 3) := by decide +kernel
theorem dX7_init_69 : decode cX7_init 69 = .ok (.return_, 1) := by decide +kernel
set_option maxRecDepth 20000 in
theorem ggX7_become_J7_fill_53178 : GoodIn wsX7_become wsJ7_fill_53178 := goodIn_r _ [7] (by decide +kernel) (by decide +kernel)
set_option maxRecDepth 20000 in
theorem gX7_become_J7_fill_53178 : GoodIn wsX7_become (va_wsS RX7 46 yJ7_fill_53178 wsJ7_fill_53178) := goodIn_app (goodIn_of _ (by decide +kernel)) ggX7_become_J7_fill_53178
theorem dX7_become_0 : decode cX7_become 0 = .ok (.aload_n 0, 1) := by decide +kernel
theorem dX7_become_1 : decode cX7_become 1 = .ok (.iload_n 1, 1) := by decide +kernel
theorem dX7_become_2 : decode cX7_become 2 = .ok (.putfield 9, 3) := by decide +kernel
theorem dX7_become_5 : decode cX7_become 5 = .ok (.aload_n 0, 1) := by decide +kernel
theorem dX7_become_6 : decode cX7_become 6 = .ok (.getfield 15, 3) := by decide +kernel
theorem dX7_become_9 : decode cX7_become 9 = .ok (.iconst 5, 1) := by decide +kernel
theorem dX7_become_10 : decode cX7_become 10 = .ok (.invokestatic 46, 3) := by decide +kernel
theorem dX7_become_13 : decode cX7_become 13 = .ok (.aload_n 0, 1) := by decide +kernel
theorem dX7_become_14 : decode cX7_become 14 = .ok (.getfield 19, 3) := by decide +kernel
theorem dX7_become_17 : decode cX7_become 17 = .ok (.iconst 0, 1) := by decide +kernel
theorem dX7_become_18 : decode cX7_become 18 = .ok (.invokestatic 46, 3) := by decide +kernel
theorem dX7_become_21 : decode cX7_become 21 = .ok (.return_, 1) := by decide +kernel
theorem dX7_hasState_0 : decode cX7_hasState 0 = .ok (.iload_n 1, 1) := by decide +kernel
theorem dX7_hasState_1 : decode cX7_hasState 1 = .ok (.ifCond .lt 15, 3) := by decide +kernel
theorem dX7_hasState_4 : decode cX7_hasState 4 = .ok (.iload_n 1, 1) := by decide +kernel
theorem dX7_hasState_5 : decode cX7_hasState 5 = .ok (.aload_n 0, 1) := by decide +kernel
theorem dX7_hasState_6 : decode cX7_hasState 6 = .ok (.getfield 9, 3) := by decide +kernel
theorem dX7_hasState_9 : decode cX7_hasState 9 = .ok (.if_icmp .ge 7, 3) := by decide +kernel
theorem dX7_hasState_12 : decode cX7_hasState 12 = .ok (.iconst 1, 1) := by decide +kernel
theorem dX7_hasState_13 : decode cX7_hasState 13 = .ok (.goto 4, 3) := by decide +kernel
theorem dX7_hasState_16 : decode cX7_hasState 16 = .ok (.iconst 0, 1) := by decide +kernel
theorem dX7_hasState_17 : decode cX7_hasState 17 = .ok (.ireturn, 1) := by decide +kernel
theorem dX7_teach_0 : decode cX7_teach 0 = .ok (.aload_n 0, 1) := by decide +kernel
theorem dX7_teach_1 : decode cX7_teach 1 = .ok (.getfield 15, 3) := by decide +kernel
theorem dX7_teach_4 : decode cX7_teach 4 = .ok (.iload_n 1, 1) := by decide +kernel
theorem dX7_teach_5 : decode cX7_teach 5 = .ok (.iconst 4, 1) := by decide +kernel
theorem dX7_teach_6 : decode cX7_teach 6 = .ok (.imul, 1) := by decide +kernel
theorem dX7_teach_7 : decode cX7_teach 7 = .ok (.iload_n 2, 1) := by decide +kernel
theorem dX7_teach_8 : decode cX7_teach 8 = .ok (.iadd, 1) := by decide +kernel
theorem dX7_teach_9 : decode cX7_teach 9 = .ok (.iload_n 3, 1) := by decide +kernel
theorem dX7_teach_10 : decode cX7_teach 10 = .ok (.iastore, 1) := by decide +kernel
theorem dX7_teach_11 : decode cX7_teach 11 = .ok (.aload_n 0, 1) := by decide +kernel
theorem dX7_teach_12 : decode cX7_teach 12 = .ok (.getfield 19, 3) := by decide +kernel
theorem dX7_teach_15 : decode cX7_teach 15 = .ok (.iload_n 1, 1) := by decide +kernel
theorem dX7_teach_16 : decode cX7_teach 16 = .ok (.iconst 4, 1) := by decide +kernel
theorem dX7_teach_17 : decode cX7_teach 17 = .ok (.imul, 1) := by decide +kernel
theorem dX7_teach_18 : decode cX7_teach 18 = .ok (.iload_n 2, 1) := by decide +kernel
theorem dX7_teach_19 : decode cX7_teach 19 = .ok (.iadd, 1) := by decide +kernel
theorem dX7_teach_20 : decode cX7_teach 20 = .ok (.iload 4, 2) := by decide +kernel
theorem dX7_teach_22 : decode cX7_teach 22 = .ok (.iastore, 1) := by decide +kernel
theorem dX7_teach_23 : decode cX7_teach 23 = .ok (.return_, 1) := by decide +kernel
set_option maxRecDepth 20000 in
theorem ggX7_go_X7_isNewHere : GoodIn wsX7_go wsX7_isNewHere := goodIn_r _ [12, 5, 13, 4, 3, 7, 1, 14, 30, 31, 32, 33, 34, 35, 36, 37, 38, 39, 40, 41, 42, 43] (by decide +kernel) (by decide +kernel)
set_option maxRecDepth 20000 in
theorem gX7_go_X7_isNewHere : GoodIn wsX7_go (wsV RX7 52 RX7 yX7_isNewHere wsX7_isNewHere) := goodIn_app (goodIn_of _ (by decide +kernel)) ggX7_go_X7_isNewHere
set_option maxRecDepth 20000 in
theorem ggX7_go_X7_moves : GoodIn wsX7_go wsX7_moves := goodIn_r _ [18, 5, 6, 19, 3, 4, 20, 14, 2, 13, 21, 22, 23, 24, 25, 26, 27, 28, 29, 30, 31, 32, 33, 34, 35, 36, 37, 38, 39, 40, 41, 42, 43] (by decide +kernel) (by decide +kernel)
set_option maxRecDepth 20000 in
theorem gX7_go_X7_moves : GoodIn wsX7_go (wsV RX7 56 RX7 yX7_moves wsX7_moves) := goodIn_app (goodIn_of _ (by decide +kernel)) ggX7_go_X7_moves
theorem dX7_go_0 : decode cX7_go 0 = .ok (.aload_n 0, 1) := by decide +kernel
theorem dX7_go_1 : decode cX7_go 1 = .ok (.dup, 1) := by decide +kernel
theorem dX7_go_2 : decode cX7_go 2 = .ok (.getfield 25, 3) := by decide +kernel
theorem dX7_go_5 : decode cX7_go 5 = .ok (.iconst 1, 1) := by decide +kernel
theorem dX7_go_6 : decode cX7_go 6 = .ok (.iadd, 1) := by decide +kernel
theorem dX7_go_7 : decode cX7_go 7 = .ok (.putfield 25, 3) := by decide +kernel
theorem dX7_go_10 : decode cX7_go 10 = .ok (.aload_n 0, 1) := by decide +kernel
theorem dX7_go_11 : decode cX7_go 11 = .ok (.iconst 0, 1) := by decide +kernel
theorem dX7_go_12 : decode cX7_go 12 = .ok (.putfield 37, 3) := by decide +kernel
theorem dX7_go_15 : decode cX7_go 15 = .ok (.aload_n 0, 1) := by decide +kernel
theorem dX7_go_16 : decode cX7_go 16 = .ok (.iconst 0, 1) := by decide +kernel
theorem dX7_go_17 : decode cX7_go 17 = .ok (.putfield 40, 3) := by decide +kernel
theorem dX7_go_20 : decode cX7_go 20 = .ok (.aload_n 0, 1) := by decide +kernel
theorem dX7_go_21 : decode cX7_go 21 = .ok (.iconst 0, 1) := by decide +kernel
theorem dX7_go_22 : decode cX7_go 22 = .ok (.putfield 28, 3) := by decide +kernel
theorem dX7_go_25 : decode cX7_go 25 = .ok (.aload_n 0, 1) := by decide +kernel
theorem dX7_go_26 : decode cX7_go 26 = .ok (.iconst 0, 1) := by decide +kernel
theorem dX7_go_27 : decode cX7_go 27 = .ok (.putfield 31, 3) := by decide +kernel
theorem dX7_go_30 : decode cX7_go 30 = .ok (.aload_n 0, 1) := by decide +kernel
theorem dX7_go_31 : decode cX7_go 31 = .ok (.iconst 0, 1) := by decide +kernel
theorem dX7_go_32 : decode cX7_go 32 = .ok (.putfield 43, 3) := by decide +kernel
theorem dX7_go_35 : decode cX7_go 35 = .ok (.iconst 1, 1) := by decide +kernel
theorem dX7_go_36 : decode cX7_go 36 = .ok (.istore_n 2, 1) := by decide +kernel
theorem dX7_go_37 : decode cX7_go 37 = .ok (.iconst 0, 1) := by decide +kernel
theorem dX7_go_38 : decode cX7_go 38 = .ok (.istore_n 3, 1) := by decide +kernel
theorem dX7_go_39 : decode cX7_go 39 = .ok (.iload_n 3, 1) := by decide +kernel
theorem dX7_go_40 : decode cX7_go 40 = .ok (.aload_n 0, 1) := by decide +kernel
theorem dX7_go_41 : decode cX7_go 41 = .ok (.getfield 22, 3) := by decide +kernel
theorem dX7_go_44 : decode cX7_go 44 = .ok (.arraylength, 1) := by decide +kernel
theorem dX7_go_45 : decode cX7_go 45 = .ok (.if_icmp .gt 35, 3) := by decide +kernel
theorem dX7_go_48 : decode cX7_go 48 = .ok (.iload_n 2, 1) := by decide +kernel
theorem dX7_go_49 : decode cX7_go 49 = .ok (.ifCond .eq 31, 3) := by decide +kernel
theorem dX7_go_52 : decode cX7_go 52 = .ok (.aload_n 0, 1) := by decide +kernel
theorem dX7_go_53 : decode cX7_go 53 = .ok (.aload_n 1, 1) := by decide +kernel
theorem dX7_go_54 : decode cX7_go 54 = .ok (.invokevirtual 52, 3) := by decide +kernel
theorem dX7_go_57 : decode cX7_go 57 = .ok (.ifCond .eq 15, 3) := by decide +kernel
theorem dX7_go_60 : decode cX7_go 60 = .ok (.aload_n 0, 1) := by decide +kernel
theorem dX7_go_61 : decode cX7_go 61 = .ok (.aload_n 1, 1) := by decide +kernel
theorem dX7_go_62 : decode cX7_go 62 = .ok (.invokevirtual 56, 3) := by decide +kernel
theorem dX7_go_65 : decode cX7_go 65 = .ok (.ifCond .eq 7, 3) := by decide +kernel
theorem dX7_go_68 : decode cX7_go 68 = .ok (.iconst 1, 1) := by decide +kernel
theorem dX7_go_69 : decode cX7_go 69 = .ok (.goto 4, 3) := by decide +kernel
theorem dX7_go_72 : decode cX7_go 72 = .ok (.iconst 0, 1) := by decide +kernel
theorem dX7_go_73 : decode cX7_go 73 = .ok (.istore_n 2, 1) := by decide +kernel
theorem dX7_go_74 : decode cX7_go 74 = .ok (.iinc 3 1, 3) := by decide +kernel
theorem dX7_go_77 : decode cX7_go 77 = .ok (.goto (-38), 3) := by decide +kernel
theorem dX7_go_80 : decode cX7_go 80 = .ok (.return_, 1) := by decide +kernel
theorem dX7_isNewHere_0 : decode cX7_isNewHere 0 = .ok (.aload_n 0, 1) := by decide +kernel
theorem dX7_isNewHere_1 : decode cX7_isNewHere 1 = .ok (.getfield 31, 3) := by decide +kernel
theorem dX7_isNewHere_4 : decode cX7_isNewHere 4 = .ok (.iconst 1, 1) := by decide +kernel
theorem dX7_isNewHere_5 : decode cX7_isNewHere 5 = .ok (.iadd, 1) := by decide +kernel
theorem dX7_isNewHere_6 : decode cX7_isNewHere 6 = .ok (.aload_n 1, 1) := by decide +kernel
theorem dX7_isNewHere_7 : decode cX7_isNewHere 7 = .ok (.getfield 59, 3) := by decide +kernel
theorem dX7_isNewHere_10 : decode cX7_isNewHere 10 = .ok (.iconst 2, 1) := by decide +kernel
theorem dX7_isNewHere_11 : decode cX7_isNewHere 11 = .ok (.iadd, 1) := by decide +kernel
theorem dX7_isNewHere_12 : decode cX7_isNewHere 12 = .ok (.imul, 1) := by decide +kernel
theorem dX7_isNewHere_13 : decode cX7_isNewHere 13 = .ok (.aload_n 0, 1) := by decide +kernel
theorem dX7_isNewHere_14 : decode cX7_isNewHere 14 = .ok (.getfield 28, 3) := by decide +kernel
theorem dX7_isNewHere_17 : decode cX7_isNewHere 17 = .ok (.iadd, 1) := by decide +kernel
theorem dX7_isNewHere_18 : decode cX7_isNewHere 18 = .ok (.iconst 1, 1) := by decide +kernel
theorem dX7_isNewHere_19 : decode cX7_isNewHere 19 = .ok (.iadd, 1) := by decide +kernel
theorem dX7_isNewHere_20 : decode cX7_isNewHere 20 = .ok (.istore_n 2, 1) := by decide +kernel
theorem dX7_isNewHere_21 : decode cX7_isNewHere 21 = .ok (.iload_n 2, 1) := by decide +kernel
theorem dX7_isNewHere_22 : decode cX7_isNewHere 22 = .ok (.iconst 5, 1) := by decide +kernel
theorem dX7_isNewHere_23 : decode cX7_isNewHere 23 = .ok (.imul, 1) := by decide +kernel
theorem dX7_isNewHere_24 : decode cX7_isNewHere 24 = .ok (.aload_n 0, 1) := by decide +kernel
theorem dX7_isNewHere_25 : decode cX7_isNewHere 25 = .ok (.getfield 40, 3) := by decide +kernel
theorem dX7_isNewHere_28 : decode cX7_isNewHere 28 = .ok (.iadd, 1) := by decide +kernel
theorem dX7_isNewHere_29 : decode cX7_isNewHere 29 = .ok (.istore_n 3, 1) := by decide +kernel
theorem dX7_isNewHere_30 : decode cX7_isNewHere 30 = .ok (.aload_n 0, 1) := by decide +kernel
theorem dX7_isNewHere_31 : decode cX7_isNewHere 31 = .ok (.getfield 22, 3) := by decide +kernel
theorem dX7_isNewHere_34 : decode cX7_isNewHere 34 = .ok (.iload_n 3, 1) := by decide +kernel
theorem dX7_isNewHere_35 : decode cX7_isNewHere 35 = .ok (.iaload, 1) := by decide +kernel
theorem dX7_isNewHere_36 : decode cX7_isNewHere 36 = .ok (.aload_n 0, 1) := by decide +kernel
theorem dX7_isNewHere_37 : decode cX7_isNewHere 37 = .ok (.getfield 25, 3) := by decide +kernel
theorem dX7_isNewHere_40 : decode cX7_isNewHere 40 = .ok (.if_icmp .ne 10, 3) := by decide +kernel
theorem dX7_isNewHere_43 : decode cX7_isNewHere 43 = .ok (.aload_n 0, 1) := by decide +kernel
theorem dX7_isNewHere_44 : decode cX7_isNewHere 44 = .ok (.iconst 2, 1) := by decide +kernel
theorem dX7_isNewHere_45 : decode cX7_isNewHere 45 = .ok (.putfield 34, 3) := by decide +kernel
theorem dX7_isNewHere_48 : decode cX7_isNewHere 48 = .ok (.iconst 0, 1) := by decide +kernel
theorem dX7_isNewHere_49 : decode cX7_isNewHere 49 = .ok (.ireturn, 1) := by decide +kernel
theorem dX7_isNewHere_50 : decode cX7_isNewHere 50 = .ok (.aload_n 0, 1) := by decide +kernel
theorem dX7_isNewHere_51 : decode cX7_isNewHere 51 = .ok (.getfield 22, 3) := by decide +kernel
theorem dX7_isNewHere_54 : decode cX7_isNewHere 54 = .ok (.iload_n 3, 1) := by decide +kernel
theorem dX7_isNewHere_55 : decode cX7_isNewHere 55 = .ok (.aload_n 0, 1) := by decide +kernel
theorem dX7_isNewHere_56 : decode cX7_isNewHere 56 = .ok (.getfield 25, 3) := by decide +kernel
theorem dX7_isNewHere_59 : decode cX7_isNewHere 59 = .ok (.iastore, 1) := by decide +kernel
theorem dX7_isNewHere_60 : decode cX7_isNewHere 60 = .ok (.iconst 1, 1) := by decide +kernel
theorem dX7_isNewHere_61 : decode cX7_isNewHere 61 = .ok (.ireturn, 1) := by decide +kernel
set_option maxRecDepth 20000 in
theorem ggX7_moves_X4_at : GoodIn wsX7_moves wsX4_at := goodIn_r _ [15, 16, 17, 18, 30, 31, 32] (by decide +kernel) (by decide +kernel)
set_option maxRecDepth 20000 in
theorem gX7_moves_X4_at : GoodIn wsX7_moves (wsV RX7 67 RX4 yX4_at wsX4_at) := goodIn_app (goodIn_of _ (by decide +kernel)) ggX7_moves_X4_at
theorem dX7_moves_0 : decode cX7_moves 0 = .ok (.aload_n 0, 1) := by decide +kernel
theorem dX7_moves_1 : decode cX7_moves 1 = .ok (.getfield 31, 3) := by decide +kernel
theorem dX7_moves_4 : decode cX7_moves 4 = .ok (.aload_n 0, 1) := by decide +kernel
theorem dX7_moves_5 : decode cX7_moves 5 = .ok (.getfield 43, 3) := by decide +kernel
theorem dX7_moves_8 : decode cX7_moves 8 = .ok (.if_icmp .le 22, 3) := by decide +kernel
theorem dX7_moves_11 : decode cX7_moves 11 = .ok (.aload_n 0, 1) := by decide +kernel
theorem dX7_moves_12 : decode cX7_moves 12 = .ok (.getfield 31, 3) := by decide +kernel
theorem dX7_moves_15 : decode cX7_moves 15 = .ok (.aload_n 1, 1) := by decide +kernel
theorem dX7_moves_16 : decode cX7_moves 16 = .ok (.getfield 64, 3) := by decide +kernel
theorem dX7_moves_19 : decode cX7_moves 19 = .ok (.if_icmp .ge 11, 3) := by decide +kernel
theorem dX7_moves_22 : decode cX7_moves 22 = .ok (.aload_n 0, 1) := by decide +kernel
theorem dX7_moves_23 : decode cX7_moves 23 = .ok (.aload_n 0, 1) := by decide +kernel
theorem dX7_moves_24 : decode cX7_moves 24 = .ok (.getfield 31, 3) := by decide +kernel
theorem dX7_moves_27 : decode cX7_moves 27 = .ok (.putfield 43, 3) := by decide +kernel
theorem dX7_moves_30 : decode cX7_moves 30 = .ok (.aload_n 0, 1) := by decide +kernel
theorem dX7_moves_31 : decode cX7_moves 31 = .ok (.getfield 40, 3) := by decide +kernel
theorem dX7_moves_34 : decode cX7_moves 34 = .ok (.iconst 4, 1) := by decide +kernel
theorem dX7_moves_35 : decode cX7_moves 35 = .ok (.imul, 1) := by decide +kernel
theorem dX7_moves_36 : decode cX7_moves 36 = .ok (.aload_n 1, 1) := by decide +kernel
theorem dX7_moves_37 : decode cX7_moves 37 = .ok (.aload_n 0, 1) := by decide +kernel
theorem dX7_moves_38 : decode cX7_moves 38 = .ok (.getfield 31, 3) := by decide +kernel
theorem dX7_moves_41 : decode cX7_moves 41 = .ok (.aload_n 0, 1) := by decide +kernel
theorem dX7_moves_42 : decode cX7_moves 42 = .ok (.getfield 28, 3) := by decide +kernel
theorem dX7_moves_45 : decode cX7_moves 45 = .ok (.invokevirtual 67, 3) := by decide +kernel
theorem dX7_moves_48 : decode cX7_moves 48 = .ok (.iconst 3, 1) := by decide +kernel
theorem dX7_moves_49 : decode cX7_moves 49 = .ok (.iand, 1) := by decide +kernel
theorem dX7_moves_50 : decode cX7_moves 50 = .ok (.iadd, 1) := by decide +kernel
theorem dX7_moves_51 : decode cX7_moves 51 = .ok (.istore_n 2, 1) := by decide +kernel
theorem dX7_moves_52 : decode cX7_moves 52 = .ok (.aload_n 0, 1) := by decide +kernel
theorem dX7_moves_53 : decode cX7_moves 53 = .ok (.getfield 15, 3) := by decide +kernel
theorem dX7_moves_56 : decode cX7_moves 56 = .ok (.iload_n 2, 1) := by decide +kernel
theorem dX7_moves_57 : decode cX7_moves 57 = .ok (.iaload, 1) := by decide +kernel
theorem dX7_moves_58 : decode cX7_moves 58 = .ok (.istore_n 3, 1) := by decide +kernel
theorem dX7_moves_59 : decode cX7_moves 59 = .ok (.iload_n 3, 1) := by decide +kernel
theorem dX7_moves_60 : decode cX7_moves 60 = .ok (.iconst 4, 1) := by decide +kernel
theorem dX7_moves_61 : decode cX7_moves 61 = .ok (.if_icmp .lt 19, 3) := by decide +kernel
theorem dX7_moves_64 : decode cX7_moves 64 = .ok (.aload_n 0, 1) := by decide +kernel
theorem dX7_moves_65 : decode cX7_moves 65 = .ok (.iload_n 3, 1) := by decide +kernel
theorem dX7_moves_66 : decode cX7_moves 66 = .ok (.iconst 4, 1) := by decide +kernel
theorem dX7_moves_67 : decode cX7_moves 67 = .ok (.if_icmp .ne 7, 3) := by decide +kernel
theorem dX7_moves_70 : decode cX7_moves 70 = .ok (.iconst 1, 1) := by decide +kernel
theorem dX7_moves_71 : decode cX7_moves 71 = .ok (.goto 4, 3) := by decide +kernel
theorem dX7_moves_74 : decode cX7_moves 74 = .ok (.iconst 0, 1) := by decide +kernel
theorem dX7_moves_75 : decode cX7_moves 75 = .ok (.putfield 34, 3) := by decide +kernel
theorem dX7_moves_78 : decode cX7_moves 78 = .ok (.iconst 0, 1) := by decide +kernel
theorem dX7_moves_79 : decode cX7_moves 79 = .ok (.ireturn, 1) := by decide +kernel
theorem dX7_moves_80 : decode cX7_moves 80 = .ok (.aload_n 0, 1) := by decide +kernel
theorem dX7_moves_81 : decode cX7_moves 81 = .ok (.dup, 1) := by decide +kernel
theorem dX7_moves_82 : decode cX7_moves 82 = .ok (.getfield 37, 3) := by decide +kernel
theorem dX7_moves_85 : decode cX7_moves 85 = .ok (.iconst 1, 1) := by decide +kernel
theorem dX7_moves_86 : decode cX7_moves 86 = .ok (.iadd, 1) := by decide +kernel
theorem dX7_moves_87 : decode cX7_moves 87 = .ok (.putfield 37, 3) := by decide +kernel
theorem dX7_moves_90 : decode cX7_moves 90 = .ok (.aload_n 0, 1) := by decide +kernel
theorem dX7_moves_91 : decode cX7_moves 91 = .ok (.dup, 1) := by decide +kernel
theorem dX7_moves_92 : decode cX7_moves 92 = .ok (.getfield 28, 3) := by decide +kernel
theorem dX7_moves_95 : decode cX7_moves 95 = .ok (.iload_n 3, 1) := by decide +kernel
theorem dX7_moves_96 : decode cX7_moves 96 = .ok (.ifCond .ne 7, 3) := by decide +kernel
theorem dX7_moves_99 : decode cX7_moves 99 = .ok (.iconst 1, 1) := by decide +kernel
theorem dX7_moves_100 : decode cX7_moves 100 = .ok (.goto 13, 3) := by decide +kernel
theorem dX7_moves_103 : decode cX7_moves 103 = .ok (.iload_n 3, 1) := by decide +kernel
theorem dX7_moves_104 : decode cX7_moves 104 = .ok (.iconst 2, 1) := by decide +kernel
theorem dX7_moves_105 : decode cX7_moves 105 = .ok (.if_icmp .ne 7, 3) := by decide +kernel
theorem dX7_moves_108 : decode cX7_moves 108 = .ok (.iconst (-1), 1) := by decide +kernel
theorem dX7_moves_109 : decode cX7_moves 109 = .ok (.goto 4, 3) := by decide +kernel
theorem dX7_moves_112 : decode cX7_moves 112 = .ok (.iconst 0, 1) := by decide +kernel
theorem dX7_moves_113 : decode cX7_moves 113 = .ok (.iadd, 1) := by decide +kernel
theorem dX7_moves_114 : decode cX7_moves 114 = .ok (.putfield 28, 3) := by decide +kernel
theorem dX7_moves_117 : decode cX7_moves 117 = .ok (.aload_n 0, 1) := by decide +kernel
theorem dX7_moves_118 : decode cX7_moves 118 = .ok (.dup, 1) := by decide +kernel
theorem dX7_moves_119 : decode cX7_moves 119 = .ok (.getfield 31, 3) := by decide +kernel
theorem dX7_moves_122 : decode cX7_moves 122 = .ok (.iload_n 3, 1) := by decide +kernel
theorem dX7_moves_123 : decode cX7_moves 123 = .ok (.iconst 1, 1) := by decide +kernel
theorem dX7_moves_124 : decode cX7_moves 124 = .ok (.if_icmp .ne 7, 3) := by decide +kernel
theorem dX7_moves_127 : decode cX7_moves 127 = .ok (.iconst 1, 1) := by decide +kernel
theorem dX7_moves_128 : decode cX7_moves 128 = .ok (.goto 13, 3) := by decide +kernel
theorem dX7_moves_131 : decode cX7_moves 131 = .ok (.iload_n 3, 1) := by decide +kernel
theorem dX7_moves_132 : decode cX7_moves 132 = .ok (.iconst 3, 1) := by decide +kernel
theorem dX7_moves_133 : decode cX7_moves 133 = .ok (.if_icmp .ne 7, 3) := by decide +kernel
theorem dX7_moves_136 : decode cX7_moves 136 = .ok (.iconst (-1), 1) := by decide +kernel
theorem dX7_moves_137 : decode cX7_moves 137 = .ok (.goto 4, 3) := by decide +kernel
theorem dX7_moves_140 : decode cX7_moves 140 = .ok (.iconst 0, 1) := by decide +kernel
theorem dX7_moves_141 : decode cX7_moves 141 = .ok (.iadd, 1) := by decide +kernel
theorem dX7_moves_142 : decode cX7_moves 142 = .ok (.putfield 31, 3) := by decide +kernel
theorem dX7_moves_145 : decode cX7_moves 145 = .ok (.aload_n 0, 1) := by decide +kernel
theorem dX7_moves_146 : decode cX7_moves 146 = .ok (.getfield 28, 3) := by decide +kernel
theorem dX7_moves_149 : decode cX7_moves 149 = .ok (.iconst (-1), 1) := by decide +kernel
theorem dX7_moves_150 : decode cX7_moves 150 = .ok (.if_icmp .lt 33, 3) := by decide +kernel
theorem dX7_moves_153 : decode cX7_moves 153 = .ok (.aload_n 0, 1) := by decide +kernel
theorem dX7_moves_154 : decode cX7_moves 154 = .ok (.getfield 28, 3) := by decide +kernel
theorem dX7_moves_157 : decode cX7_moves 157 = .ok (.aload_n 1, 1) := by decide +kernel
theorem dX7_moves_158 : decode cX7_moves 158 = .ok (.getfield 59, 3) := by decide +kernel
theorem dX7_moves_161 : decode cX7_moves 161 = .ok (.if_icmp .gt 22, 3) := by decide +kernel
theorem dX7_moves_164 : decode cX7_moves 164 = .ok (.aload_n 0, 1) := by decide +kernel
theorem dX7_moves_165 : decode cX7_moves 165 = .ok (.getfield 31, 3) := by decide +kernel
theorem dX7_moves_168 : decode cX7_moves 168 = .ok (.iconst (-1), 1) := by decide +kernel
theorem dX7_moves_169 : decode cX7_moves 169 = .ok (.if_icmp .lt 14, 3) := by decide +kernel
theorem dX7_moves_172 : decode cX7_moves 172 = .ok (.aload_n 0, 1) := by decide +kernel
theorem dX7_moves_173 : decode cX7_moves 173 = .ok (.getfield 31, 3) := by decide +kernel
theorem dX7_moves_176 : decode cX7_moves 176 = .ok (.aload_n 1, 1) := by decide +kernel
theorem dX7_moves_177 : decode cX7_moves 177 = .ok (.getfield 64, 3) := by decide +kernel
theorem dX7_moves_180 : decode cX7_moves 180 = .ok (.if_icmp .le 10, 3) := by decide +kernel
theorem dX7_moves_183 : decode cX7_moves 183 = .ok (.aload_n 0, 1) := by decide +kernel
theorem dX7_moves_184 : decode cX7_moves 184 = .ok (.iconst 0, 1) := by decide +kernel
theorem dX7_moves_185 : decode cX7_moves 185 = .ok (.putfield 34, 3) := by decide +kernel
theorem dX7_moves_188 : decode cX7_moves 188 = .ok (.iconst 0, 1) := by decide +kernel
theorem dX7_moves_189 : decode cX7_moves 189 = .ok (.ireturn, 1) := by decide +kernel
theorem dX7_moves_190 : decode cX7_moves 190 = .ok (.aload_n 0, 1) := by decide +kernel
theorem dX7_moves_191 : decode cX7_moves 191 = .ok (.aload_n 0, 1) := by decide +kernel
theorem dX7_moves_192 : decode cX7_moves 192 = .ok (.getfield 19, 3) := by decide +kernel
theorem dX7_moves_195 : decode cX7_moves 195 = .ok (.iload_n 2, 1) := by decide +kernel
theorem dX7_moves_196 : decode cX7_moves 196 = .ok (.iaload, 1) := by decide +kernel
theorem dX7_moves_197 : decode cX7_moves 197 = .ok (.putfield 40, 3) := by decide +kernel
theorem dX7_moves_200 : decode cX7_moves 200 = .ok (.iconst 1, 1) := by decide +kernel
theorem dX7_moves_201 : decode cX7_moves 201 = .ok (.ireturn, 1) := by decide +kernel
set_option maxRecDepth 20000 in
theorem ggX8_init_X3_init : GoodIn wsX8_init wsX3_init := goodIn_r _ [39, 40, 2, 3, 4, 41, 150] (by decide +kernel) (by decide +kernel)
set_option maxRecDepth 20000 in
theorem gX8_init_X3_init_n15 : GoodIn wsX8_init (wsX3_init) := ggX8_init_X3_init
set_option maxRecDepth 20000 in
theorem ggX8_init_X4_init : GoodIn wsX8_init wsX4_init := goodIn_r _ [43, 44, 2, 3, 45, 46, 4, 47, 151, 152, 153] (by decide +kernel) (by decide +kernel)
set_option maxRecDepth 20000 in
theorem gX8_init_X4_init_n22 : GoodIn wsX8_init (wsX4_init) := ggX8_init_X4_init
set_option maxRecDepth 20000 in
theorem ggX8_init_X7_init : GoodIn wsX8_init wsX7_init := goodIn_r _ [49, 50, 2, 3, 51, 4, 52, 53, 54, 55, 56, 57, 58, 59, 60, 61, 154, 155, 156, 157, 158, 159, 160, 161, 162, 163, 164] (by decide +kernel) (by decide +kernel)
set_option maxRecDepth 20000 in
theorem gX8_init_X7_init_n29 : GoodIn wsX8_init (wsX7_init) := ggX8_init_X7_init
set_option maxRecDepth 20000 in
theorem ggX8_init_X2_init : GoodIn wsX8_init wsX2_init := goodIn_r _ [63, 64, 2, 3, 65, 66, 67, 68, 4, 69, 70, 165, 166, 167, 168, 169, 170] (by decide +kernel) (by decide +kernel)
set_option maxRecDepth 20000 in
theorem gX8_init_X2_init_n36 : GoodIn wsX8_init (wsX2_init) := ggX8_init_X2_init
set_option maxRecDepth 20000 in
theorem ggX8_init_X0_init : GoodIn wsX8_init wsX0_init := goodIn_r _ [73, 74, 2, 3, 4, 75, 76, 77, 78, 79, 80, 11, 12, 81, 82, 83, 42, 43, 44, 45, 46, 47, 171, 172, 173, 174, 175, 176, 177, 151, 152, 153] (by decide +kernel) (by decide +kernel)
set_option maxRecDepth 20000 in
theorem gX8_init_X0_init : GoodIn wsX8_init (wsX0_init) := ggX8_init_X0_init
set_option maxRecDepth 20000 in
theorem ggX8_init_X1_init : GoodIn wsX8_init wsX1_init := goodIn_r _ [85, 86, 2, 3, 4, 87, 88, 178, 179] (by decide +kernel) (by decide +kernel)
set_option maxRecDepth 20000 in
theorem gX8_init_X1_init_n52 : GoodIn wsX8_init (wsX1_init) := ggX8_init_X1_init
set_option maxRecDepth 20000 in
theorem ggX8_init_X6_init : GoodIn wsX8_init wsX6_init := goodIn_r _ [91, 92, 2, 3, 4, 93, 94, 95, 96, 97, 98, 99, 100, 101, 180, 181, 182, 183, 184, 185, 186, 187, 171, 172, 173, 174, 175, 176, 177] (by decide +kernel) (by decide +kernel)
set_option maxRecDepth 20000 in
theorem gX8_init_X6_init : GoodIn wsX8_init (wsX6_init) := ggX8_init_X6_init
set_option maxRecDepth 20000 in
theorem ggX8_init_X5_init : GoodIn wsX8_init wsX5_init := goodIn_r _ [104, 105, 2, 3, 4, 106, 107, 108, 109, 76, 110, 111, 112, 113, 114, 115, 188, 189, 190, 191, 192, 193, 194, 195, 196, 197] (by decide +kernel) (by decide +kernel)
set_option maxRecDepth 20000 in
theorem gX8_init_X5_init : GoodIn wsX8_init (wsX5_init) := ggX8_init_X5_init
set_option maxRecDepth 20000 in
theorem ggX8_init_X8_beginAnew : GoodIn wsX8_init wsX8_beginAnew := goodIn_r _ [120, 121, 5, 9, 13, 17, 122, 123, 124, 8, 125, 41, 126, 127, 128, 129, 130, 131, 132, 12, 133, 45, 46, 47, 134, 135, 136, 137, 16, 138, 51, 52, 53, 139, 140, 141, 142, 143, 144, 145, 146, 147, 148, 149, 150, 151, 152, 153, 154, 155, 156, 157, 158, 159, 160, 161, 162, 163, 164] (by decide +kernel) (by decide +kernel)
set_option maxRecDepth 20000 in
theorem gX8_init_X8_beginAnew : GoodIn wsX8_init (wsV RX8 73 RX8 yX8_beginAnew wsX8_beginAnew) := goodIn_app (goodIn_of _ (by decide +kernel)) ggX8_init_X8_beginAnew
theorem dX8_init_0 : decode cX8_init 0 = .ok (.aload_n 0, 1) := by decide +kernel
theorem dX8_init_1 : decode cX8_init 1 = .ok (.invokespecial 1, 3) := by decide +kernel
theorem dX8_init_4 : decode cX8_init 4 = .ok (.aload_n 0, 1) := by decide +kernel
theorem dX8_init_5 : decode cX8_init 5 = .ok (.iconst 3, 1) := by decide +kernel
theorem dX8_init_6 : decode cX8_init 6 = .ok (.newarray .int, 2) := by decide +kernel
theorem dX8_init_8 : decode cX8_init 8 = .ok (.putfield 9, 3) := by decide +kernel
theorem dX8_init_11 : decode cX8_init 11 = .ok (.aload_n 0, 1) := by decide +kernel
theorem dX8_init_12 : decode cX8_init 12 = .ok (.new 13, 3) := by decide +kernel
theorem dX8_init_15 : decode cX8_init 15 = .ok (.dup, 1) := by decide +kernel
theorem dX8_init_16 : decode cX8_init 16 = .ok (.invokespecial 15, 3) := by decide +kernel
theorem dX8_init_19 : decode cX8_init 19 = .ok (.putfield 16, 3) := by decide +kernel
theorem dX8_init_22 : decode cX8_init 22 = .ok (.aload_n 0, 1) := by decide +kernel
theorem dX8_init_23 : decode cX8_init 23 = .ok (.new 20, 3) := by decide +kernel
theorem dX8_init_26 : decode cX8_init 26 = .ok (.dup, 1) := by decide +kernel
theorem dX8_init_27 : decode cX8_init 27 = .ok (.invokespecial 22, 3) := by decide +kernel
theorem dX8_init_30 : decode cX8_init 30 = .ok (.putfield 23, 3) := by decide +kernel
theorem dX8_init_33 : decode cX8_init 33 = .ok (.aload_n 0, 1) := by decide +kernel
theorem dX8_init_34 : decode cX8_init 34 = .ok (.new 27, 3) := by decide +kernel
theorem dX8_init_37 : decode cX8_init 37 = .ok (.dup, 1) := by decide +kernel
theorem dX8_init_38 : decode cX8_init 38 = .ok (.invokespecial 29, 3) := by decide +kernel
theorem dX8_init_41 : decode cX8_init 41 = .ok (.putfield 30, 3) := by decide +kernel
theorem dX8_init_44 : decode cX8_init 44 = .ok (.aload_n 0, 1) := by decide +kernel
theorem dX8_init_45 : decode cX8_init 45 = .ok (.new 34, 3) := by decide +kernel
theorem dX8_init_48 : decode cX8_init 48 = .ok (.dup, 1) := by decide +kernel
theorem dX8_init_49 : decode cX8_init 49 = .ok (.invokespecial 36, 3) := by decide +kernel
theorem dX8_init_52 : decode cX8_init 52 = .ok (.putfield 37, 3) := by decide +kernel
theorem dX8_init_55 : decode cX8_init 55 = .ok (.aload_n 0, 1) := by decide +kernel
theorem dX8_init_56 : decode cX8_init 56 = .ok (.new 41, 3) := by decide +kernel
theorem dX8_init_59 : decode cX8_init 59 = .ok (.dup, 1) := by decide +kernel
theorem dX8_init_60 : decode cX8_init 60 = .ok (.aload_n 0, 1) := by decide +kernel
theorem dX8_init_61 : decode cX8_init 61 = .ok (.getfield 16, 3) := by decide +kernel
theorem dX8_init_64 : decode cX8_init 64 = .ok (.aload_n 0, 1) := by decide +kernel
theorem dX8_init_65 : decode cX8_init 65 = .ok (.getfield 37, 3) := by decide +kernel
theorem dX8_init_68 : decode cX8_init 68 = .ok (.invokespecial 43, 3) := by decide +kernel
theorem dX8_init_71 : decode cX8_init 71 = .ok (.putfield 46, 3) := by decide +kernel
theorem dX8_init_74 : decode cX8_init 74 = .ok (.aload_n 0, 1) := by decide +kernel
theorem dX8_init_75 : decode cX8_init 75 = .ok (.new 50, 3) := by decide +kernel
theorem dX8_init_78 : decode cX8_init 78 = .ok (.dup, 1) := by decide +kernel
theorem dX8_init_79 : decode cX8_init 79 = .ok (.invokespecial 52, 3) := by decide +kernel
theorem dX8_init_82 : decode cX8_init 82 = .ok (.putfield 53, 3) := by decide +kernel
theorem dX8_init_85 : decode cX8_init 85 = .ok (.aload_n 0, 1) := by decide +kernel
theorem dX8_init_86 : decode cX8_init 86 = .ok (.new 57, 3) := by decide +kernel
theorem dX8_init_89 : decode cX8_init 89 = .ok (.dup, 1) := by decide +kernel
theorem dX8_init_90 : decode cX8_init 90 = .ok (.aload_n 0, 1) := by decide +kernel
theorem dX8_init_91 : decode cX8_init 91 = .ok (.getfield 46, 3) := by decide +kernel
theorem dX8_init_94 : decode cX8_init 94 = .ok (.invokespecial 59, 3) := by decide +kernel
theorem dX8_init_97 : decode cX8_init 97 = .ok (.putfield 62, 3) := by decide +kernel
theorem dX8_init_100 : decode cX8_init 100 = .ok (.aload_n 0, 1) := by decide +kernel
theorem dX8_init_101 : decode cX8_init 101 = .ok (.new 66, 3) := by decide +kernel
theorem dX8_init_104 : decode cX8_init 104 = .ok (.dup, 1) := by decide +kernel
theorem dX8_init_105 : decode cX8_init 105 = .ok (.aload_n 0, 1) := by decide +kernel
theorem dX8_init_106 : decode cX8_init 106 = .ok (.getfield 16, 3) := by decide +kernel
theorem dX8_init_109 : decode cX8_init 109 = .ok (.aload_n 0, 1) := by decide +kernel
theorem dX8_init_110 : decode cX8_init 110 = .ok (.getfield 37, 3) := by decide +kernel
theorem dX8_init_113 : decode cX8_init 113 = .ok (.invokespecial 68, 3) := by decide +kernel
theorem dX8_init_116 : decode cX8_init 116 = .ok (.putfield 69, 3) := by decide +kernel
theorem dX8_init_119 : decode cX8_init 119 = .ok (.aload_n 0, 1) := by decide +kernel
theorem dX8_init_120 : decode cX8_init 120 = .ok (.iconst 2, 1) := by decide +kernel
theorem dX8_init_121 : decode cX8_init 121 = .ok (.invokevirtual 73, 3) := by decide +kernel
theorem dX8_init_124 : decode cX8_init 124 = .ok (.return_, 1) := by decide +kernel
set_option maxRecDepth 20000 in
theorem ggX8_colours_X8_beginAnew : GoodIn wsX8_colours wsX8_beginAnew := goodIn_r _ [6, 1, 7, 8, 9, 10, 11, 12, 13, 14, 15, 16, 17, 18, 19, 20, 21, 22, 23, 24, 25, 26, 27, 28, 29, 30, 31, 32, 33, 34, 35, 36, 37, 38, 39, 40, 41, 42, 43, 44, 45, 46, 47, 48, 49, 50, 51, 52, 53, 54, 55, 56, 57, 58, 59, 60, 61, 62, 63] (by decide +kernel) (by decide +kernel)
set_option maxRecDepth 20000 in
theorem gX8_colours_X8_beginAnew : GoodIn wsX8_colours (wsV RX8 73 RX8 yX8_beginAnew wsX8_beginAnew) := goodIn_app (goodIn_of _ (by decide +kernel)) ggX8_colours_X8_beginAnew
theorem dX8_colours_0 : decode cX8_colours 0 = .ok (.iload_n 1, 1) := by decide +kernel
theorem dX8_colours_1 : decode cX8_colours 1 = .ok (.iconst 2, 1) := by decide +kernel
theorem dX8_colours_2 : decode cX8_colours 2 = .ok (.if_icmp .lt 8, 3) := by decide +kernel
theorem dX8_colours_5 : decode cX8_colours 5 = .ok (.iload_n 1, 1) := by decide +kernel
theorem dX8_colours_6 : decode cX8_colours 6 = .ok (.iconst 3, 1) := by decide +kernel
theorem dX8_colours_7 : decode cX8_colours 7 = .ok (.if_icmp .le 6, 3) := by decide +kernel
theorem dX8_colours_10 : decode cX8_colours 10 = .ok (.bipush (-3), 2) := by decide +kernel
theorem dX8_colours_12 : decode cX8_colours 12 = .ok (.ireturn, 1) := by decide +kernel
theorem dX8_colours_13 : decode cX8_colours 13 = .ok (.aload_n 0, 1) := by decide +kernel
theorem dX8_colours_14 : decode cX8_colours 14 = .ok (.getfield 77, 3) := by decide +kernel
theorem dX8_colours_17 : decode cX8_colours 17 = .ok (.istore_n 2, 1) := by decide +kernel
theorem dX8_colours_18 : decode cX8_colours 18 = .ok (.aload_n 0, 1) := by decide +kernel
theorem dX8_colours_19 : decode cX8_colours 19 = .ok (.iload_n 1, 1) := by decide +kernel
theorem dX8_colours_20 : decode cX8_colours 20 = .ok (.invokevirtual 73, 3) := by decide +kernel
theorem dX8_colours_23 : decode cX8_colours 23 = .ok (.iload_n 2, 1) := by decide +kernel
theorem dX8_colours_24 : decode cX8_colours 24 = .ok (.ireturn, 1) := by decide +kernel
set_option maxRecDepth 20000 in
theorem ggX8_allow_X8_isBlock : GoodIn wsX8_allow wsX8_isBlock := goodIn_r _ [6, 7, 8, 5, 9, 10, 11, 12, 13, 14, 25, 26, 27, 28, 29, 30, 31, 32, 33, 34] (by decide +kernel) (by decide +kernel)
set_option maxRecDepth 20000 in
theorem gX8_allow_X8_isBlock : GoodIn wsX8_allow (wsV RX8 81 RX8 yX8_isBlock wsX8_isBlock) := goodIn_app (goodIn_of _ (by decide +kernel)) ggX8_allow_X8_isBlock
set_option maxRecDepth 20000 in
theorem ggX8_allow_X3_has : GoodIn wsX8_allow wsX3_has := goodIn_r _ [19, 20, 35] (by decide +kernel) (by decide +kernel)
set_option maxRecDepth 20000 in
theorem gX8_allow_X3_has : GoodIn wsX8_allow (wsV RX8 85 RX3 yX3_has wsX3_has) := goodIn_app (goodIn_of _ (by decide +kernel)) ggX8_allow_X3_has
set_option maxRecDepth 20000 in
theorem ggX8_allow_X3_put : GoodIn wsX8_allow wsX3_put := goodIn_r _ [24, 20, 35] (by decide +kernel) (by decide +kernel)
set_option maxRecDepth 20000 in
theorem gX8_allow_X3_put : GoodIn wsX8_allow (wsV RX8 88 RX3 yX3_put wsX3_put) := goodIn_app (goodIn_of _ (by decide +kernel)) ggX8_allow_X3_put
theorem dX8_allow_0 : decode cX8_allow 0 = .ok (.aload_n 0, 1) := by decide +kernel
theorem dX8_allow_1 : decode cX8_allow 1 = .ok (.iload_n 1, 1) := by decide +kernel
theorem dX8_allow_2 : decode cX8_allow 2 = .ok (.invokevirtual 81, 3) := by decide +kernel
theorem dX8_allow_5 : decode cX8_allow 5 = .ok (.ifCond .ne 6, 3) := by decide +kernel
theorem dX8_allow_8 : decode cX8_allow 8 = .ok (.bipush (-3), 2) := by decide +kernel
theorem dX8_allow_10 : decode cX8_allow 10 = .ok (.ireturn, 1) := by decide +kernel
theorem dX8_allow_11 : decode cX8_allow 11 = .ok (.aload_n 0, 1) := by decide +kernel
theorem dX8_allow_12 : decode cX8_allow 12 = .ok (.getfield 16, 3) := by decide +kernel
theorem dX8_allow_15 : decode cX8_allow 15 = .ok (.iload_n 1, 1) := by decide +kernel
theorem dX8_allow_16 : decode cX8_allow 16 = .ok (.invokevirtual 85, 3) := by decide +kernel
theorem dX8_allow_19 : decode cX8_allow 19 = .ok (.ifCond .eq 7, 3) := by decide +kernel
theorem dX8_allow_22 : decode cX8_allow 22 = .ok (.iconst 1, 1) := by decide +kernel
theorem dX8_allow_23 : decode cX8_allow 23 = .ok (.goto 4, 3) := by decide +kernel
theorem dX8_allow_26 : decode cX8_allow 26 = .ok (.iconst 0, 1) := by decide +kernel
theorem dX8_allow_27 : decode cX8_allow 27 = .ok (.istore_n 3, 1) := by decide +kernel
theorem dX8_allow_28 : decode cX8_allow 28 = .ok (.aload_n 0, 1) := by decide +kernel
theorem dX8_allow_29 : decode cX8_allow 29 = .ok (.getfield 16, 3) := by decide +kernel
theorem dX8_allow_32 : decode cX8_allow 32 = .ok (.iload_n 1, 1) := by decide +kernel
theorem dX8_allow_33 : decode cX8_allow 33 = .ok (.iload_n 2, 1) := by decide +kernel
theorem dX8_allow_34 : decode cX8_allow 34 = .ok (.invokevirtual 88, 3) := by decide +kernel
theorem dX8_allow_37 : decode cX8_allow 37 = .ok (.iload_n 3, 1) := by decide +kernel
theorem dX8_allow_38 : decode cX8_allow 38 = .ok (.ireturn, 1) := by decide +kernel
set_option maxRecDepth 20000 in
theorem ggX8_desk_X8_isSize : GoodIn wsX8_desk wsX8_isSize := goodIn_r _ [5] (by decide +kernel) (by decide +kernel)
set_option maxRecDepth 20000 in
theorem gX8_desk_X8_isSize : GoodIn wsX8_desk (va_wsS RX8 92 yX8_isSize wsX8_isSize) := goodIn_app (goodIn_of _ (by decide +kernel)) ggX8_desk_X8_isSize
set_option maxRecDepth 20000 in
theorem ggX8_desk_X4_lay : GoodIn wsX8_desk wsX4_lay := goodIn_r _ [10, 11, 12, 13, 14, 15, 16, 17, 28, 29, 30] (by decide +kernel) (by decide +kernel)
set_option maxRecDepth 20000 in
theorem gX8_desk_X4_lay : GoodIn wsX8_desk (wsV RX8 96 RX4 yX4_lay wsX4_lay) := goodIn_app (goodIn_of _ (by decide +kernel)) ggX8_desk_X4_lay
theorem dX8_desk_0 : decode cX8_desk 0 = .ok (.iload_n 1, 1) := by decide +kernel
theorem dX8_desk_1 : decode cX8_desk 1 = .ok (.iload_n 2, 1) := by decide +kernel
theorem dX8_desk_2 : decode cX8_desk 2 = .ok (.invokestatic 92, 3) := by decide +kernel
theorem dX8_desk_5 : decode cX8_desk 5 = .ok (.ifCond .ne 6, 3) := by decide +kernel
theorem dX8_desk_8 : decode cX8_desk 8 = .ok (.bipush (-3), 2) := by decide +kernel
theorem dX8_desk_10 : decode cX8_desk 10 = .ok (.ireturn, 1) := by decide +kernel
theorem dX8_desk_11 : decode cX8_desk 11 = .ok (.aload_n 0, 1) := by decide +kernel
theorem dX8_desk_12 : decode cX8_desk 12 = .ok (.getfield 23, 3) := by decide +kernel
theorem dX8_desk_15 : decode cX8_desk 15 = .ok (.iload_n 1, 1) := by decide +kernel
theorem dX8_desk_16 : decode cX8_desk 16 = .ok (.iload_n 2, 1) := by decide +kernel
theorem dX8_desk_17 : decode cX8_desk 17 = .ok (.invokevirtual 96, 3) := by decide +kernel
theorem dX8_desk_20 : decode cX8_desk 20 = .ok (.iconst 1, 1) := by decide +kernel
theorem dX8_desk_21 : decode cX8_desk 21 = .ok (.ireturn, 1) := by decide +kernel
set_option maxRecDepth 20000 in
theorem ggX8_cell_X4_holds : GoodIn wsX8_cell wsX4_holds := goodIn_r _ [7, 8, 9, 10, 6, 11, 12, 13, 30, 31, 32] (by decide +kernel) (by decide +kernel)
set_option maxRecDepth 20000 in
theorem gX8_cell_X4_holds : GoodIn wsX8_cell (wsV RX8 100 RX4 yX4_holds wsX4_holds) := goodIn_app (goodIn_of _ (by decide +kernel)) ggX8_cell_X4_holds
set_option maxRecDepth 20000 in
theorem ggX8_cell_X8_isColour : GoodIn wsX8_cell wsX8_isColour := goodIn_r _ [18, 19, 20, 21, 22, 23, 24, 25, 26, 27, 28, 29] (by decide +kernel) (by decide +kernel)
set_option maxRecDepth 20000 in
theorem gX8_cell_X8_isColour : GoodIn wsX8_cell (wsV RX8 103 RX8 yX8_isColour wsX8_isColour) := goodIn_app (goodIn_of _ (by decide +kernel)) ggX8_cell_X8_isColour
theorem dX8_cell_0 : decode cX8_cell 0 = .ok (.aload_n 0, 1) := by decide +kernel
theorem dX8_cell_1 : decode cX8_cell 1 = .ok (.getfield 23, 3) := by decide +kernel
theorem dX8_cell_4 : decode cX8_cell 4 = .ok (.iload_n 1, 1) := by decide +kernel
theorem dX8_cell_5 : decode cX8_cell 5 = .ok (.invokevirtual 100, 3) := by decide +kernel
theorem dX8_cell_8 : decode cX8_cell 8 = .ok (.ifCond .eq 16, 3) := by decide +kernel
theorem dX8_cell_11 : decode cX8_cell 11 = .ok (.iload_n 2, 1) := by decide +kernel
theorem dX8_cell_12 : decode cX8_cell 12 = .ok (.iconst (-1), 1) := by decide +kernel
theorem dX8_cell_13 : decode cX8_cell 13 = .ok (.if_icmp .eq 14, 3) := by decide +kernel
theorem dX8_cell_16 : decode cX8_cell 16 = .ok (.aload_n 0, 1) := by decide +kernel
theorem dX8_cell_17 : decode cX8_cell 17 = .ok (.iload_n 2, 1) := by decide +kernel
theorem dX8_cell_18 : decode cX8_cell 18 = .ok (.invokevirtual 103, 3) := by decide +kernel
theorem dX8_cell_21 : decode cX8_cell 21 = .ok (.ifCond .ne 6, 3) := by decide +kernel
theorem dX8_cell_24 : decode cX8_cell 24 = .ok (.bipush (-2), 2) := by decide +kernel
theorem dX8_cell_26 : decode cX8_cell 26 = .ok (.ireturn, 1) := by decide +kernel
theorem dX8_cell_27 : decode cX8_cell 27 = .ok (.aload_n 0, 1) := by decide +kernel
theorem dX8_cell_28 : decode cX8_cell 28 = .ok (.getfield 23, 3) := by decide +kernel
theorem dX8_cell_31 : decode cX8_cell 31 = .ok (.getfield 106, 3) := by decide +kernel
theorem dX8_cell_34 : decode cX8_cell 34 = .ok (.iload_n 1, 1) := by decide +kernel
theorem dX8_cell_35 : decode cX8_cell 35 = .ok (.iaload, 1) := by decide +kernel
theorem dX8_cell_36 : decode cX8_cell 36 = .ok (.istore_n 3, 1) := by decide +kernel
theorem dX8_cell_37 : decode cX8_cell 37 = .ok (.aload_n 0, 1) := by decide +kernel
theorem dX8_cell_38 : decode cX8_cell 38 = .ok (.getfield 23, 3) := by decide +kernel
theorem dX8_cell_41 : decode cX8_cell 41 = .ok (.getfield 106, 3) := by decide +kernel
theorem dX8_cell_44 : decode cX8_cell 44 = .ok (.iload_n 1, 1) := by decide +kernel
theorem dX8_cell_45 : decode cX8_cell 45 = .ok (.iload_n 2, 1) := by decide +kernel
theorem dX8_cell_46 : decode cX8_cell 46 = .ok (.iastore, 1) := by decide +kernel
theorem dX8_cell_47 : decode cX8_cell 47 = .ok (.iload_n 3, 1) := by decide +kernel
theorem dX8_cell_48 : decode cX8_cell 48 = .ok (.ireturn, 1) := by decide +kernel
set_option maxRecDepth 20000 in
theorem ggX8_paint_X4_size : GoodIn wsX8_paint wsX4_size := goodIn_r _ [7, 8, 9, 29, 30, 31] (by decide +kernel) (by decide +kernel)
set_option maxRecDepth 20000 in
theorem gX8_paint_X4_size : GoodIn wsX8_paint (wsV RX8 109 RX4 yX4_size wsX4_size) := goodIn_app (goodIn_of _ (by decide +kernel)) ggX8_paint_X4_size
set_option maxRecDepth 20000 in
theorem ggX8_paint_X8_partOf : GoodIn wsX8_paint wsX8_partOf := goodIn_r _ [13] (by decide +kernel) (by decide +kernel)
set_option maxRecDepth 20000 in
theorem gX8_paint_X8_partOf : GoodIn wsX8_paint (va_wsS RX8 113 yX8_partOf wsX8_partOf) := goodIn_app (goodIn_of _ (by decide +kernel)) ggX8_paint_X8_partOf
set_option maxRecDepth 20000 in
theorem ggX8_paint_X8_isColour : GoodIn wsX8_paint wsX8_isColour := goodIn_r _ [17, 18, 19, 20, 21, 22, 23, 24, 25, 26, 27, 28] (by decide +kernel) (by decide +kernel)
set_option maxRecDepth 20000 in
theorem gX8_paint_X8_isColour : GoodIn wsX8_paint (wsV RX8 103 RX8 yX8_isColour wsX8_isColour) := goodIn_app (goodIn_of _ (by decide +kernel)) ggX8_paint_X8_isColour
theorem dX8_paint_0 : decode cX8_paint 0 = .ok (.aload_n 0, 1) := by decide +kernel
theorem dX8_paint_1 : decode cX8_paint 1 = .ok (.getfield 23, 3) := by decide +kernel
theorem dX8_paint_4 : decode cX8_paint 4 = .ok (.invokevirtual 109, 3) := by decide +kernel
theorem dX8_paint_7 : decode cX8_paint 7 = .ok (.istore_n 3, 1) := by decide +kernel
theorem dX8_paint_8 : decode cX8_paint 8 = .ok (.iconst 0, 1) := by decide +kernel
theorem dX8_paint_9 : decode cX8_paint 9 = .ok (.istore 4, 2) := by decide +kernel
theorem dX8_paint_11 : decode cX8_paint 11 = .ok (.iload 4, 2) := by decide +kernel
theorem dX8_paint_13 : decode cX8_paint 13 = .ok (.iload_n 3, 1) := by decide +kernel
theorem dX8_paint_14 : decode cX8_paint 14 = .ok (.if_icmp .ge 25, 3) := by decide +kernel
theorem dX8_paint_17 : decode cX8_paint 17 = .ok (.aload_n 0, 1) := by decide +kernel
theorem dX8_paint_18 : decode cX8_paint 18 = .ok (.lload_n 1, 1) := by decide +kernel
theorem dX8_paint_19 : decode cX8_paint 19 = .ok (.iload 4, 2) := by decide +kernel
theorem dX8_paint_21 : decode cX8_paint 21 = .ok (.invokestatic 113, 3) := by decide +kernel
theorem dX8_paint_24 : decode cX8_paint 24 = .ok (.invokevirtual 103, 3) := by decide +kernel
theorem dX8_paint_27 : decode cX8_paint 27 = .ok (.ifCond .ne 6, 3) := by decide +kernel
theorem dX8_paint_30 : decode cX8_paint 30 = .ok (.bipush (-3), 2) := by decide +kernel
theorem dX8_paint_32 : decode cX8_paint 32 = .ok (.ireturn, 1) := by decide +kernel
theorem dX8_paint_33 : decode cX8_paint 33 = .ok (.iinc 4 1, 3) := by decide +kernel
theorem dX8_paint_36 : decode cX8_paint 36 = .ok (.goto (-25), 3) := by decide +kernel
theorem dX8_paint_39 : decode cX8_paint 39 = .ok (.iconst 0, 1) := by decide +kernel
theorem dX8_paint_40 : decode cX8_paint 40 = .ok (.istore 4, 2) := by decide +kernel
theorem dX8_paint_42 : decode cX8_paint 42 = .ok (.iload 4, 2) := by decide +kernel
theorem dX8_paint_44 : decode cX8_paint 44 = .ok (.iload_n 3, 1) := by decide +kernel
theorem dX8_paint_45 : decode cX8_paint 45 = .ok (.if_icmp .ge 25, 3) := by decide +kernel
theorem dX8_paint_48 : decode cX8_paint 48 = .ok (.aload_n 0, 1) := by decide +kernel
theorem dX8_paint_49 : decode cX8_paint 49 = .ok (.getfield 23, 3) := by decide +kernel
theorem dX8_paint_52 : decode cX8_paint 52 = .ok (.getfield 106, 3) := by decide +kernel
theorem dX8_paint_55 : decode cX8_paint 55 = .ok (.iload 4, 2) := by decide +kernel
theorem dX8_paint_57 : decode cX8_paint 57 = .ok (.lload_n 1, 1) := by decide +kernel
theorem dX8_paint_58 : decode cX8_paint 58 = .ok (.iload 4, 2) := by decide +kernel
theorem dX8_paint_60 : decode cX8_paint 60 = .ok (.invokestatic 113, 3) := by decide +kernel
theorem dX8_paint_63 : decode cX8_paint 63 = .ok (.iastore, 1) := by decide +kernel
theorem dX8_paint_64 : decode cX8_paint 64 = .ok (.iinc 4 1, 3) := by decide +kernel
theorem dX8_paint_67 : decode cX8_paint 67 = .ok (.goto (-25), 3) := by decide +kernel
theorem dX8_paint_70 : decode cX8_paint 70 = .ok (.iconst 1, 1) := by decide +kernel
theorem dX8_paint_71 : decode cX8_paint 71 = .ok (.ireturn, 1) := by decide +kernel
set_option maxRecDepth 20000 in
theorem ggX8_learn_X4_gaps : GoodIn wsX8_learn wsX4_gaps := goodIn_r _ [9, 10, 11, 12, 13, 8, 14, 15, 16, 52, 53, 54] (by decide +kernel) (by decide +kernel)
set_option maxRecDepth 20000 in
theorem gX8_learn_X4_gaps : GoodIn wsX8_learn (wsV RX8 117 RX4 yX4_gaps wsX4_gaps) := goodIn_app (goodIn_of _ (by decide +kernel)) ggX8_learn_X4_gaps
set_option maxRecDepth 20000 in
theorem ggX8_learn_X3_size : GoodIn wsX8_learn wsX3_size := goodIn_r _ [21, 22, 23, 24, 25, 26, 27, 28, 29, 55] (by decide +kernel) (by decide +kernel)
set_option maxRecDepth 20000 in
theorem gX8_learn_X3_size : GoodIn wsX8_learn (wsV RX8 120 RX3 yX3_size wsX3_size) := goodIn_app (goodIn_of _ (by decide +kernel)) ggX8_learn_X3_size
set_option maxRecDepth 20000 in
theorem ggX8_learn_X4_block : GoodIn wsX8_learn wsX4_block := goodIn_r _ [33, 34, 35, 36, 8, 37, 15, 16, 10, 52, 53, 54] (by decide +kernel) (by decide +kernel)
set_option maxRecDepth 20000 in
theorem gX8_learn_X4_block : GoodIn wsX8_learn (wsV RX8 127 RX4 yX4_block wsX4_block) := goodIn_app (goodIn_of _ (by decide +kernel)) ggX8_learn_X4_block
set_option maxRecDepth 20000 in
theorem ggX8_learn_X3_put : GoodIn wsX8_learn wsX3_put := goodIn_r _ [41, 22, 55] (by decide +kernel) (by decide +kernel)
set_option maxRecDepth 20000 in
theorem gX8_learn_X3_put : GoodIn wsX8_learn (wsV RX8 88 RX3 yX3_put wsX3_put) := goodIn_app (goodIn_of _ (by decide +kernel)) ggX8_learn_X3_put
theorem dX8_learn_0 : decode cX8_learn 0 = .ok (.aload_n 0, 1) := by decide +kernel
theorem dX8_learn_1 : decode cX8_learn 1 = .ok (.getfield 23, 3) := by decide +kernel
theorem dX8_learn_4 : decode cX8_learn 4 = .ok (.invokevirtual 117, 3) := by decide +kernel
theorem dX8_learn_7 : decode cX8_learn 7 = .ok (.ifCond .le 6, 3) := by decide +kernel
theorem dX8_learn_10 : decode cX8_learn 10 = .ok (.bipush (-4), 2) := by decide +kernel
theorem dX8_learn_12 : decode cX8_learn 12 = .ok (.ireturn, 1) := by decide +kernel
theorem dX8_learn_13 : decode cX8_learn 13 = .ok (.aload_n 0, 1) := by decide +kernel
theorem dX8_learn_14 : decode cX8_learn 14 = .ok (.getfield 16, 3) := by decide +kernel
theorem dX8_learn_17 : decode cX8_learn 17 = .ok (.invokevirtual 120, 3) := by decide +kernel
theorem dX8_learn_20 : decode cX8_learn 20 = .ok (.istore_n 1, 1) := by decide +kernel
theorem dX8_learn_21 : decode cX8_learn 21 = .ok (.iconst 0, 1) := by decide +kernel
theorem dX8_learn_22 : decode cX8_learn 22 = .ok (.istore_n 2, 1) := by decide +kernel
theorem dX8_learn_23 : decode cX8_learn 23 = .ok (.iload_n 2, 1) := by decide +kernel
theorem dX8_learn_24 : decode cX8_learn 24 = .ok (.aload_n 0, 1) := by decide +kernel
theorem dX8_learn_25 : decode cX8_learn 25 = .ok (.getfield 23, 3) := by decide +kernel
theorem dX8_learn_28 : decode cX8_learn 28 = .ok (.getfield 121, 3) := by decide +kernel
theorem dX8_learn_31 : decode cX8_learn 31 = .ok (.if_icmp .gt 45, 3) := by decide +kernel
theorem dX8_learn_34 : decode cX8_learn 34 = .ok (.iconst 0, 1) := by decide +kernel
theorem dX8_learn_35 : decode cX8_learn 35 = .ok (.istore_n 3, 1) := by decide +kernel
theorem dX8_learn_36 : decode cX8_learn 36 = .ok (.iload_n 3, 1) := by decide +kernel
theorem dX8_learn_37 : decode cX8_learn 37 = .ok (.aload_n 0, 1) := by decide +kernel
theorem dX8_learn_38 : decode cX8_learn 38 = .ok (.getfield 23, 3) := by decide +kernel
theorem dX8_learn_41 : decode cX8_learn 41 = .ok (.getfield 124, 3) := by decide +kernel
theorem dX8_learn_44 : decode cX8_learn 44 = .ok (.if_icmp .gt 26, 3) := by decide +kernel
theorem dX8_learn_47 : decode cX8_learn 47 = .ok (.aload_n 0, 1) := by decide +kernel
theorem dX8_learn_48 : decode cX8_learn 48 = .ok (.getfield 16, 3) := by decide +kernel
theorem dX8_learn_51 : decode cX8_learn 51 = .ok (.aload_n 0, 1) := by decide +kernel
theorem dX8_learn_52 : decode cX8_learn 52 = .ok (.getfield 23, 3) := by decide +kernel
theorem dX8_learn_55 : decode cX8_learn 55 = .ok (.iload_n 2, 1) := by decide +kernel
theorem dX8_learn_56 : decode cX8_learn 56 = .ok (.iload_n 3, 1) := by decide +kernel
theorem dX8_learn_57 : decode cX8_learn 57 = .ok (.invokevirtual 127, 3) := by decide +kernel
theorem dX8_learn_60 : decode cX8_learn 60 = .ok (.iconst 1, 1) := by decide +kernel
theorem dX8_learn_61 : decode cX8_learn 61 = .ok (.invokevirtual 88, 3) := by decide +kernel
theorem dX8_learn_64 : decode cX8_learn 64 = .ok (.iinc 3 1, 3) := by decide +kernel
theorem dX8_learn_67 : decode cX8_learn 67 = .ok (.goto (-31), 3) := by decide +kernel
theorem dX8_learn_70 : decode cX8_learn 70 = .ok (.iinc 2 1, 3) := by decide +kernel
theorem dX8_learn_73 : decode cX8_learn 73 = .ok (.goto (-50), 3) := by decide +kernel
theorem dX8_learn_76 : decode cX8_learn 76 = .ok (.aload_n 0, 1) := by decide +kernel
theorem dX8_learn_77 : decode cX8_learn 77 = .ok (.getfield 16, 3) := by decide +kernel
theorem dX8_learn_80 : decode cX8_learn 80 = .ok (.invokevirtual 120, 3) := by decide +kernel
theorem dX8_learn_83 : decode cX8_learn 83 = .ok (.iload_n 1, 1) := by decide +kernel
theorem dX8_learn_84 : decode cX8_learn 84 = .ok (.isub, 1) := by decide +kernel
theorem dX8_learn_85 : decode cX8_learn 85 = .ok (.ireturn, 1) := by decide +kernel
set_option maxRecDepth 20000 in
theorem ggX8_wrong_X4_gaps : GoodIn wsX8_wrong wsX4_gaps := goodIn_r _ [7, 8, 9, 10, 11, 6, 12, 13, 14, 45, 46, 47] (by decide +kernel) (by decide +kernel)
set_option maxRecDepth 20000 in
theorem gX8_wrong_X4_gaps : GoodIn wsX8_wrong (wsV RX8 117 RX4 yX4_gaps wsX4_gaps) := goodIn_app (goodIn_of _ (by decide +kernel)) ggX8_wrong_X4_gaps
set_option maxRecDepth 20000 in
theorem ggX8_wrong_X3_firstWrong : GoodIn wsX8_wrong wsX3_firstWrong := goodIn_r _ [19, 20, 21, 22, 23, 24, 6, 25, 26, 27, 28, 29, 13, 14, 8, 30, 31, 32, 18, 33, 34, 45, 46, 47, 48] (by decide +kernel) (by decide +kernel)
set_option maxRecDepth 20000 in
theorem gX8_wrong_X3_firstWrong : GoodIn wsX8_wrong (wsV RX8 131 RX3 yX3_firstWrong wsX3_firstWrong) := goodIn_app (goodIn_of _ (by decide +kernel)) ggX8_wrong_X3_firstWrong
theorem dX8_wrong_0 : decode cX8_wrong 0 = .ok (.aload_n 0, 1) := by decide +kernel
theorem dX8_wrong_1 : decode cX8_wrong 1 = .ok (.getfield 23, 3) := by decide +kernel
theorem dX8_wrong_4 : decode cX8_wrong 4 = .ok (.invokevirtual 117, 3) := by decide +kernel
theorem dX8_wrong_7 : decode cX8_wrong 7 = .ok (.ifCond .le 8, 3) := by decide +kernel
theorem dX8_wrong_10 : decode cX8_wrong 10 = .ok (.bipush (-4), 2) := by decide +kernel
