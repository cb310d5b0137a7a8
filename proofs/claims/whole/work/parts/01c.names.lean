theorem dX7_init_0 : decode cX7_init 0 = .ok (.aload_n 0, 1) := by decide +kernel
theorem dX7_init_1 : decode cX7_init 1 = .ok (.invokespecial 1, 3) := by decide +kernel
theorem dX7_init_4 : decode cX7_init 4 = .ok (.aload_n 0, 1) := by decide +kernel
theorem dX7_init_5 : decode cX7_init 5 = .ok (.bipush 64, 2) := by decide +kernel
theorem dX7_init_7 : decode cX7_init 7 = .ok (.newarray .int, 2) := by decide +kernel
theorem dX7_init_9 : decode cX7_init 9 = .ok (.putfield 7, 3) := by decide +kernel
theorem dX7_init_12 : decode cX7_init 12 = .ok (.aload_n 0, 1) := by decide +kernel
theorem dX7_init_13 : decode cX7_init 13 = .ok (.bipush 6, 2) := by decide +kernel
theorem dX7_init_15 : decode cX7_init 15 = .ok (.newarray .int, 2) := by decide +kernel
theorem dX7_init_17 : decode cX7_init 17 = .ok (.putfield 13, 3) := by decide +kernel
theorem dX7_init_20 : decode cX7_init 20 = .ok (.aload_n 0, 1) := by decide +kernel
theorem dX7_init_21 : decode cX7_init 21 = .ok (.bipush 8, 2) := by decide +kernel
theorem dX7_init_23 : decode cX7_init 23 = .ok (.newarray .int, 2) := by decide +kernel
theorem dX7_init_25 : decode cX7_init 25 = .ok (.putfield 16, 3) := by decide +kernel
theorem dX7_init_28 : decode cX7_init 28 = .ok (.aload_n 0, 1) := by decide +kernel
theorem dX7_init_29 : decode cX7_init 29 = .ok (.bipush 8, 2) := by decide +kernel
theorem dX7_init_31 : decode cX7_init 31 = .ok (.newarray .int, 2) := by decide +kernel
theorem dX7_init_33 : decode cX7_init 33 = .ok (.putfield 19, 3) := by decide +kernel
theorem dX7_init_36 : decode cX7_init 36 = .ok (.aload_n 0, 1) := by decide +kernel
theorem dX7_init_37 : decode cX7_init 37 = .ok (.bipush 8, 2) := by decide +kernel
theorem dX7_init_39 : decode cX7_init 39 = .ok (.newarray .int, 2) := by decide +kernel
theorem dX7_init_41 : decode cX7_init 41 = .ok (.putfield 22, 3) := by decide +kernel
theorem dX7_init_44 : decode cX7_init 44 = .ok (.aload_n 0, 1) := by decide +kernel
theorem dX7_init_45 : decode cX7_init 45 = .ok (.bipush 60, 2) := by decide +kernel
theorem dX7_init_47 : decode cX7_init 47 = .ok (.newarray .int, 2) := by decide +kernel
theorem dX7_init_49 : decode cX7_init 49 = .ok (.putfield 25, 3) := by decide +kernel
theorem dX7_init_52 : decode cX7_init 52 = .ok (.aload_n 0, 1) := by decide +kernel
theorem dX7_init_53 : decode cX7_init 53 = .ok (.bipush 60, 2) := by decide +kernel
theorem dX7_init_55 : decode cX7_init 55 = .ok (.newarray .int, 2) := by decide +kernel
theorem dX7_init_57 : decode cX7_init 57 = .ok (.putfield 28, 3) := by decide +kernel
theorem dX7_init_60 : decode cX7_init 60 = .ok (.aload_n 0, 1) := by decide +kernel
theorem dX7_init_61 : decode cX7_init 61 = .ok (.bipush 60, 2) := by decide +kernel
theorem dX7_init_63 : decode cX7_init 63 = .ok (.newarray .int, 2) := by decide +kernel
theorem dX7_init_65 : decode cX7_init 65 = .ok (.putfield 31, 3) := by decide +kernel
theorem dX7_init_68 : decode cX7_init 68 = .ok (.aload_n 0, 1) := by decide +kernel
theorem dX7_init_69 : decode cX7_init 69 = .ok (.bipush 6, 2) := by decide +kernel
theorem dX7_init_71 : decode cX7_init 71 = .ok (.newarray .int, 2) := by decide +kernel
theorem dX7_init_73 : decode cX7_init 73 = .ok (.putfield 34, 3) := by decide +kernel
theorem dX7_init_76 : decode cX7_init 76 = .ok (.aload_n 0, 1) := by decide +kernel
theorem dX7_init_77 : decode cX7_init 77 = .ok (.bipush 64, 2) := by decide +kernel
theorem dX7_init_79 : decode cX7_init 79 = .ok (.newarray .int, 2) := by decide +kernel
theorem dX7_init_81 : decode cX7_init 81 = .ok (.putfield 37, 3) := by decide +kernel
theorem dX7_init_84 : decode cX7_init 84 = .ok (.aload_n 0, 1) := by decide +kernel
theorem dX7_init_85 : decode cX7_init 85 = .ok (.bipush 9, 2) := by decide +kernel
theorem dX7_init_87 : decode cX7_init 87 = .ok (.newarray .int, 2) := by decide +kernel
theorem dX7_init_89 : decode cX7_init 89 = .ok (.putfield 40, 3) := by decide +kernel
theorem dX7_init_92 : decode cX7_init 92 = .ok (.aload_n 0, 1) := by decide +kernel
theorem dX7_init_93 : decode cX7_init 93 = .ok (.sipush 512, 3) := by decide +kernel
theorem dX7_init_96 : decode cX7_init 96 = .ok (.newarray .int, 2) := by decide +kernel
theorem dX7_init_98 : decode cX7_init 98 = .ok (.putfield 43, 3) := by decide +kernel
theorem dX7_init_101 : decode cX7_init 101 = .ok (.aload_n 0, 1) := by decide +kernel
theorem dX7_init_102 : decode cX7_init 102 = .ok (.bipush 64, 2) := by decide +kernel
theorem dX7_init_104 : decode cX7_init 104 = .ok (.newarray .int, 2) := by decide +kernel
theorem dX7_init_106 : decode cX7_init 106 = .ok (.putfield 46, 3) := by decide +kernel
theorem dX7_init_109 : decode cX7_init 109 = .ok (.aload_n 0, 1) := by decide +kernel
theorem dX7_init_110 : decode cX7_init 110 = .ok (.bipush 64, 2) := by decide +kernel
theorem dX7_init_112 : decode cX7_init 112 = .ok (.newarray .boolean, 2) := by decide +kernel
theorem dX7_init_114 : decode cX7_init 114 = .ok (.putfield 49, 3) := by decide +kernel
theorem dX7_init_117 : decode cX7_init 117 = .ok (.aload_n 0, 1) := by decide +kernel
theorem dX7_init_118 : decode cX7_init 118 = .ok (.sipush 220, 3) := by decide +kernel
theorem dX7_init_121 : decode cX7_init 121 = .ok (.newarray .int, 2) := by decide +kernel
theorem dX7_init_123 : decode cX7_init 123 = .ok (.putfield 53, 3) := by decide +kernel
theorem dX7_init_126 : decode cX7_init 126 = .ok (.aload_n 0, 1) := by decide +kernel
theorem dX7_init_127 : decode cX7_init 127 = .ok (.iconst 2, 1) := by decide +kernel
theorem dX7_init_128 : decode cX7_init 128 = .ok (.newarray .boolean, 2) := by decide +kernel
theorem dX7_init_130 : decode cX7_init 130 = .ok (.putfield 56, 3) := by decide +kernel
theorem dX7_init_133 : decode cX7_init 133 = .ok (.aload_n 0, 1) := by decide +kernel
theorem dX7_init_134 : decode cX7_init 134 = .ok (.bipush 27, 2) := by decide +kernel
theorem dX7_init_136 : decode cX7_init 136 = .ok (.putfield 59, 3) := by decide +kernel
theorem dX7_init_139 : decode cX7_init 139 = .ok (.aload_n 0, 1) := by decide +kernel
theorem dX7_init_140 : decode cX7_init 140 = .ok (.iconst 3, 1) := by decide +kernel
theorem dX7_init_141 : decode cX7_init 141 = .ok (.putfield 63, 3) := by decide +kernel
theorem dX7_init_144 : decode cX7_init 144 = .ok (.aload_n 0, 1) := by decide +kernel
theorem dX7_init_145 : decode cX7_init 145 = .ok (.bipush (-6), 2) := by decide +kernel
theorem dX7_init_147 : decode cX7_init 147 = .ok (.putfield 66, 3) := by decide +kernel
theorem dX7_init_150 : decode cX7_init 150 = .ok (.iconst 0, 1) := by decide +kernel
theorem dX7_init_151 : decode cX7_init 151 = .ok (.istore_n 1, 1) := by decide +kernel
theorem dX7_init_152 : decode cX7_init 152 = .ok (.iload_n 1, 1) := by decide +kernel
theorem dX7_init_153 : decode cX7_init 153 = .ok (.bipush 6, 2) := by decide +kernel
theorem dX7_init_155 : decode cX7_init 155 = .ok (.if_icmp .ge 16, 3) := by decide +kernel
theorem dX7_init_158 : decode cX7_init 158 = .ok (.aload_n 0, 1) := by decide +kernel
theorem dX7_init_159 : decode cX7_init 159 = .ok (.getfield 13, 3) := by decide +kernel
theorem dX7_init_162 : decode cX7_init 162 = .ok (.iload_n 1, 1) := by decide +kernel
theorem dX7_init_163 : decode cX7_init 163 = .ok (.iconst 4, 1) := by decide +kernel
theorem dX7_init_164 : decode cX7_init 164 = .ok (.iastore, 1) := by decide +kernel
theorem dX7_init_165 : decode cX7_init 165 = .ok (.iinc 1 1, 3) := by decide +kernel
theorem dX7_init_168 : decode cX7_init 168 = .ok (.goto (-16), 3) := by decide +kernel
theorem dX7_init_171 : decode cX7_init 171 = .ok (.return_, 1) := by decide +kernel
theorem dX7_in_0 : decode cX7_in 0 = .ok (.lload_n 0, 1) := by decide +kernel
theorem dX7_in_1 : decode cX7_in 1 = .ok (.lload_n 2, 1) := by decide +kernel
theorem dX7_in_2 : decode cX7_in 2 = .ok (.lcmp, 1) := by decide +kernel
theorem dX7_in_3 : decode cX7_in 3 = .ok (.ifCond .lt 14, 3) := by decide +kernel
theorem dX7_in_6 : decode cX7_in 6 = .ok (.lload_n 0, 1) := by decide +kernel
theorem dX7_in_7 : decode cX7_in 7 = .ok (.lload 4, 2) := by decide +kernel
theorem dX7_in_9 : decode cX7_in 9 = .ok (.lcmp, 1) := by decide +kernel
theorem dX7_in_10 : decode cX7_in 10 = .ok (.ifCond .gt 7, 3) := by decide +kernel
theorem dX7_in_13 : decode cX7_in 13 = .ok (.iconst 1, 1) := by decide +kernel
theorem dX7_in_14 : decode cX7_in 14 = .ok (.goto 4, 3) := by decide +kernel
theorem dX7_in_17 : decode cX7_in 17 = .ok (.iconst 0, 1) := by decide +kernel
theorem dX7_in_18 : decode cX7_in 18 = .ok (.ireturn, 1) := by decide +kernel
set_option maxRecDepth 20000 in
theorem ggX7_isCell_X7_in : GoodIn wsX7_isCell wsX7_in := goodIn_r _ [5] (by decide +kernel) (by decide +kernel)
set_option maxRecDepth 20000 in
theorem gX7_isCell_X7_in : GoodIn wsX7_isCell (va_wsS RX7 71 yX7_in wsX7_in) := goodIn_app (goodIn_of _ (by decide +kernel)) ggX7_isCell_X7_in
theorem dX7_isCell_0 : decode cX7_isCell 0 = .ok (.iload_n 0, 1) := by decide +kernel
theorem dX7_isCell_1 : decode cX7_isCell 1 = .ok (.i2l, 1) := by decide +kernel
theorem dX7_isCell_2 : decode cX7_isCell 2 = .ok (.lconst 0, 1) := by decide +kernel
theorem dX7_isCell_3 : decode cX7_isCell 3 = .ok (.ldc2_w 69, 3) := by decide +kernel
theorem dX7_isCell_6 : decode cX7_isCell 6 = .ok (.invokestatic 71, 3) := by decide +kernel
theorem dX7_isCell_9 : decode cX7_isCell 9 = .ok (.ireturn, 1) := by decide +kernel
set_option maxRecDepth 20000 in
theorem ggX7_isWay_X7_in : GoodIn wsX7_isWay wsX7_in := goodIn_r _ [5] (by decide +kernel) (by decide +kernel)
set_option maxRecDepth 20000 in
theorem gX7_isWay_X7_in : GoodIn wsX7_isWay (va_wsS RX7 71 yX7_in wsX7_in) := goodIn_app (goodIn_of _ (by decide +kernel)) ggX7_isWay_X7_in
theorem dX7_isWay_0 : decode cX7_isWay 0 = .ok (.iload_n 0, 1) := by decide +kernel
theorem dX7_isWay_1 : decode cX7_isWay 1 = .ok (.i2l, 1) := by decide +kernel
theorem dX7_isWay_2 : decode cX7_isWay 2 = .ok (.lconst 0, 1) := by decide +kernel
theorem dX7_isWay_3 : decode cX7_isWay 3 = .ok (.ldc2_w 75, 3) := by decide +kernel
theorem dX7_isWay_6 : decode cX7_isWay 6 = .ok (.invokestatic 71, 3) := by decide +kernel
theorem dX7_isWay_9 : decode cX7_isWay 9 = .ok (.ireturn, 1) := by decide +kernel
theorem dX7_less_0 : decode cX7_less 0 = .ok (.iload_n 0, 1) := by decide +kernel
theorem dX7_less_1 : decode cX7_less 1 = .ok (.iload_n 1, 1) := by decide +kernel
theorem dX7_less_2 : decode cX7_less 2 = .ok (.if_icmp .ge 7, 3) := by decide +kernel
theorem dX7_less_5 : decode cX7_less 5 = .ok (.iload_n 0, 1) := by decide +kernel
theorem dX7_less_6 : decode cX7_less 6 = .ok (.goto 4, 3) := by decide +kernel
theorem dX7_less_9 : decode cX7_less 9 = .ok (.iload_n 1, 1) := by decide +kernel
theorem dX7_less_10 : decode cX7_less 10 = .ok (.ireturn, 1) := by decide +kernel
theorem dX7_off_0 : decode cX7_off 0 = .ok (.iload_n 0, 1) := by decide +kernel
theorem dX7_off_1 : decode cX7_off 1 = .ok (.iload_n 1, 1) := by decide +kernel
theorem dX7_off_2 : decode cX7_off 2 = .ok (.if_icmp .ge 9, 3) := by decide +kernel
theorem dX7_off_5 : decode cX7_off 5 = .ok (.iload_n 1, 1) := by decide +kernel
theorem dX7_off_6 : decode cX7_off 6 = .ok (.iload_n 0, 1) := by decide +kernel
theorem dX7_off_7 : decode cX7_off 7 = .ok (.isub, 1) := by decide +kernel
theorem dX7_off_8 : decode cX7_off 8 = .ok (.goto 6, 3) := by decide +kernel
theorem dX7_off_11 : decode cX7_off 11 = .ok (.iload_n 0, 1) := by decide +kernel
theorem dX7_off_12 : decode cX7_off 12 = .ok (.iload_n 1, 1) := by decide +kernel
theorem dX7_off_13 : decode cX7_off 13 = .ok (.isub, 1) := by decide +kernel
theorem dX7_off_14 : decode cX7_off 14 = .ok (.ireturn, 1) := by decide +kernel
set_option maxRecDepth 20000 in
theorem ggX7_far_X7_off : GoodIn wsX7_far wsX7_off := goodIn_r _ [4] (by decide +kernel) (by decide +kernel)
set_option maxRecDepth 20000 in
theorem gX7_far_X7_off : GoodIn wsX7_far (va_wsS RX7 77 yX7_off wsX7_off) := goodIn_app (goodIn_of _ (by decide +kernel)) ggX7_far_X7_off
theorem dX7_far_0 : decode cX7_far 0 = .ok (.iload_n 0, 1) := by decide +kernel
theorem dX7_far_1 : decode cX7_far 1 = .ok (.bipush 8, 2) := by decide +kernel
theorem dX7_far_3 : decode cX7_far 3 = .ok (.idiv, 1) := by decide +kernel
theorem dX7_far_4 : decode cX7_far 4 = .ok (.iload_n 1, 1) := by decide +kernel
theorem dX7_far_5 : decode cX7_far 5 = .ok (.bipush 8, 2) := by decide +kernel
theorem dX7_far_7 : decode cX7_far 7 = .ok (.idiv, 1) := by decide +kernel
theorem dX7_far_8 : decode cX7_far 8 = .ok (.invokestatic 77, 3) := by decide +kernel
theorem dX7_far_11 : decode cX7_far 11 = .ok (.istore_n 2, 1) := by decide +kernel
theorem dX7_far_12 : decode cX7_far 12 = .ok (.iload_n 0, 1) := by decide +kernel
theorem dX7_far_13 : decode cX7_far 13 = .ok (.bipush 8, 2) := by decide +kernel
theorem dX7_far_15 : decode cX7_far 15 = .ok (.irem, 1) := by decide +kernel
theorem dX7_far_16 : decode cX7_far 16 = .ok (.iload_n 1, 1) := by decide +kernel
theorem dX7_far_17 : decode cX7_far 17 = .ok (.bipush 8, 2) := by decide +kernel
theorem dX7_far_19 : decode cX7_far 19 = .ok (.irem, 1) := by decide +kernel
theorem dX7_far_20 : decode cX7_far 20 = .ok (.invokestatic 77, 3) := by decide +kernel
theorem dX7_far_23 : decode cX7_far 23 = .ok (.istore_n 3, 1) := by decide +kernel
theorem dX7_far_24 : decode cX7_far 24 = .ok (.iload_n 2, 1) := by decide +kernel
theorem dX7_far_25 : decode cX7_far 25 = .ok (.iload_n 3, 1) := by decide +kernel
theorem dX7_far_26 : decode cX7_far 26 = .ok (.if_icmp .ge 7, 3) := by decide +kernel
theorem dX7_far_29 : decode cX7_far 29 = .ok (.iload_n 3, 1) := by decide +kernel
theorem dX7_far_30 : decode cX7_far 30 = .ok (.goto 4, 3) := by decide +kernel
theorem dX7_far_33 : decode cX7_far 33 = .ok (.iload_n 2, 1) := by decide +kernel
theorem dX7_far_34 : decode cX7_far 34 = .ok (.ireturn, 1) := by decide +kernel
theorem dX7_downwards_0 : decode cX7_downwards 0 = .ok (.iload_n 0, 1) := by decide +kernel
theorem dX7_downwards_1 : decode cX7_downwards 1 = .ok (.ifCond .eq 14, 3) := by decide +kernel
theorem dX7_downwards_4 : decode cX7_downwards 4 = .ok (.iload_n 0, 1) := by decide +kernel
theorem dX7_downwards_5 : decode cX7_downwards 5 = .ok (.iconst 1, 1) := by decide +kernel
theorem dX7_downwards_6 : decode cX7_downwards 6 = .ok (.if_icmp .eq 9, 3) := by decide +kernel
theorem dX7_downwards_9 : decode cX7_downwards 9 = .ok (.iload_n 0, 1) := by decide +kernel
theorem dX7_downwards_10 : decode cX7_downwards 10 = .ok (.bipush 7, 2) := by decide +kernel
theorem dX7_downwards_12 : decode cX7_downwards 12 = .ok (.if_icmp .ne 7, 3) := by decide +kernel
theorem dX7_downwards_15 : decode cX7_downwards 15 = .ok (.iconst (-1), 1) := by decide +kernel
theorem dX7_downwards_16 : decode cX7_downwards 16 = .ok (.goto 19, 3) := by decide +kernel
theorem dX7_downwards_19 : decode cX7_downwards 19 = .ok (.iload_n 0, 1) := by decide +kernel
theorem dX7_downwards_20 : decode cX7_downwards 20 = .ok (.iconst 2, 1) := by decide +kernel
theorem dX7_downwards_21 : decode cX7_downwards 21 = .ok (.if_icmp .eq 9, 3) := by decide +kernel
theorem dX7_downwards_24 : decode cX7_downwards 24 = .ok (.iload_n 0, 1) := by decide +kernel
theorem dX7_downwards_25 : decode cX7_downwards 25 = .ok (.bipush 6, 2) := by decide +kernel
theorem dX7_downwards_27 : decode cX7_downwards 27 = .ok (.if_icmp .ne 7, 3) := by decide +kernel
theorem dX7_downwards_30 : decode cX7_downwards 30 = .ok (.iconst 0, 1) := by decide +kernel
theorem dX7_downwards_31 : decode cX7_downwards 31 = .ok (.goto 4, 3) := by decide +kernel
theorem dX7_downwards_34 : decode cX7_downwards 34 = .ok (.iconst 1, 1) := by decide +kernel
theorem dX7_downwards_35 : decode cX7_downwards 35 = .ok (.ireturn, 1) := by decide +kernel
theorem dX7_across_0 : decode cX7_across 0 = .ok (.iload_n 0, 1) := by decide +kernel
theorem dX7_across_1 : decode cX7_across 1 = .ok (.ifCond .eq 8, 3) := by decide +kernel
theorem dX7_across_4 : decode cX7_across 4 = .ok (.iload_n 0, 1) := by decide +kernel
theorem dX7_across_5 : decode cX7_across 5 = .ok (.iconst 4, 1) := by decide +kernel
theorem dX7_across_6 : decode cX7_across 6 = .ok (.if_icmp .ne 7, 3) := by decide +kernel
theorem dX7_across_9 : decode cX7_across 9 = .ok (.iconst 0, 1) := by decide +kernel
theorem dX7_across_10 : decode cX7_across 10 = .ok (.goto 13, 3) := by decide +kernel
theorem dX7_across_13 : decode cX7_across 13 = .ok (.iload_n 0, 1) := by decide +kernel
theorem dX7_across_14 : decode cX7_across 14 = .ok (.iconst 4, 1) := by decide +kernel
theorem dX7_across_15 : decode cX7_across 15 = .ok (.if_icmp .ge 7, 3) := by decide +kernel
theorem dX7_across_18 : decode cX7_across 18 = .ok (.iconst 1, 1) := by decide +kernel
theorem dX7_across_19 : decode cX7_across 19 = .ok (.goto 4, 3) := by decide +kernel
theorem dX7_across_22 : decode cX7_across 22 = .ok (.iconst (-1), 1) := by decide +kernel
theorem dX7_across_23 : decode cX7_across 23 = .ok (.ireturn, 1) := by decide +kernel
set_option maxRecDepth 20000 in
theorem ggX7_beside_X7_in : GoodIn wsX7_beside wsX7_in := goodIn_r _ [5] (by decide +kernel) (by decide +kernel)
set_option maxRecDepth 20000 in
theorem gX7_beside_X7_in : GoodIn wsX7_beside (va_wsS RX7 71 yX7_in wsX7_in) := goodIn_app (goodIn_of _ (by decide +kernel)) ggX7_beside_X7_in
theorem dX7_beside_0 : decode cX7_beside 0 = .ok (.iload_n 0, 1) := by decide +kernel
theorem dX7_beside_1 : decode cX7_beside 1 = .ok (.bipush 8, 2) := by decide +kernel
theorem dX7_beside_3 : decode cX7_beside 3 = .ok (.idiv, 1) := by decide +kernel
theorem dX7_beside_4 : decode cX7_beside 4 = .ok (.iload_n 1, 1) := by decide +kernel
theorem dX7_beside_5 : decode cX7_beside 5 = .ok (.iadd, 1) := by decide +kernel
theorem dX7_beside_6 : decode cX7_beside 6 = .ok (.istore_n 3, 1) := by decide +kernel
theorem dX7_beside_7 : decode cX7_beside 7 = .ok (.iload_n 0, 1) := by decide +kernel
theorem dX7_beside_8 : decode cX7_beside 8 = .ok (.bipush 8, 2) := by decide +kernel
theorem dX7_beside_10 : decode cX7_beside 10 = .ok (.irem, 1) := by decide +kernel
theorem dX7_beside_11 : decode cX7_beside 11 = .ok (.iload_n 2, 1) := by decide +kernel
theorem dX7_beside_12 : decode cX7_beside 12 = .ok (.iadd, 1) := by decide +kernel
theorem dX7_beside_13 : decode cX7_beside 13 = .ok (.istore 4, 2) := by decide +kernel
theorem dX7_beside_15 : decode cX7_beside 15 = .ok (.iload_n 3, 1) := by decide +kernel
theorem dX7_beside_16 : decode cX7_beside 16 = .ok (.i2l, 1) := by decide +kernel
theorem dX7_beside_17 : decode cX7_beside 17 = .ok (.lconst 0, 1) := by decide +kernel
theorem dX7_beside_18 : decode cX7_beside 18 = .ok (.ldc2_w 75, 3) := by decide +kernel
theorem dX7_beside_21 : decode cX7_beside 21 = .ok (.invokestatic 71, 3) := by decide +kernel
theorem dX7_beside_24 : decode cX7_beside 24 = .ok (.ifCond .eq 26, 3) := by decide +kernel
theorem dX7_beside_27 : decode cX7_beside 27 = .ok (.iload 4, 2) := by decide +kernel
theorem dX7_beside_29 : decode cX7_beside 29 = .ok (.i2l, 1) := by decide +kernel
theorem dX7_beside_30 : decode cX7_beside 30 = .ok (.lconst 0, 1) := by decide +kernel
theorem dX7_beside_31 : decode cX7_beside 31 = .ok (.ldc2_w 75, 3) := by decide +kernel
theorem dX7_beside_34 : decode cX7_beside 34 = .ok (.invokestatic 71, 3) := by decide +kernel
theorem dX7_beside_37 : decode cX7_beside 37 = .ok (.ifCond .eq 13, 3) := by decide +kernel
theorem dX7_beside_40 : decode cX7_beside 40 = .ok (.bipush 8, 2) := by decide +kernel
theorem dX7_beside_42 : decode cX7_beside 42 = .ok (.iload_n 3, 1) := by decide +kernel
theorem dX7_beside_43 : decode cX7_beside 43 = .ok (.imul, 1) := by decide +kernel
theorem dX7_beside_44 : decode cX7_beside 44 = .ok (.iload 4, 2) := by decide +kernel
theorem dX7_beside_46 : decode cX7_beside 46 = .ok (.iadd, 1) := by decide +kernel
theorem dX7_beside_47 : decode cX7_beside 47 = .ok (.goto 5, 3) := by decide +kernel
theorem dX7_beside_50 : decode cX7_beside 50 = .ok (.bipush (-6), 2) := by decide +kernel
theorem dX7_beside_52 : decode cX7_beside 52 = .ok (.ireturn, 1) := by decide +kernel
set_option maxRecDepth 20000 in
theorem ggX7_ahead_X7_downwards : GoodIn wsX7_ahead wsX7_downwards := goodIn_r _ [4] (by decide +kernel) (by decide +kernel)
set_option maxRecDepth 20000 in
theorem gX7_ahead_X7_downwards : GoodIn wsX7_ahead (va_wsS RX7 81 yX7_downwards wsX7_downwards) := goodIn_app (goodIn_of _ (by decide +kernel)) ggX7_ahead_X7_downwards
set_option maxRecDepth 20000 in
theorem ggX7_ahead_X7_across : GoodIn wsX7_ahead wsX7_across := goodIn_r _ [7] (by decide +kernel) (by decide +kernel)
set_option maxRecDepth 20000 in
theorem gX7_ahead_X7_across : GoodIn wsX7_ahead (va_wsS RX7 85 yX7_across wsX7_across) := goodIn_app (goodIn_of _ (by decide +kernel)) ggX7_ahead_X7_across
set_option maxRecDepth 20000 in
theorem ggX7_ahead_X7_beside : GoodIn wsX7_ahead wsX7_beside := goodIn_r _ [10, 11, 12, 13, 3, 14] (by decide +kernel) (by decide +kernel)
set_option maxRecDepth 20000 in
theorem gX7_ahead_X7_beside : GoodIn wsX7_ahead (va_wsS RX7 88 yX7_beside wsX7_beside) := goodIn_app (goodIn_of _ (by decide +kernel)) ggX7_ahead_X7_beside
theorem dX7_ahead_0 : decode cX7_ahead 0 = .ok (.iload_n 0, 1) := by decide +kernel
theorem dX7_ahead_1 : decode cX7_ahead 1 = .ok (.iload_n 1, 1) := by decide +kernel
theorem dX7_ahead_2 : decode cX7_ahead 2 = .ok (.invokestatic 81, 3) := by decide +kernel
theorem dX7_ahead_5 : decode cX7_ahead 5 = .ok (.iload_n 1, 1) := by decide +kernel
theorem dX7_ahead_6 : decode cX7_ahead 6 = .ok (.invokestatic 85, 3) := by decide +kernel
theorem dX7_ahead_9 : decode cX7_ahead 9 = .ok (.invokestatic 88, 3) := by decide +kernel
theorem dX7_ahead_12 : decode cX7_ahead 12 = .ok (.ireturn, 1) := by decide +kernel
theorem dX7_landMany_0 : decode cX7_landMany 0 = .ok (.iconst 0, 1) := by decide +kernel
theorem dX7_landMany_1 : decode cX7_landMany 1 = .ok (.istore_n 1, 1) := by decide +kernel
theorem dX7_landMany_2 : decode cX7_landMany 2 = .ok (.iconst 0, 1) := by decide +kernel
theorem dX7_landMany_3 : decode cX7_landMany 3 = .ok (.istore_n 2, 1) := by decide +kernel
theorem dX7_landMany_4 : decode cX7_landMany 4 = .ok (.iload_n 2, 1) := by decide +kernel
theorem dX7_landMany_5 : decode cX7_landMany 5 = .ok (.bipush 64, 2) := by decide +kernel
theorem dX7_landMany_7 : decode cX7_landMany 7 = .ok (.if_icmp .ge 18, 3) := by decide +kernel
theorem dX7_landMany_10 : decode cX7_landMany 10 = .ok (.iload_n 1, 1) := by decide +kernel
theorem dX7_landMany_11 : decode cX7_landMany 11 = .ok (.aload_n 0, 1) := by decide +kernel
theorem dX7_landMany_12 : decode cX7_landMany 12 = .ok (.getfield 7, 3) := by decide +kernel
theorem dX7_landMany_15 : decode cX7_landMany 15 = .ok (.iload_n 2, 1) := by decide +kernel
theorem dX7_landMany_16 : decode cX7_landMany 16 = .ok (.iaload, 1) := by decide +kernel
theorem dX7_landMany_17 : decode cX7_landMany 17 = .ok (.iadd, 1) := by decide +kernel
theorem dX7_landMany_18 : decode cX7_landMany 18 = .ok (.istore_n 1, 1) := by decide +kernel
theorem dX7_landMany_19 : decode cX7_landMany 19 = .ok (.iinc 2 1, 3) := by decide +kernel
theorem dX7_landMany_22 : decode cX7_landMany 22 = .ok (.goto (-18), 3) := by decide +kernel
theorem dX7_landMany_25 : decode cX7_landMany 25 = .ok (.iload_n 1, 1) := by decide +kernel
theorem dX7_landMany_26 : decode cX7_landMany 26 = .ok (.ireturn, 1) := by decide +kernel
set_option maxRecDepth 20000 in
theorem ggX7_land_X7_isCell : GoodIn wsX7_land wsX7_isCell := goodIn_r _ [6, 7, 8, 9, 5, 10] (by decide +kernel) (by decide +kernel)
set_option maxRecDepth 20000 in
theorem gX7_land_X7_isCell : GoodIn wsX7_land (va_wsS RX7 92 yX7_isCell wsX7_isCell) := goodIn_app (goodIn_of _ (by decide +kernel)) ggX7_land_X7_isCell
set_option maxRecDepth 20000 in
theorem ggX7_land_X7_in : GoodIn wsX7_land wsX7_in := goodIn_r _ [10] (by decide +kernel) (by decide +kernel)
set_option maxRecDepth 20000 in
theorem gX7_land_X7_in : GoodIn wsX7_land (va_wsS RX7 71 yX7_in wsX7_in) := goodIn_app (goodIn_of _ (by decide +kernel)) ggX7_land_X7_in
set_option maxRecDepth 20000 in
theorem ggX7_land_X7_landMany : GoodIn wsX7_land wsX7_landMany := goodIn_r _ [14, 2, 15, 16, 17, 18, 19, 20, 21, 22, 23, 24, 25, 26, 27, 28, 29, 30, 31, 32, 33, 34, 35, 36, 37, 38, 39, 40, 41, 42, 43, 44, 45, 46, 47, 48] (by decide +kernel) (by decide +kernel)
set_option maxRecDepth 20000 in
theorem gX7_land_X7_landMany : GoodIn wsX7_land (wsV RX7 96 RX7 yX7_landMany wsX7_landMany) := goodIn_app (goodIn_of _ (by decide +kernel)) ggX7_land_X7_landMany
theorem dX7_land_0 : decode cX7_land 0 = .ok (.iload_n 1, 1) := by decide +kernel
theorem dX7_land_1 : decode cX7_land 1 = .ok (.invokestatic 92, 3) := by decide +kernel
theorem dX7_land_4 : decode cX7_land 4 = .ok (.ifCond .ne 5, 3) := by decide +kernel
theorem dX7_land_7 : decode cX7_land 7 = .ok (.iconst (-1), 1) := by decide +kernel
theorem dX7_land_8 : decode cX7_land 8 = .ok (.ireturn, 1) := by decide +kernel
theorem dX7_land_9 : decode cX7_land 9 = .ok (.iload_n 2, 1) := by decide +kernel
theorem dX7_land_10 : decode cX7_land 10 = .ok (.i2l, 1) := by decide +kernel
theorem dX7_land_11 : decode cX7_land 11 = .ok (.lconst 0, 1) := by decide +kernel
theorem dX7_land_12 : decode cX7_land 12 = .ok (.lconst 1, 1) := by decide +kernel
theorem dX7_land_13 : decode cX7_land 13 = .ok (.invokestatic 71, 3) := by decide +kernel
theorem dX7_land_16 : decode cX7_land 16 = .ok (.ifCond .ne 6, 3) := by decide +kernel
theorem dX7_land_19 : decode cX7_land 19 = .ok (.bipush (-2), 2) := by decide +kernel
theorem dX7_land_21 : decode cX7_land 21 = .ok (.ireturn, 1) := by decide +kernel
theorem dX7_land_22 : decode cX7_land 22 = .ok (.iload_n 2, 1) := by decide +kernel
theorem dX7_land_23 : decode cX7_land 23 = .ok (.iconst 1, 1) := by decide +kernel
theorem dX7_land_24 : decode cX7_land 24 = .ok (.if_icmp .ne 14, 3) := by decide +kernel
theorem dX7_land_27 : decode cX7_land 27 = .ok (.aload_n 0, 1) := by decide +kernel
theorem dX7_land_28 : decode cX7_land 28 = .ok (.getfield 59, 3) := by decide +kernel
theorem dX7_land_31 : decode cX7_land 31 = .ok (.iload_n 1, 1) := by decide +kernel
theorem dX7_land_32 : decode cX7_land 32 = .ok (.if_icmp .ne 6, 3) := by decide +kernel
theorem dX7_land_35 : decode cX7_land 35 = .ok (.bipush (-3), 2) := by decide +kernel
theorem dX7_land_37 : decode cX7_land 37 = .ok (.ireturn, 1) := by decide +kernel
theorem dX7_land_38 : decode cX7_land 38 = .ok (.aload_n 0, 1) := by decide +kernel
theorem dX7_land_39 : decode cX7_land 39 = .ok (.getfield 7, 3) := by decide +kernel
theorem dX7_land_42 : decode cX7_land 42 = .ok (.iload_n 1, 1) := by decide +kernel
theorem dX7_land_43 : decode cX7_land 43 = .ok (.iload_n 2, 1) := by decide +kernel
theorem dX7_land_44 : decode cX7_land 44 = .ok (.iastore, 1) := by decide +kernel
theorem dX7_land_45 : decode cX7_land 45 = .ok (.aload_n 0, 1) := by decide +kernel
theorem dX7_land_46 : decode cX7_land 46 = .ok (.invokevirtual 96, 3) := by decide +kernel
theorem dX7_land_49 : decode cX7_land 49 = .ok (.ireturn, 1) := by decide +kernel
set_option maxRecDepth 20000 in
theorem ggX7_ship_X7_isCell : GoodIn wsX7_ship wsX7_isCell := goodIn_r _ [8, 9, 10, 11, 7, 12] (by decide +kernel) (by decide +kernel)
set_option maxRecDepth 20000 in
theorem gX7_ship_X7_isCell : GoodIn wsX7_ship (va_wsS RX7 92 yX7_isCell wsX7_isCell) := goodIn_app (goodIn_of _ (by decide +kernel)) ggX7_ship_X7_isCell
set_option maxRecDepth 20000 in
theorem ggX7_ship_X7_in : GoodIn wsX7_ship wsX7_in := goodIn_r _ [12] (by decide +kernel) (by decide +kernel)
set_option maxRecDepth 20000 in
theorem gX7_ship_X7_in : GoodIn wsX7_ship (va_wsS RX7 71 yX7_in wsX7_in) := goodIn_app (goodIn_of _ (by decide +kernel)) ggX7_ship_X7_in
theorem dX7_ship_0 : decode cX7_ship 0 = .ok (.iload_n 1, 1) := by decide +kernel
theorem dX7_ship_1 : decode cX7_ship 1 = .ok (.invokestatic 92, 3) := by decide +kernel
theorem dX7_ship_4 : decode cX7_ship 4 = .ok (.ifCond .ne 5, 3) := by decide +kernel
theorem dX7_ship_7 : decode cX7_ship 7 = .ok (.iconst (-1), 1) := by decide +kernel
theorem dX7_ship_8 : decode cX7_ship 8 = .ok (.ireturn, 1) := by decide +kernel
theorem dX7_ship_9 : decode cX7_ship 9 = .ok (.iload_n 2, 1) := by decide +kernel
theorem dX7_ship_10 : decode cX7_ship 10 = .ok (.i2l, 1) := by decide +kernel
theorem dX7_ship_11 : decode cX7_ship 11 = .ok (.lconst 0, 1) := by decide +kernel
theorem dX7_ship_12 : decode cX7_ship 12 = .ok (.ldc2_w 100, 3) := by decide +kernel
theorem dX7_ship_15 : decode cX7_ship 15 = .ok (.invokestatic 71, 3) := by decide +kernel
theorem dX7_ship_18 : decode cX7_ship 18 = .ok (.ifCond .ne 6, 3) := by decide +kernel
theorem dX7_ship_21 : decode cX7_ship 21 = .ok (.bipush (-2), 2) := by decide +kernel
theorem dX7_ship_23 : decode cX7_ship 23 = .ok (.ireturn, 1) := by decide +kernel
theorem dX7_ship_24 : decode cX7_ship 24 = .ok (.aload_n 0, 1) := by decide +kernel
theorem dX7_ship_25 : decode cX7_ship 25 = .ok (.getfield 7, 3) := by decide +kernel
theorem dX7_ship_28 : decode cX7_ship 28 = .ok (.iload_n 1, 1) := by decide +kernel
theorem dX7_ship_29 : decode cX7_ship 29 = .ok (.iaload, 1) := by decide +kernel
theorem dX7_ship_30 : decode cX7_ship 30 = .ok (.iconst 1, 1) := by decide +kernel
theorem dX7_ship_31 : decode cX7_ship 31 = .ok (.if_icmp .ne 6, 3) := by decide +kernel
theorem dX7_ship_34 : decode cX7_ship 34 = .ok (.bipush (-3), 2) := by decide +kernel
theorem dX7_ship_36 : decode cX7_ship 36 = .ok (.ireturn, 1) := by decide +kernel
theorem dX7_ship_37 : decode cX7_ship 37 = .ok (.aload_n 0, 1) := by decide +kernel
theorem dX7_ship_38 : decode cX7_ship 38 = .ok (.getfield 59, 3) := by decide +kernel
theorem dX7_ship_41 : decode cX7_ship 41 = .ok (.istore_n 3, 1) := by decide +kernel
theorem dX7_ship_42 : decode cX7_ship 42 = .ok (.aload_n 0, 1) := by decide +kernel
theorem dX7_ship_43 : decode cX7_ship 43 = .ok (.iload_n 1, 1) := by decide +kernel
theorem dX7_ship_44 : decode cX7_ship 44 = .ok (.putfield 59, 3) := by decide +kernel
theorem dX7_ship_47 : decode cX7_ship 47 = .ok (.aload_n 0, 1) := by decide +kernel
theorem dX7_ship_48 : decode cX7_ship 48 = .ok (.iload_n 2, 1) := by decide +kernel
theorem dX7_ship_49 : decode cX7_ship 49 = .ok (.putfield 63, 3) := by decide +kernel
theorem dX7_ship_52 : decode cX7_ship 52 = .ok (.iload_n 3, 1) := by decide +kernel
theorem dX7_ship_53 : decode cX7_ship 53 = .ok (.ireturn, 1) := by decide +kernel
set_option maxRecDepth 20000 in
theorem ggX7_watcher_X7_in : GoodIn wsX7_watcher wsX7_in := goodIn_r _ [7] (by decide +kernel) (by decide +kernel)
set_option maxRecDepth 20000 in
theorem gX7_watcher_X7_in : GoodIn wsX7_watcher (va_wsS RX7 71 yX7_in wsX7_in) := goodIn_app (goodIn_of _ (by decide +kernel)) ggX7_watcher_X7_in
theorem dX7_watcher_0 : decode cX7_watcher 0 = .ok (.iload_n 1, 1) := by decide +kernel
theorem dX7_watcher_1 : decode cX7_watcher 1 = .ok (.i2l, 1) := by decide +kernel
theorem dX7_watcher_2 : decode cX7_watcher 2 = .ok (.lconst 0, 1) := by decide +kernel
theorem dX7_watcher_3 : decode cX7_watcher 3 = .ok (.ldc2_w 102, 3) := by decide +kernel
theorem dX7_watcher_6 : decode cX7_watcher 6 = .ok (.invokestatic 71, 3) := by decide +kernel
theorem dX7_watcher_9 : decode cX7_watcher 9 = .ok (.ifCond .ne 5, 3) := by decide +kernel
theorem dX7_watcher_12 : decode cX7_watcher 12 = .ok (.iconst (-1), 1) := by decide +kernel
theorem dX7_watcher_13 : decode cX7_watcher 13 = .ok (.ireturn, 1) := by decide +kernel
theorem dX7_watcher_14 : decode cX7_watcher 14 = .ok (.iload_n 2, 1) := by decide +kernel
theorem dX7_watcher_15 : decode cX7_watcher 15 = .ok (.i2l, 1) := by decide +kernel
theorem dX7_watcher_16 : decode cX7_watcher 16 = .ok (.lconst 1, 1) := by decide +kernel
theorem dX7_watcher_17 : decode cX7_watcher 17 = .ok (.ldc2_w 75, 3) := by decide +kernel
theorem dX7_watcher_20 : decode cX7_watcher 20 = .ok (.invokestatic 71, 3) := by decide +kernel
theorem dX7_watcher_23 : decode cX7_watcher 23 = .ok (.ifCond .ne 6, 3) := by decide +kernel
theorem dX7_watcher_26 : decode cX7_watcher 26 = .ok (.bipush (-2), 2) := by decide +kernel
theorem dX7_watcher_28 : decode cX7_watcher 28 = .ok (.ireturn, 1) := by decide +kernel
theorem dX7_watcher_29 : decode cX7_watcher 29 = .ok (.aload_n 0, 1) := by decide +kernel
theorem dX7_watcher_30 : decode cX7_watcher 30 = .ok (.getfield 13, 3) := by decide +kernel
theorem dX7_watcher_33 : decode cX7_watcher 33 = .ok (.iload_n 1, 1) := by decide +kernel
theorem dX7_watcher_34 : decode cX7_watcher 34 = .ok (.iaload, 1) := by decide +kernel
theorem dX7_watcher_35 : decode cX7_watcher 35 = .ok (.istore_n 3, 1) := by decide +kernel
theorem dX7_watcher_36 : decode cX7_watcher 36 = .ok (.aload_n 0, 1) := by decide +kernel
theorem dX7_watcher_37 : decode cX7_watcher 37 = .ok (.getfield 13, 3) := by decide +kernel
theorem dX7_watcher_40 : decode cX7_watcher 40 = .ok (.iload_n 1, 1) := by decide +kernel
theorem dX7_watcher_41 : decode cX7_watcher 41 = .ok (.iload_n 2, 1) := by decide +kernel
theorem dX7_watcher_42 : decode cX7_watcher 42 = .ok (.iastore, 1) := by decide +kernel
theorem dX7_watcher_43 : decode cX7_watcher 43 = .ok (.iload_n 3, 1) := by decide +kernel
theorem dX7_watcher_44 : decode cX7_watcher 44 = .ok (.ireturn, 1) := by decide +kernel
set_option maxRecDepth 20000 in
theorem ggX7_fog_X7_in : GoodIn wsX7_fog wsX7_in := goodIn_r _ [6] (by decide +kernel) (by decide +kernel)
set_option maxRecDepth 20000 in
theorem gX7_fog_X7_in : GoodIn wsX7_fog (va_wsS RX7 71 yX7_in wsX7_in) := goodIn_app (goodIn_of _ (by decide +kernel)) ggX7_fog_X7_in
theorem dX7_fog_0 : decode cX7_fog 0 = .ok (.iload_n 1, 1) := by decide +kernel
theorem dX7_fog_1 : decode cX7_fog 1 = .ok (.i2l, 1) := by decide +kernel
theorem dX7_fog_2 : decode cX7_fog 2 = .ok (.lconst 0, 1) := by decide +kernel
theorem dX7_fog_3 : decode cX7_fog 3 = .ok (.ldc2_w 75, 3) := by decide +kernel
theorem dX7_fog_6 : decode cX7_fog 6 = .ok (.invokestatic 71, 3) := by decide +kernel
theorem dX7_fog_9 : decode cX7_fog 9 = .ok (.ifCond .ne 6, 3) := by decide +kernel
theorem dX7_fog_12 : decode cX7_fog 12 = .ok (.bipush (-2), 2) := by decide +kernel
theorem dX7_fog_14 : decode cX7_fog 14 = .ok (.ireturn, 1) := by decide +kernel
theorem dX7_fog_15 : decode cX7_fog 15 = .ok (.aload_n 0, 1) := by decide +kernel
theorem dX7_fog_16 : decode cX7_fog 16 = .ok (.getfield 104, 3) := by decide +kernel
theorem dX7_fog_19 : decode cX7_fog 19 = .ok (.istore_n 2, 1) := by decide +kernel
theorem dX7_fog_20 : decode cX7_fog 20 = .ok (.aload_n 0, 1) := by decide +kernel
theorem dX7_fog_21 : decode cX7_fog 21 = .ok (.iload_n 1, 1) := by decide +kernel
theorem dX7_fog_22 : decode cX7_fog 22 = .ok (.putfield 104, 3) := by decide +kernel
theorem dX7_fog_25 : decode cX7_fog 25 = .ok (.iload_n 2, 1) := by decide +kernel
theorem dX7_fog_26 : decode cX7_fog 26 = .ok (.ireturn, 1) := by decide +kernel
set_option maxRecDepth 20000 in
theorem ggX7_say_X7_in : GoodIn wsX7_say wsX7_in := goodIn_r _ [8] (by decide +kernel) (by decide +kernel)
set_option maxRecDepth 20000 in
theorem gX7_say_X7_in : GoodIn wsX7_say (va_wsS RX7 71 yX7_in wsX7_in) := goodIn_app (goodIn_of _ (by decide +kernel)) ggX7_say_X7_in
theorem dX7_say_0 : decode cX7_say 0 = .ok (.iload_n 1, 1) := by decide +kernel
theorem dX7_say_1 : decode cX7_say 1 = .ok (.i2l, 1) := by decide +kernel
theorem dX7_say_2 : decode cX7_say 2 = .ok (.ldc2_w 107, 3) := by decide +kernel
theorem dX7_say_5 : decode cX7_say 5 = .ok (.ldc2_w 109, 3) := by decide +kernel
theorem dX7_say_8 : decode cX7_say 8 = .ok (.invokestatic 71, 3) := by decide +kernel
theorem dX7_say_11 : decode cX7_say 11 = .ok (.ifCond .ne 6, 3) := by decide +kernel
theorem dX7_say_14 : decode cX7_say 14 = .ok (.bipush (-2), 2) := by decide +kernel
theorem dX7_say_16 : decode cX7_say 16 = .ok (.ireturn, 1) := by decide +kernel
theorem dX7_say_17 : decode cX7_say 17 = .ok (.aload_n 0, 1) := by decide +kernel
theorem dX7_say_18 : decode cX7_say 18 = .ok (.getfield 111, 3) := by decide +kernel
theorem dX7_say_21 : decode cX7_say 21 = .ok (.bipush 60, 2) := by decide +kernel
theorem dX7_say_23 : decode cX7_say 23 = .ok (.if_icmp .ne 6, 3) := by decide +kernel
theorem dX7_say_26 : decode cX7_say 26 = .ok (.bipush (-4), 2) := by decide +kernel
theorem dX7_say_28 : decode cX7_say 28 = .ok (.ireturn, 1) := by decide +kernel
theorem dX7_say_29 : decode cX7_say 29 = .ok (.aload_n 0, 1) := by decide +kernel
theorem dX7_say_30 : decode cX7_say 30 = .ok (.getfield 25, 3) := by decide +kernel
theorem dX7_say_33 : decode cX7_say 33 = .ok (.aload_n 0, 1) := by decide +kernel
theorem dX7_say_34 : decode cX7_say 34 = .ok (.getfield 111, 3) := by decide +kernel
theorem dX7_say_37 : decode cX7_say 37 = .ok (.iload_n 1, 1) := by decide +kernel
theorem dX7_say_38 : decode cX7_say 38 = .ok (.iastore, 1) := by decide +kernel
theorem dX7_say_39 : decode cX7_say 39 = .ok (.aload_n 0, 1) := by decide +kernel
theorem dX7_say_40 : decode cX7_say 40 = .ok (.dup, 1) := by decide +kernel
theorem dX7_say_41 : decode cX7_say 41 = .ok (.getfield 111, 3) := by decide +kernel
theorem dX7_say_44 : decode cX7_say 44 = .ok (.iconst 1, 1) := by decide +kernel
theorem dX7_say_45 : decode cX7_say 45 = .ok (.iadd, 1) := by decide +kernel
theorem dX7_say_46 : decode cX7_say 46 = .ok (.putfield 111, 3) := by decide +kernel
theorem dX7_say_49 : decode cX7_say 49 = .ok (.aload_n 0, 1) := by decide +kernel
theorem dX7_say_50 : decode cX7_say 50 = .ok (.getfield 111, 3) := by decide +kernel
theorem dX7_say_53 : decode cX7_say 53 = .ok (.ireturn, 1) := by decide +kernel
theorem dX7_wipe_0 : decode cX7_wipe 0 = .ok (.aload_n 0, 1) := by decide +kernel
theorem dX7_wipe_1 : decode cX7_wipe 1 = .ok (.getfield 111, 3) := by decide +kernel
theorem dX7_wipe_4 : decode cX7_wipe 4 = .ok (.istore_n 1, 1) := by decide +kernel
theorem dX7_wipe_5 : decode cX7_wipe 5 = .ok (.aload_n 0, 1) := by decide +kernel
theorem dX7_wipe_6 : decode cX7_wipe 6 = .ok (.iconst 0, 1) := by decide +kernel
theorem dX7_wipe_7 : decode cX7_wipe 7 = .ok (.putfield 111, 3) := by decide +kernel
theorem dX7_wipe_10 : decode cX7_wipe 10 = .ok (.iload_n 1, 1) := by decide +kernel
theorem dX7_wipe_11 : decode cX7_wipe 11 = .ok (.ireturn, 1) := by decide +kernel
theorem dX7_close_0 : decode cX7_close 0 = .ok (.aload_n 0, 1) := by decide +kernel
theorem dX7_close_1 : decode cX7_close 1 = .ok (.getfield 28, 3) := by decide +kernel
theorem dX7_close_4 : decode cX7_close 4 = .ok (.aload_n 0, 1) := by decide +kernel
theorem dX7_close_5 : decode cX7_close 5 = .ok (.getfield 114, 3) := by decide +kernel
theorem dX7_close_8 : decode cX7_close 8 = .ok (.iload_n 1, 1) := by decide +kernel
theorem dX7_close_9 : decode cX7_close 9 = .ok (.iastore, 1) := by decide +kernel
theorem dX7_close_10 : decode cX7_close 10 = .ok (.aload_n 0, 1) := by decide +kernel
theorem dX7_close_11 : decode cX7_close 11 = .ok (.dup, 1) := by decide +kernel
theorem dX7_close_12 : decode cX7_close 12 = .ok (.getfield 114, 3) := by decide +kernel
theorem dX7_close_15 : decode cX7_close 15 = .ok (.iconst 1, 1) := by decide +kernel
theorem dX7_close_16 : decode cX7_close 16 = .ok (.iadd, 1) := by decide +kernel
theorem dX7_close_17 : decode cX7_close 17 = .ok (.putfield 114, 3) := by decide +kernel
theorem dX7_close_20 : decode cX7_close 20 = .ok (.iconst 0, 1) := by decide +kernel
theorem dX7_close_21 : decode cX7_close 21 = .ok (.ireturn, 1) := by decide +kernel
set_option maxRecDepth 20000 in
theorem ggX7_begin_X7_in : GoodIn wsX7_begin wsX7_in := goodIn_r _ [8] (by decide +kernel) (by decide +kernel)
set_option maxRecDepth 20000 in
theorem gX7_begin_X7_in : GoodIn wsX7_begin (va_wsS RX7 71 yX7_in wsX7_in) := goodIn_app (goodIn_of _ (by decide +kernel)) ggX7_begin_X7_in
set_option maxRecDepth 20000 in
theorem ggX7_begin_X7_close : GoodIn wsX7_begin wsX7_close := goodIn_r _ [12, 13, 4, 14, 15, 16, 17, 18, 19, 20, 21, 22, 23, 24, 25, 26, 27, 28, 29, 30, 31, 32, 33, 34, 35, 36, 37, 38, 39, 40, 41, 42, 43, 44, 45, 46, 47] (by decide +kernel) (by decide +kernel)
set_option maxRecDepth 20000 in
theorem gX7_begin_X7_close : GoodIn wsX7_begin (wsV RX7 121 RX7 yX7_close wsX7_close) := goodIn_app (goodIn_of _ (by decide +kernel)) ggX7_begin_X7_close
theorem dX7_begin_0 : decode cX7_begin 0 = .ok (.iload_n 1, 1) := by decide +kernel
theorem dX7_begin_1 : decode cX7_begin 1 = .ok (.i2l, 1) := by decide +kernel
theorem dX7_begin_2 : decode cX7_begin 2 = .ok (.ldc2_w 117, 3) := by decide +kernel
theorem dX7_begin_5 : decode cX7_begin 5 = .ok (.ldc2_w 119, 3) := by decide +kernel
theorem dX7_begin_8 : decode cX7_begin 8 = .ok (.invokestatic 71, 3) := by decide +kernel
theorem dX7_begin_11 : decode cX7_begin 11 = .ok (.istore_n 2, 1) := by decide +kernel
theorem dX7_begin_12 : decode cX7_begin 12 = .ok (.aload_n 0, 1) := by decide +kernel
theorem dX7_begin_13 : decode cX7_begin 13 = .ok (.getfield 31, 3) := by decide +kernel
theorem dX7_begin_16 : decode cX7_begin 16 = .ok (.aload_n 0, 1) := by decide +kernel
theorem dX7_begin_17 : decode cX7_begin 17 = .ok (.getfield 114, 3) := by decide +kernel
theorem dX7_begin_20 : decode cX7_begin 20 = .ok (.iload_n 2, 1) := by decide +kernel
theorem dX7_begin_21 : decode cX7_begin 21 = .ok (.ifCond .eq 10, 3) := by decide +kernel
theorem dX7_begin_24 : decode cX7_begin 24 = .ok (.iload_n 1, 1) := by decide +kernel
theorem dX7_begin_25 : decode cX7_begin 25 = .ok (.bipush 65, 2) := by decide +kernel
theorem dX7_begin_27 : decode cX7_begin 27 = .ok (.isub, 1) := by decide +kernel
theorem dX7_begin_28 : decode cX7_begin 28 = .ok (.goto 4, 3) := by decide +kernel
theorem dX7_begin_31 : decode cX7_begin 31 = .ok (.iconst 0, 1) := by decide +kernel
theorem dX7_begin_32 : decode cX7_begin 32 = .ok (.iastore, 1) := by decide +kernel
theorem dX7_begin_33 : decode cX7_begin 33 = .ok (.iload_n 1, 1) := by decide +kernel
theorem dX7_begin_34 : decode cX7_begin 34 = .ok (.lookupswitch 58 #[(46, 52), (99, 46), (102, 44), (119, 42)], 42) := by decide +kernel
theorem dX7_begin_76 : decode cX7_begin 76 = .ok (.iconst 2, 1) := by decide +kernel
theorem dX7_begin_77 : decode cX7_begin 77 = .ok (.ireturn, 1) := by decide +kernel
theorem dX7_begin_78 : decode cX7_begin 78 = .ok (.iconst 3, 1) := by decide +kernel
theorem dX7_begin_79 : decode cX7_begin 79 = .ok (.ireturn, 1) := by decide +kernel
theorem dX7_begin_80 : decode cX7_begin 80 = .ok (.aload_n 0, 1) := by decide +kernel
theorem dX7_begin_81 : decode cX7_begin 81 = .ok (.iconst 4, 1) := by decide +kernel
theorem dX7_begin_82 : decode cX7_begin 82 = .ok (.invokevirtual 121, 3) := by decide +kernel
theorem dX7_begin_85 : decode cX7_begin 85 = .ok (.ireturn, 1) := by decide +kernel
theorem dX7_begin_86 : decode cX7_begin 86 = .ok (.aload_n 0, 1) := by decide +kernel
theorem dX7_begin_87 : decode cX7_begin 87 = .ok (.iconst 5, 1) := by decide +kernel
theorem dX7_begin_88 : decode cX7_begin 88 = .ok (.invokevirtual 121, 3) := by decide +kernel
theorem dX7_begin_91 : decode cX7_begin 91 = .ok (.ireturn, 1) := by decide +kernel
theorem dX7_begin_92 : decode cX7_begin 92 = .ok (.iload_n 2, 1) := by decide +kernel
theorem dX7_begin_93 : decode cX7_begin 93 = .ok (.ifCond .eq 7, 3) := by decide +kernel
theorem dX7_begin_96 : decode cX7_begin 96 = .ok (.iconst 1, 1) := by decide +kernel
theorem dX7_begin_97 : decode cX7_begin 97 = .ok (.goto 5, 3) := by decide +kernel
theorem dX7_begin_100 : decode cX7_begin 100 = .ok (.bipush (-6), 2) := by decide +kernel
theorem dX7_begin_102 : decode cX7_begin 102 = .ok (.ireturn, 1) := by decide +kernel
set_option maxRecDepth 20000 in
theorem ggX7_digit_X7_in : GoodIn wsX7_digit wsX7_in := goodIn_r _ [8] (by decide +kernel) (by decide +kernel)
set_option maxRecDepth 20000 in
theorem gX7_digit_X7_in : GoodIn wsX7_digit (va_wsS RX7 71 yX7_in wsX7_in) := goodIn_app (goodIn_of _ (by decide +kernel)) ggX7_digit_X7_in
set_option maxRecDepth 20000 in
theorem ggX7_digit_X7_close : GoodIn wsX7_digit wsX7_close := goodIn_r _ [12, 13, 2, 14, 15, 16, 17, 18, 19, 20, 21, 22, 23, 24, 25, 26, 27, 28, 29, 30, 31, 32, 33, 34, 35, 36, 37, 38, 39, 40, 41, 42, 43, 44, 45, 46, 47] (by decide +kernel) (by decide +kernel)
set_option maxRecDepth 20000 in
theorem gX7_digit_X7_close : GoodIn wsX7_digit (wsV RX7 121 RX7 yX7_close wsX7_close) := goodIn_app (goodIn_of _ (by decide +kernel)) ggX7_digit_X7_close
theorem dX7_digit_0 : decode cX7_digit 0 = .ok (.aload_n 0, 1) := by decide +kernel
theorem dX7_digit_1 : decode cX7_digit 1 = .ok (.getfield 31, 3) := by decide +kernel
theorem dX7_digit_4 : decode cX7_digit 4 = .ok (.aload_n 0, 1) := by decide +kernel
theorem dX7_digit_5 : decode cX7_digit 5 = .ok (.getfield 114, 3) := by decide +kernel
theorem dX7_digit_8 : decode cX7_digit 8 = .ok (.iload_n 2, 1) := by decide +kernel
theorem dX7_digit_9 : decode cX7_digit 9 = .ok (.bipush 48, 2) := by decide +kernel
theorem dX7_digit_11 : decode cX7_digit 11 = .ok (.isub, 1) := by decide +kernel
theorem dX7_digit_12 : decode cX7_digit 12 = .ok (.iastore, 1) := by decide +kernel
theorem dX7_digit_13 : decode cX7_digit 13 = .ok (.iload_n 2, 1) := by decide +kernel
theorem dX7_digit_14 : decode cX7_digit 14 = .ok (.i2l, 1) := by decide +kernel
theorem dX7_digit_15 : decode cX7_digit 15 = .ok (.ldc2_w 124, 3) := by decide +kernel
theorem dX7_digit_18 : decode cX7_digit 18 = .ok (.ldc2_w 126, 3) := by decide +kernel
theorem dX7_digit_21 : decode cX7_digit 21 = .ok (.invokestatic 71, 3) := by decide +kernel
theorem dX7_digit_24 : decode cX7_digit 24 = .ok (.ifCond .eq 20, 3) := by decide +kernel
theorem dX7_digit_27 : decode cX7_digit 27 = .ok (.aload_n 0, 1) := by decide +kernel
theorem dX7_digit_28 : decode cX7_digit 28 = .ok (.iload_n 1, 1) := by decide +kernel
theorem dX7_digit_29 : decode cX7_digit 29 = .ok (.iconst 2, 1) := by decide +kernel
theorem dX7_digit_30 : decode cX7_digit 30 = .ok (.if_icmp .ne 7, 3) := by decide +kernel
theorem dX7_digit_33 : decode cX7_digit 33 = .ok (.iconst 2, 1) := by decide +kernel
theorem dX7_digit_34 : decode cX7_digit 34 = .ok (.goto 4, 3) := by decide +kernel
theorem dX7_digit_37 : decode cX7_digit 37 = .ok (.iconst 3, 1) := by decide +kernel
theorem dX7_digit_38 : decode cX7_digit 38 = .ok (.invokevirtual 121, 3) := by decide +kernel
theorem dX7_digit_41 : decode cX7_digit 41 = .ok (.goto 5, 3) := by decide +kernel
theorem dX7_digit_44 : decode cX7_digit 44 = .ok (.bipush (-6), 2) := by decide +kernel
theorem dX7_digit_46 : decode cX7_digit 46 = .ok (.ireturn, 1) := by decide +kernel
set_option maxRecDepth 20000 in
theorem ggX7_readOn_X7_begin : GoodIn wsX7_readOn wsX7_begin := goodIn_r _ [5, 6, 7, 8, 9, 10, 11, 4, 12, 13, 14, 15, 16, 17, 24, 25, 26, 27, 28, 29, 30, 31, 32, 33, 34, 35, 36, 37, 38, 39, 40, 41, 42, 43, 44, 45, 46, 47, 48, 49, 50, 51, 52, 53, 54, 55, 56, 57] (by decide +kernel) (by decide +kernel)
set_option maxRecDepth 20000 in
theorem gX7_readOn_X7_begin : GoodIn wsX7_readOn (wsV RX7 128 RX7 yX7_begin wsX7_begin) := goodIn_app (goodIn_of _ (by decide +kernel)) ggX7_readOn_X7_begin
set_option maxRecDepth 20000 in
theorem ggX7_readOn_X7_close : GoodIn wsX7_readOn wsX7_close := goodIn_r _ [16, 17, 9, 24, 25, 26, 27, 28, 29, 30, 31, 32, 33, 34, 35, 36, 37, 38, 39, 40, 41, 42, 43, 44, 45, 46, 47, 48, 49, 50, 51, 52, 53, 54, 55, 56, 57] (by decide +kernel) (by decide +kernel)
set_option maxRecDepth 20000 in
theorem gX7_readOn_X7_close : GoodIn wsX7_readOn (wsV RX7 121 RX7 yX7_close wsX7_close) := goodIn_app (goodIn_of _ (by decide +kernel)) ggX7_readOn_X7_close
set_option maxRecDepth 20000 in
theorem ggX7_readOn_X7_digit : GoodIn wsX7_readOn wsX7_digit := goodIn_r _ [21, 8, 9, 22, 23, 10, 11, 4, 12, 13, 14, 15, 16, 17, 24, 25, 26, 27, 28, 29, 30, 31, 32, 33, 34, 35, 36, 37, 38, 39, 40, 41, 42, 43, 44, 45, 46, 47, 48, 49, 50, 51, 52, 53, 54, 55, 56, 57] (by decide +kernel) (by decide +kernel)
set_option maxRecDepth 20000 in
theorem gX7_readOn_X7_digit : GoodIn wsX7_readOn (wsV RX7 131 RX7 yX7_digit wsX7_digit) := goodIn_app (goodIn_of _ (by decide +kernel)) ggX7_readOn_X7_digit
theorem dX7_readOn_0 : decode cX7_readOn 0 = .ok (.iload_n 1, 1) := by decide +kernel
theorem dX7_readOn_1 : decode cX7_readOn 1 = .ok (.ifCond .ne 9, 3) := by decide +kernel
theorem dX7_readOn_4 : decode cX7_readOn 4 = .ok (.aload_n 0, 1) := by decide +kernel
theorem dX7_readOn_5 : decode cX7_readOn 5 = .ok (.iload_n 2, 1) := by decide +kernel
theorem dX7_readOn_6 : decode cX7_readOn 6 = .ok (.invokevirtual 128, 3) := by decide +kernel
theorem dX7_readOn_9 : decode cX7_readOn 9 = .ok (.ireturn, 1) := by decide +kernel
theorem dX7_readOn_10 : decode cX7_readOn 10 = .ok (.iload_n 1, 1) := by decide +kernel
theorem dX7_readOn_11 : decode cX7_readOn 11 = .ok (.iconst 1, 1) := by decide +kernel
theorem dX7_readOn_12 : decode cX7_readOn 12 = .ok (.if_icmp .ne 34, 3) := by decide +kernel
theorem dX7_readOn_15 : decode cX7_readOn 15 = .ok (.iload_n 2, 1) := by decide +kernel
theorem dX7_readOn_16 : decode cX7_readOn 16 = .ok (.bipush 94, 2) := by decide +kernel
theorem dX7_readOn_18 : decode cX7_readOn 18 = .ok (.if_icmp .ne 11, 3) := by decide +kernel
theorem dX7_readOn_21 : decode cX7_readOn 21 = .ok (.aload_n 0, 1) := by decide +kernel
theorem dX7_readOn_22 : decode cX7_readOn 22 = .ok (.iconst 0, 1) := by decide +kernel
theorem dX7_readOn_23 : decode cX7_readOn 23 = .ok (.invokevirtual 121, 3) := by decide +kernel
theorem dX7_readOn_26 : decode cX7_readOn 26 = .ok (.goto 19, 3) := by decide +kernel
theorem dX7_readOn_29 : decode cX7_readOn 29 = .ok (.iload_n 2, 1) := by decide +kernel
theorem dX7_readOn_30 : decode cX7_readOn 30 = .ok (.bipush 95, 2) := by decide +kernel
theorem dX7_readOn_32 : decode cX7_readOn 32 = .ok (.if_icmp .ne 11, 3) := by decide +kernel
theorem dX7_readOn_35 : decode cX7_readOn 35 = .ok (.aload_n 0, 1) := by decide +kernel
theorem dX7_readOn_36 : decode cX7_readOn 36 = .ok (.iconst 1, 1) := by decide +kernel
theorem dX7_readOn_37 : decode cX7_readOn 37 = .ok (.invokevirtual 121, 3) := by decide +kernel
theorem dX7_readOn_40 : decode cX7_readOn 40 = .ok (.goto 5, 3) := by decide +kernel
theorem dX7_readOn_43 : decode cX7_readOn 43 = .ok (.bipush (-6), 2) := by decide +kernel
theorem dX7_readOn_45 : decode cX7_readOn 45 = .ok (.ireturn, 1) := by decide +kernel
theorem dX7_readOn_46 : decode cX7_readOn 46 = .ok (.aload_n 0, 1) := by decide +kernel
theorem dX7_readOn_47 : decode cX7_readOn 47 = .ok (.iload_n 1, 1) := by decide +kernel
theorem dX7_readOn_48 : decode cX7_readOn 48 = .ok (.iload_n 2, 1) := by decide +kernel
theorem dX7_readOn_49 : decode cX7_readOn 49 = .ok (.invokevirtual 131, 3) := by decide +kernel
theorem dX7_readOn_52 : decode cX7_readOn 52 = .ok (.ireturn, 1) := by decide +kernel
set_option maxRecDepth 20000 in
theorem ggX7_fault_X7_readOn : GoodIn wsX7_fault wsX7_readOn := goodIn_r _ [8, 9, 10, 11, 7, 12, 13, 14, 15, 1, 16, 17, 18, 19, 20, 21, 22, 23, 24, 25, 26, 27, 28, 29, 30, 31, 32, 33, 34, 35, 36, 37, 38, 39, 40, 41, 42, 43, 44, 45, 46, 47, 48, 49, 50, 51, 52, 53, 54, 55, 56, 57, 58, 59, 60, 61, 62, 63] (by decide +kernel) (by decide +kernel)
set_option maxRecDepth 20000 in
theorem gX7_fault_X7_readOn : GoodIn wsX7_fault (wsV RX7 134 RX7 yX7_readOn wsX7_readOn) := goodIn_app (goodIn_of _ (by decide +kernel)) ggX7_fault_X7_readOn
theorem dX7_fault_0 : decode cX7_fault 0 = .ok (.aload_n 0, 1) := by decide +kernel
theorem dX7_fault_1 : decode cX7_fault 1 = .ok (.iconst 0, 1) := by decide +kernel
theorem dX7_fault_2 : decode cX7_fault 2 = .ok (.putfield 114, 3) := by decide +kernel
theorem dX7_fault_5 : decode cX7_fault 5 = .ok (.iconst 0, 1) := by decide +kernel
theorem dX7_fault_6 : decode cX7_fault 6 = .ok (.istore_n 1, 1) := by decide +kernel
theorem dX7_fault_7 : decode cX7_fault 7 = .ok (.iconst 0, 1) := by decide +kernel
theorem dX7_fault_8 : decode cX7_fault 8 = .ok (.istore_n 2, 1) := by decide +kernel
theorem dX7_fault_9 : decode cX7_fault 9 = .ok (.iload_n 2, 1) := by decide +kernel
theorem dX7_fault_10 : decode cX7_fault 10 = .ok (.aload_n 0, 1) := by decide +kernel
theorem dX7_fault_11 : decode cX7_fault 11 = .ok (.getfield 111, 3) := by decide +kernel
theorem dX7_fault_14 : decode cX7_fault 14 = .ok (.if_icmp .ge 27, 3) := by decide +kernel
theorem dX7_fault_17 : decode cX7_fault 17 = .ok (.aload_n 0, 1) := by decide +kernel
theorem dX7_fault_18 : decode cX7_fault 18 = .ok (.iload_n 1, 1) := by decide +kernel
theorem dX7_fault_19 : decode cX7_fault 19 = .ok (.aload_n 0, 1) := by decide +kernel
theorem dX7_fault_20 : decode cX7_fault 20 = .ok (.getfield 25, 3) := by decide +kernel
theorem dX7_fault_23 : decode cX7_fault 23 = .ok (.iload_n 2, 1) := by decide +kernel
theorem dX7_fault_24 : decode cX7_fault 24 = .ok (.iaload, 1) := by decide +kernel
theorem dX7_fault_25 : decode cX7_fault 25 = .ok (.invokevirtual 134, 3) := by decide +kernel
theorem dX7_fault_28 : decode cX7_fault 28 = .ok (.istore_n 1, 1) := by decide +kernel
theorem dX7_fault_29 : decode cX7_fault 29 = .ok (.iload_n 1, 1) := by decide +kernel
theorem dX7_fault_30 : decode cX7_fault 30 = .ok (.ifCond .ge 5, 3) := by decide +kernel
theorem dX7_fault_33 : decode cX7_fault 33 = .ok (.iload_n 2, 1) := by decide +kernel
theorem dX7_fault_34 : decode cX7_fault 34 = .ok (.ireturn, 1) := by decide +kernel
theorem dX7_fault_35 : decode cX7_fault 35 = .ok (.iinc 2 1, 3) := by decide +kernel
theorem dX7_fault_38 : decode cX7_fault 38 = .ok (.goto (-29), 3) := by decide +kernel
theorem dX7_fault_41 : decode cX7_fault 41 = .ok (.iload_n 1, 1) := by decide +kernel
theorem dX7_fault_42 : decode cX7_fault 42 = .ok (.ifCond .ne 8, 3) := by decide +kernel
theorem dX7_fault_45 : decode cX7_fault 45 = .ok (.bipush (-6), 2) := by decide +kernel
theorem dX7_fault_47 : decode cX7_fault 47 = .ok (.goto 7, 3) := by decide +kernel
theorem dX7_fault_50 : decode cX7_fault 50 = .ok (.aload_n 0, 1) := by decide +kernel
theorem dX7_fault_51 : decode cX7_fault 51 = .ok (.getfield 111, 3) := by decide +kernel
theorem dX7_fault_54 : decode cX7_fault 54 = .ok (.ireturn, 1) := by decide +kernel
set_option maxRecDepth 20000 in
theorem ggX7_whyNoSail_X7_ahead : GoodIn wsX7_whyNoSail wsX7_ahead := goodIn_r _ [7, 8, 9, 6, 10, 11, 12, 13, 14, 15, 16, 17, 18, 19, 20] (by decide +kernel) (by decide +kernel)
set_option maxRecDepth 20000 in
theorem gX7_whyNoSail_X7_ahead : GoodIn wsX7_whyNoSail (va_wsS RX7 137 yX7_ahead wsX7_ahead) := goodIn_app (goodIn_of _ (by decide +kernel)) ggX7_whyNoSail_X7_ahead
theorem dX7_whyNoSail_0 : decode cX7_whyNoSail 0 = .ok (.aload_n 0, 1) := by decide +kernel
theorem dX7_whyNoSail_1 : decode cX7_whyNoSail 1 = .ok (.getfield 66, 3) := by decide +kernel
theorem dX7_whyNoSail_4 : decode cX7_whyNoSail 4 = .ok (.ifCond .ge 7, 3) := by decide +kernel
theorem dX7_whyNoSail_7 : decode cX7_whyNoSail 7 = .ok (.iconst 2, 1) := by decide +kernel
theorem dX7_whyNoSail_8 : decode cX7_whyNoSail 8 = .ok (.goto 30, 3) := by decide +kernel
theorem dX7_whyNoSail_11 : decode cX7_whyNoSail 11 = .ok (.aload_n 0, 1) := by decide +kernel
theorem dX7_whyNoSail_12 : decode cX7_whyNoSail 12 = .ok (.getfield 63, 3) := by decide +kernel
theorem dX7_whyNoSail_15 : decode cX7_whyNoSail 15 = .ok (.ifCond .ne 7, 3) := by decide +kernel
theorem dX7_whyNoSail_18 : decode cX7_whyNoSail 18 = .ok (.iconst 3, 1) := by decide +kernel
theorem dX7_whyNoSail_19 : decode cX7_whyNoSail 19 = .ok (.goto 19, 3) := by decide +kernel
theorem dX7_whyNoSail_22 : decode cX7_whyNoSail 22 = .ok (.aload_n 0, 1) := by decide +kernel
theorem dX7_whyNoSail_23 : decode cX7_whyNoSail 23 = .ok (.getfield 59, 3) := by decide +kernel
theorem dX7_whyNoSail_26 : decode cX7_whyNoSail 26 = .ok (.iload_n 1, 1) := by decide +kernel
theorem dX7_whyNoSail_27 : decode cX7_whyNoSail 27 = .ok (.invokestatic 137, 3) := by decide +kernel
theorem dX7_whyNoSail_30 : decode cX7_whyNoSail 30 = .ok (.ifCond .ge 7, 3) := by decide +kernel
theorem dX7_whyNoSail_33 : decode cX7_whyNoSail 33 = .ok (.iconst 4, 1) := by decide +kernel
theorem dX7_whyNoSail_34 : decode cX7_whyNoSail 34 = .ok (.goto 4, 3) := by decide +kernel
theorem dX7_whyNoSail_37 : decode cX7_whyNoSail 37 = .ok (.iconst 0, 1) := by decide +kernel
theorem dX7_whyNoSail_38 : decode cX7_whyNoSail 38 = .ok (.ireturn, 1) := by decide +kernel
set_option maxRecDepth 20000 in
theorem ggX7_whyNot_X7_whyNoSail : GoodIn wsX7_whyNot wsX7_whyNoSail := goodIn_r _ [8, 1, 9, 10, 11, 12, 7, 13, 14, 15, 16, 17, 18, 19, 20, 21, 22, 23, 24, 25, 26, 27, 28, 29, 30, 31, 32, 33, 34, 35, 36, 37, 38, 39, 40, 41, 42, 43, 44, 45, 46, 47, 48, 49, 50, 51, 52, 53, 54, 55, 56, 57, 58, 59, 60] (by decide +kernel) (by decide +kernel)
set_option maxRecDepth 20000 in
theorem gX7_whyNot_X7_whyNoSail : GoodIn wsX7_whyNot (wsV RX7 140 RX7 yX7_whyNoSail wsX7_whyNoSail) := goodIn_app (goodIn_of _ (by decide +kernel)) ggX7_whyNot_X7_whyNoSail
theorem dX7_whyNot_0 : decode cX7_whyNot 0 = .ok (.iload_n 1, 1) := by decide +kernel
theorem dX7_whyNot_1 : decode cX7_whyNot 1 = .ok (.tableswitch 96 0 4 #[35, 49, 63, 69, 83], 35) := by decide +kernel
theorem dX7_whyNot_36 : decode cX7_whyNot 36 = .ok (.aload_n 0, 1) := by decide +kernel
theorem dX7_whyNot_37 : decode cX7_whyNot 37 = .ok (.getfield 66, 3) := by decide +kernel
theorem dX7_whyNot_40 : decode cX7_whyNot 40 = .ok (.iload_n 2, 1) := by decide +kernel
theorem dX7_whyNot_41 : decode cX7_whyNot 41 = .ok (.if_icmp .ne 7, 3) := by decide +kernel
theorem dX7_whyNot_44 : decode cX7_whyNot 44 = .ok (.iconst 1, 1) := by decide +kernel
theorem dX7_whyNot_45 : decode cX7_whyNot 45 = .ok (.goto 4, 3) := by decide +kernel
theorem dX7_whyNot_48 : decode cX7_whyNot 48 = .ok (.iconst 0, 1) := by decide +kernel
theorem dX7_whyNot_49 : decode cX7_whyNot 49 = .ok (.ireturn, 1) := by decide +kernel
theorem dX7_whyNot_50 : decode cX7_whyNot 50 = .ok (.aload_n 0, 1) := by decide +kernel
theorem dX7_whyNot_51 : decode cX7_whyNot 51 = .ok (.getfield 66, 3) := by decide +kernel
theorem dX7_whyNot_54 : decode cX7_whyNot 54 = .ok (.iload_n 2, 1) := by decide +kernel
theorem dX7_whyNot_55 : decode cX7_whyNot 55 = .ok (.if_icmp .ne 7, 3) := by decide +kernel
theorem dX7_whyNot_58 : decode cX7_whyNot 58 = .ok (.iconst 0, 1) := by decide +kernel
theorem dX7_whyNot_59 : decode cX7_whyNot 59 = .ok (.goto 4, 3) := by decide +kernel
theorem dX7_whyNot_62 : decode cX7_whyNot 62 = .ok (.iconst 1, 1) := by decide +kernel
theorem dX7_whyNot_63 : decode cX7_whyNot 63 = .ok (.ireturn, 1) := by decide +kernel
theorem dX7_whyNot_64 : decode cX7_whyNot 64 = .ok (.aload_n 0, 1) := by decide +kernel
theorem dX7_whyNot_65 : decode cX7_whyNot 65 = .ok (.iload_n 2, 1) := by decide +kernel
theorem dX7_whyNot_66 : decode cX7_whyNot 66 = .ok (.invokevirtual 140, 3) := by decide +kernel
theorem dX7_whyNot_69 : decode cX7_whyNot 69 = .ok (.ireturn, 1) := by decide +kernel
theorem dX7_whyNot_70 : decode cX7_whyNot 70 = .ok (.aload_n 0, 1) := by decide +kernel
theorem dX7_whyNot_71 : decode cX7_whyNot 71 = .ok (.getfield 104, 3) := by decide +kernel
theorem dX7_whyNot_74 : decode cX7_whyNot 74 = .ok (.iload_n 2, 1) := by decide +kernel
theorem dX7_whyNot_75 : decode cX7_whyNot 75 = .ok (.if_icmp .ne 7, 3) := by decide +kernel
theorem dX7_whyNot_78 : decode cX7_whyNot 78 = .ok (.iconst 5, 1) := by decide +kernel
theorem dX7_whyNot_79 : decode cX7_whyNot 79 = .ok (.goto 4, 3) := by decide +kernel
theorem dX7_whyNot_82 : decode cX7_whyNot 82 = .ok (.iconst 0, 1) := by decide +kernel
theorem dX7_whyNot_83 : decode cX7_whyNot 83 = .ok (.ireturn, 1) := by decide +kernel
theorem dX7_whyNot_84 : decode cX7_whyNot 84 = .ok (.aload_n 0, 1) := by decide +kernel
theorem dX7_whyNot_85 : decode cX7_whyNot 85 = .ok (.getfield 66, 3) := by decide +kernel
theorem dX7_whyNot_88 : decode cX7_whyNot 88 = .ok (.ifCond .ge 7, 3) := by decide +kernel
theorem dX7_whyNot_91 : decode cX7_whyNot 91 = .ok (.iconst 2, 1) := by decide +kernel
theorem dX7_whyNot_92 : decode cX7_whyNot 92 = .ok (.goto 4, 3) := by decide +kernel
theorem dX7_whyNot_95 : decode cX7_whyNot 95 = .ok (.iconst 0, 1) := by decide +kernel
theorem dX7_whyNot_96 : decode cX7_whyNot 96 = .ok (.ireturn, 1) := by decide +kernel
theorem dX7_whyNot_97 : decode cX7_whyNot 97 = .ok (.aload_n 0, 1) := by decide +kernel
theorem dX7_whyNot_98 : decode cX7_whyNot 98 = .ok (.getfield 143, 3) := by decide +kernel
theorem dX7_whyNot_101 : decode cX7_whyNot 101 = .ok (.bipush 99, 2) := by decide +kernel
theorem dX7_whyNot_103 : decode cX7_whyNot 103 = .ok (.if_icmp .ne 8, 3) := by decide +kernel
theorem dX7_whyNot_106 : decode cX7_whyNot 106 = .ok (.bipush 6, 2) := by decide +kernel
theorem dX7_whyNot_108 : decode cX7_whyNot 108 = .ok (.goto 4, 3) := by decide +kernel
theorem dX7_whyNot_111 : decode cX7_whyNot 111 = .ok (.iconst 0, 1) := by decide +kernel
theorem dX7_whyNot_112 : decode cX7_whyNot 112 = .ok (.ireturn, 1) := by decide +kernel
theorem dX7_glass_0 : decode cX7_glass 0 = .ok (.aload_n 0, 1) := by decide +kernel
theorem dX7_glass_1 : decode cX7_glass 1 = .ok (.getfield 13, 3) := by decide +kernel
theorem dX7_glass_4 : decode cX7_glass 4 = .ok (.aload_n 0, 1) := by decide +kernel
theorem dX7_glass_5 : decode cX7_glass 5 = .ok (.getfield 66, 3) := by decide +kernel
theorem dX7_glass_8 : decode cX7_glass 8 = .ok (.iaload, 1) := by decide +kernel
theorem dX7_glass_9 : decode cX7_glass 9 = .ok (.aload_n 0, 1) := by decide +kernel
theorem dX7_glass_10 : decode cX7_glass 10 = .ok (.getfield 104, 3) := by decide +kernel
theorem dX7_glass_13 : decode cX7_glass 13 = .ok (.if_icmp .ge 7, 3) := by decide +kernel
theorem dX7_glass_16 : decode cX7_glass 16 = .ok (.iconst 0, 1) := by decide +kernel
theorem dX7_glass_17 : decode cX7_glass 17 = .ok (.goto 17, 3) := by decide +kernel
theorem dX7_glass_20 : decode cX7_glass 20 = .ok (.aload_n 0, 1) := by decide +kernel
theorem dX7_glass_21 : decode cX7_glass 21 = .ok (.getfield 13, 3) := by decide +kernel
theorem dX7_glass_24 : decode cX7_glass 24 = .ok (.aload_n 0, 1) := by decide +kernel
theorem dX7_glass_25 : decode cX7_glass 25 = .ok (.getfield 66, 3) := by decide +kernel
theorem dX7_glass_28 : decode cX7_glass 28 = .ok (.iaload, 1) := by decide +kernel
theorem dX7_glass_29 : decode cX7_glass 29 = .ok (.aload_n 0, 1) := by decide +kernel
theorem dX7_glass_30 : decode cX7_glass 30 = .ok (.getfield 104, 3) := by decide +kernel
theorem dX7_glass_33 : decode cX7_glass 33 = .ok (.isub, 1) := by decide +kernel
theorem dX7_glass_34 : decode cX7_glass 34 = .ok (.istore_n 1, 1) := by decide +kernel
theorem dX7_glass_35 : decode cX7_glass 35 = .ok (.aload_n 0, 1) := by decide +kernel
theorem dX7_glass_36 : decode cX7_glass 36 = .ok (.getfield 146, 3) := by decide +kernel
theorem dX7_glass_39 : decode cX7_glass 39 = .ok (.iconst 2, 1) := by decide +kernel
theorem dX7_glass_40 : decode cX7_glass 40 = .ok (.if_icmp .le 9, 3) := by decide +kernel
theorem dX7_glass_43 : decode cX7_glass 43 = .ok (.iload_n 1, 1) := by decide +kernel
theorem dX7_glass_44 : decode cX7_glass 44 = .ok (.iconst 2, 1) := by decide +kernel
theorem dX7_glass_45 : decode cX7_glass 45 = .ok (.idiv, 1) := by decide +kernel
theorem dX7_glass_46 : decode cX7_glass 46 = .ok (.goto 4, 3) := by decide +kernel
theorem dX7_glass_49 : decode cX7_glass 49 = .ok (.iload_n 1, 1) := by decide +kernel
theorem dX7_glass_50 : decode cX7_glass 50 = .ok (.ireturn, 1) := by decide +kernel
set_option maxRecDepth 20000 in
theorem ggX7_isSeen_X7_far : GoodIn wsX7_isSeen wsX7_far := goodIn_r _ [6, 7, 8, 5, 9] (by decide +kernel) (by decide +kernel)
set_option maxRecDepth 20000 in
theorem gX7_isSeen_X7_far : GoodIn wsX7_isSeen (va_wsS RX7 149 yX7_far wsX7_far) := goodIn_app (goodIn_of _ (by decide +kernel)) ggX7_isSeen_X7_far
set_option maxRecDepth 20000 in
theorem ggX7_isSeen_X7_glass : GoodIn wsX7_isSeen wsX7_glass := goodIn_r _ [13, 14, 15, 16, 17, 18, 19, 20, 21, 22, 23, 24, 25, 26, 27, 28, 29, 30, 31, 32, 33, 34, 35, 36, 37, 38, 39, 40, 41, 42, 43, 44, 45, 46, 47, 48, 49, 50, 51] (by decide +kernel) (by decide +kernel)
set_option maxRecDepth 20000 in
theorem gX7_isSeen_X7_glass : GoodIn wsX7_isSeen (wsV RX7 152 RX7 yX7_glass wsX7_glass) := goodIn_app (goodIn_of _ (by decide +kernel)) ggX7_isSeen_X7_glass
theorem dX7_isSeen_0 : decode cX7_isSeen 0 = .ok (.aload_n 0, 1) := by decide +kernel
theorem dX7_isSeen_1 : decode cX7_isSeen 1 = .ok (.getfield 7, 3) := by decide +kernel
theorem dX7_isSeen_4 : decode cX7_isSeen 4 = .ok (.iload_n 1, 1) := by decide +kernel
theorem dX7_isSeen_5 : decode cX7_isSeen 5 = .ok (.iaload, 1) := by decide +kernel
theorem dX7_isSeen_6 : decode cX7_isSeen 6 = .ok (.iconst 1, 1) := by decide +kernel
theorem dX7_isSeen_7 : decode cX7_isSeen 7 = .ok (.if_icmp .ne 22, 3) := by decide +kernel
theorem dX7_isSeen_10 : decode cX7_isSeen 10 = .ok (.iload_n 1, 1) := by decide +kernel
theorem dX7_isSeen_11 : decode cX7_isSeen 11 = .ok (.aload_n 0, 1) := by decide +kernel
theorem dX7_isSeen_12 : decode cX7_isSeen 12 = .ok (.getfield 59, 3) := by decide +kernel
theorem dX7_isSeen_15 : decode cX7_isSeen 15 = .ok (.invokestatic 149, 3) := by decide +kernel
theorem dX7_isSeen_18 : decode cX7_isSeen 18 = .ok (.aload_n 0, 1) := by decide +kernel
theorem dX7_isSeen_19 : decode cX7_isSeen 19 = .ok (.invokevirtual 152, 3) := by decide +kernel
theorem dX7_isSeen_22 : decode cX7_isSeen 22 = .ok (.if_icmp .gt 7, 3) := by decide +kernel
theorem dX7_isSeen_25 : decode cX7_isSeen 25 = .ok (.iconst 1, 1) := by decide +kernel
theorem dX7_isSeen_26 : decode cX7_isSeen 26 = .ok (.goto 4, 3) := by decide +kernel
theorem dX7_isSeen_29 : decode cX7_isSeen 29 = .ok (.iconst 0, 1) := by decide +kernel
theorem dX7_isSeen_30 : decode cX7_isSeen 30 = .ok (.ireturn, 1) := by decide +kernel
set_option maxRecDepth 20000 in
theorem ggX7_seenMany_X7_isSeen : GoodIn wsX7_seenMany wsX7_isSeen := goodIn_r _ [5, 6, 7, 8, 9, 4, 10, 11, 12, 13, 14, 15, 16, 17, 18, 19, 20, 21, 22, 23, 24, 25, 26, 27, 28, 29, 30, 31, 32, 33, 34, 35, 36, 37, 38, 39, 40, 41, 42, 43, 44, 45, 46, 47, 48, 49, 50, 51, 52, 53, 54, 55] (by decide +kernel) (by decide +kernel)
set_option maxRecDepth 20000 in
theorem gX7_seenMany_X7_isSeen : GoodIn wsX7_seenMany (wsV RX7 155 RX7 yX7_isSeen wsX7_isSeen) := goodIn_app (goodIn_of _ (by decide +kernel)) ggX7_seenMany_X7_isSeen
theorem dX7_seenMany_0 : decode cX7_seenMany 0 = .ok (.iconst 0, 1) := by decide +kernel
theorem dX7_seenMany_1 : decode cX7_seenMany 1 = .ok (.istore_n 1, 1) := by decide +kernel
theorem dX7_seenMany_2 : decode cX7_seenMany 2 = .ok (.iconst 0, 1) := by decide +kernel
theorem dX7_seenMany_3 : decode cX7_seenMany 3 = .ok (.istore_n 2, 1) := by decide +kernel
theorem dX7_seenMany_4 : decode cX7_seenMany 4 = .ok (.iload_n 2, 1) := by decide +kernel
theorem dX7_seenMany_5 : decode cX7_seenMany 5 = .ok (.bipush 64, 2) := by decide +kernel
theorem dX7_seenMany_7 : decode cX7_seenMany 7 = .ok (.if_icmp .ge 25, 3) := by decide +kernel
theorem dX7_seenMany_10 : decode cX7_seenMany 10 = .ok (.iload_n 1, 1) := by decide +kernel
theorem dX7_seenMany_11 : decode cX7_seenMany 11 = .ok (.aload_n 0, 1) := by decide +kernel
theorem dX7_seenMany_12 : decode cX7_seenMany 12 = .ok (.iload_n 2, 1) := by decide +kernel
theorem dX7_seenMany_13 : decode cX7_seenMany 13 = .ok (.invokevirtual 155, 3) := by decide +kernel
theorem dX7_seenMany_16 : decode cX7_seenMany 16 = .ok (.ifCond .eq 7, 3) := by decide +kernel
theorem dX7_seenMany_19 : decode cX7_seenMany 19 = .ok (.iconst 1, 1) := by decide +kernel
theorem dX7_seenMany_20 : decode cX7_seenMany 20 = .ok (.goto 4, 3) := by decide +kernel
theorem dX7_seenMany_23 : decode cX7_seenMany 23 = .ok (.iconst 0, 1) := by decide +kernel
theorem dX7_seenMany_24 : decode cX7_seenMany 24 = .ok (.iadd, 1) := by decide +kernel
theorem dX7_seenMany_25 : decode cX7_seenMany 25 = .ok (.istore_n 1, 1) := by decide +kernel
theorem dX7_seenMany_26 : decode cX7_seenMany 26 = .ok (.iinc 2 1, 3) := by decide +kernel
theorem dX7_seenMany_29 : decode cX7_seenMany 29 = .ok (.goto (-25), 3) := by decide +kernel
theorem dX7_seenMany_32 : decode cX7_seenMany 32 = .ok (.iload_n 1, 1) := by decide +kernel
theorem dX7_seenMany_33 : decode cX7_seenMany 33 = .ok (.ireturn, 1) := by decide +kernel
set_option maxRecDepth 20000 in
theorem ggX7_nearest_X7_isSeen : GoodIn wsX7_nearest wsX7_isSeen := goodIn_r _ [6, 7, 1, 8, 9, 5, 10, 11, 12, 13, 14, 15, 16, 17, 18, 19, 20, 21, 22, 23, 24, 25, 26, 27, 28, 29, 30, 31, 32, 33, 34, 35, 36, 37, 38, 39, 40, 41, 42, 43, 44, 45, 46, 47, 48, 49, 50, 51, 52, 53, 54, 55] (by decide +kernel) (by decide +kernel)
set_option maxRecDepth 20000 in
theorem gX7_nearest_X7_isSeen : GoodIn wsX7_nearest (wsV RX7 155 RX7 yX7_isSeen wsX7_isSeen) := goodIn_app (goodIn_of _ (by decide +kernel)) ggX7_nearest_X7_isSeen
set_option maxRecDepth 20000 in
theorem ggX7_nearest_X7_far : GoodIn wsX7_nearest wsX7_far := goodIn_r _ [10, 11, 12, 5, 13] (by decide +kernel) (by decide +kernel)
set_option maxRecDepth 20000 in
theorem gX7_nearest_X7_far : GoodIn wsX7_nearest (va_wsS RX7 149 yX7_far wsX7_far) := goodIn_app (goodIn_of _ (by decide +kernel)) ggX7_nearest_X7_far
theorem dX7_nearest_0 : decode cX7_nearest 0 = .ok (.bipush (-6), 2) := by decide +kernel
theorem dX7_nearest_2 : decode cX7_nearest 2 = .ok (.istore_n 1, 1) := by decide +kernel
theorem dX7_nearest_3 : decode cX7_nearest 3 = .ok (.bipush 63, 2) := by decide +kernel
theorem dX7_nearest_5 : decode cX7_nearest 5 = .ok (.istore_n 2, 1) := by decide +kernel
theorem dX7_nearest_6 : decode cX7_nearest 6 = .ok (.iload_n 2, 1) := by decide +kernel
theorem dX7_nearest_7 : decode cX7_nearest 7 = .ok (.ifCond .lt 46, 3) := by decide +kernel
theorem dX7_nearest_10 : decode cX7_nearest 10 = .ok (.aload_n 0, 1) := by decide +kernel
theorem dX7_nearest_11 : decode cX7_nearest 11 = .ok (.iload_n 2, 1) := by decide +kernel
theorem dX7_nearest_12 : decode cX7_nearest 12 = .ok (.invokevirtual 155, 3) := by decide +kernel
theorem dX7_nearest_15 : decode cX7_nearest 15 = .ok (.ifCond .eq 30, 3) := by decide +kernel
theorem dX7_nearest_18 : decode cX7_nearest 18 = .ok (.iload_n 1, 1) := by decide +kernel
theorem dX7_nearest_19 : decode cX7_nearest 19 = .ok (.ifCond .lt 22, 3) := by decide +kernel
theorem dX7_nearest_22 : decode cX7_nearest 22 = .ok (.iload_n 2, 1) := by decide +kernel
theorem dX7_nearest_23 : decode cX7_nearest 23 = .ok (.aload_n 0, 1) := by decide +kernel
theorem dX7_nearest_24 : decode cX7_nearest 24 = .ok (.getfield 59, 3) := by decide +kernel
theorem dX7_nearest_27 : decode cX7_nearest 27 = .ok (.invokestatic 149, 3) := by decide +kernel
theorem dX7_nearest_30 : decode cX7_nearest 30 = .ok (.iload_n 1, 1) := by decide +kernel
theorem dX7_nearest_31 : decode cX7_nearest 31 = .ok (.aload_n 0, 1) := by decide +kernel
theorem dX7_nearest_32 : decode cX7_nearest 32 = .ok (.getfield 59, 3) := by decide +kernel
theorem dX7_nearest_35 : decode cX7_nearest 35 = .ok (.invokestatic 149, 3) := by decide +kernel
theorem dX7_nearest_38 : decode cX7_nearest 38 = .ok (.if_icmp .gt 7, 3) := by decide +kernel
theorem dX7_nearest_41 : decode cX7_nearest 41 = .ok (.iload_n 2, 1) := by decide +kernel
theorem dX7_nearest_42 : decode cX7_nearest 42 = .ok (.goto 4, 3) := by decide +kernel
theorem dX7_nearest_45 : decode cX7_nearest 45 = .ok (.iload_n 1, 1) := by decide +kernel
theorem dX7_nearest_46 : decode cX7_nearest 46 = .ok (.istore_n 1, 1) := by decide +kernel
theorem dX7_nearest_47 : decode cX7_nearest 47 = .ok (.iinc 2 (-1), 3) := by decide +kernel
theorem dX7_nearest_50 : decode cX7_nearest 50 = .ok (.goto (-44), 3) := by decide +kernel
theorem dX7_nearest_53 : decode cX7_nearest 53 = .ok (.iload_n 1, 1) := by decide +kernel
theorem dX7_nearest_54 : decode cX7_nearest 54 = .ok (.ireturn, 1) := by decide +kernel
theorem dX7_climb_0 : decode cX7_climb 0 = .ok (.aload_n 0, 1) := by decide +kernel
theorem dX7_climb_1 : decode cX7_climb 1 = .ok (.iload_n 1, 1) := by decide +kernel
theorem dX7_climb_2 : decode cX7_climb 2 = .ok (.putfield 66, 3) := by decide +kernel
theorem dX7_climb_5 : decode cX7_climb 5 = .ok (.aload_n 0, 1) := by decide +kernel
theorem dX7_climb_6 : decode cX7_climb 6 = .ok (.iconst 0, 1) := by decide +kernel
theorem dX7_climb_7 : decode cX7_climb 7 = .ok (.putfield 146, 3) := by decide +kernel
theorem dX7_climb_10 : decode cX7_climb 10 = .ok (.return_, 1) := by decide +kernel
set_option maxRecDepth 20000 in
theorem ggX7_sail_X7_ahead : GoodIn wsX7_sail wsX7_ahead := goodIn_r _ [8, 9, 10, 7, 11, 12, 13, 14, 15, 16, 17, 18, 19, 20, 21] (by decide +kernel) (by decide +kernel)
set_option maxRecDepth 20000 in
theorem gX7_sail_X7_ahead : GoodIn wsX7_sail (va_wsS RX7 137 yX7_ahead wsX7_ahead) := goodIn_app (goodIn_of _ (by decide +kernel)) ggX7_sail_X7_ahead
theorem dX7_sail_0 : decode cX7_sail 0 = .ok (.aload_n 0, 1) := by decide +kernel
theorem dX7_sail_1 : decode cX7_sail 1 = .ok (.getfield 59, 3) := by decide +kernel
theorem dX7_sail_4 : decode cX7_sail 4 = .ok (.iload_n 1, 1) := by decide +kernel
theorem dX7_sail_5 : decode cX7_sail 5 = .ok (.invokestatic 137, 3) := by decide +kernel
theorem dX7_sail_8 : decode cX7_sail 8 = .ok (.istore_n 2, 1) := by decide +kernel
theorem dX7_sail_9 : decode cX7_sail 9 = .ok (.aload_n 0, 1) := by decide +kernel
theorem dX7_sail_10 : decode cX7_sail 10 = .ok (.getfield 7, 3) := by decide +kernel
theorem dX7_sail_13 : decode cX7_sail 13 = .ok (.iload_n 2, 1) := by decide +kernel
theorem dX7_sail_14 : decode cX7_sail 14 = .ok (.iaload, 1) := by decide +kernel
theorem dX7_sail_15 : decode cX7_sail 15 = .ok (.iconst 1, 1) := by decide +kernel
theorem dX7_sail_16 : decode cX7_sail 16 = .ok (.if_icmp .ne 26, 3) := by decide +kernel
theorem dX7_sail_19 : decode cX7_sail 19 = .ok (.aload_n 0, 1) := by decide +kernel
theorem dX7_sail_20 : decode cX7_sail 20 = .ok (.dup, 1) := by decide +kernel
theorem dX7_sail_21 : decode cX7_sail 21 = .ok (.getfield 63, 3) := by decide +kernel
theorem dX7_sail_24 : decode cX7_sail 24 = .ok (.iconst 1, 1) := by decide +kernel
theorem dX7_sail_25 : decode cX7_sail 25 = .ok (.isub, 1) := by decide +kernel
theorem dX7_sail_26 : decode cX7_sail 26 = .ok (.putfield 63, 3) := by decide +kernel
theorem dX7_sail_29 : decode cX7_sail 29 = .ok (.aload_n 0, 1) := by decide +kernel
theorem dX7_sail_30 : decode cX7_sail 30 = .ok (.dup, 1) := by decide +kernel
theorem dX7_sail_31 : decode cX7_sail 31 = .ok (.getfield 158, 3) := by decide +kernel
theorem dX7_sail_34 : decode cX7_sail 34 = .ok (.iconst 1, 1) := by decide +kernel
theorem dX7_sail_35 : decode cX7_sail 35 = .ok (.iadd, 1) := by decide +kernel
theorem dX7_sail_36 : decode cX7_sail 36 = .ok (.putfield 158, 3) := by decide +kernel
theorem dX7_sail_39 : decode cX7_sail 39 = .ok (.goto 8, 3) := by decide +kernel
theorem dX7_sail_42 : decode cX7_sail 42 = .ok (.aload_n 0, 1) := by decide +kernel
theorem dX7_sail_43 : decode cX7_sail 43 = .ok (.iload_n 2, 1) := by decide +kernel
theorem dX7_sail_44 : decode cX7_sail 44 = .ok (.putfield 59, 3) := by decide +kernel
theorem dX7_sail_47 : decode cX7_sail 47 = .ok (.return_, 1) := by decide +kernel
set_option maxRecDepth 20000 in
theorem ggX7_call_X7_seenMany : GoodIn wsX7_call wsX7_seenMany := goodIn_r _ [7, 8, 9, 10, 6, 11, 12, 13, 14, 15, 16, 17, 18, 19, 20, 21, 22, 23, 24, 25, 26, 27, 28, 29, 30, 31, 32, 33, 34, 35, 36, 37, 38, 39, 40, 41, 42, 43, 44, 45, 46, 47, 48, 49, 50, 51, 52, 53, 54, 55, 56, 57, 58, 59, 60, 61] (by decide +kernel) (by decide +kernel)
set_option maxRecDepth 20000 in
theorem gX7_call_X7_seenMany : GoodIn wsX7_call (wsV RX7 167 RX7 yX7_seenMany wsX7_seenMany) := goodIn_app (goodIn_of _ (by decide +kernel)) ggX7_call_X7_seenMany
theorem dX7_call_0 : decode cX7_call 0 = .ok (.aload_n 0, 1) := by decide +kernel
theorem dX7_call_1 : decode cX7_call 1 = .ok (.dup, 1) := by decide +kernel
theorem dX7_call_2 : decode cX7_call 2 = .ok (.getfield 161, 3) := by decide +kernel
theorem dX7_call_5 : decode cX7_call 5 = .ok (.iconst 1, 1) := by decide +kernel
theorem dX7_call_6 : decode cX7_call 6 = .ok (.iadd, 1) := by decide +kernel
theorem dX7_call_7 : decode cX7_call 7 = .ok (.putfield 161, 3) := by decide +kernel
theorem dX7_call_10 : decode cX7_call 10 = .ok (.aload_n 0, 1) := by decide +kernel
theorem dX7_call_11 : decode cX7_call 11 = .ok (.dup, 1) := by decide +kernel
theorem dX7_call_12 : decode cX7_call 12 = .ok (.getfield 164, 3) := by decide +kernel
theorem dX7_call_15 : decode cX7_call 15 = .ok (.aload_n 0, 1) := by decide +kernel
theorem dX7_call_16 : decode cX7_call 16 = .ok (.invokevirtual 167, 3) := by decide +kernel
theorem dX7_call_19 : decode cX7_call 19 = .ok (.ifCond .ne 7, 3) := by decide +kernel
theorem dX7_call_22 : decode cX7_call 22 = .ok (.iconst 1, 1) := by decide +kernel
theorem dX7_call_23 : decode cX7_call 23 = .ok (.goto 4, 3) := by decide +kernel
theorem dX7_call_26 : decode cX7_call 26 = .ok (.iconst 0, 1) := by decide +kernel
theorem dX7_call_27 : decode cX7_call 27 = .ok (.iadd, 1) := by decide +kernel
theorem dX7_call_28 : decode cX7_call 28 = .ok (.putfield 164, 3) := by decide +kernel
theorem dX7_call_31 : decode cX7_call 31 = .ok (.return_, 1) := by decide +kernel
theorem dX7_passHour_0 : decode cX7_passHour 0 = .ok (.aload_n 0, 1) := by decide +kernel
theorem dX7_passHour_1 : decode cX7_passHour 1 = .ok (.dup, 1) := by decide +kernel
theorem dX7_passHour_2 : decode cX7_passHour 2 = .ok (.getfield 146, 3) := by decide +kernel
theorem dX7_passHour_5 : decode cX7_passHour 5 = .ok (.aload_n 0, 1) := by decide +kernel
theorem dX7_passHour_6 : decode cX7_passHour 6 = .ok (.getfield 66, 3) := by decide +kernel
theorem dX7_passHour_9 : decode cX7_passHour 9 = .ok (.ifCond .ge 7, 3) := by decide +kernel
theorem dX7_passHour_12 : decode cX7_passHour 12 = .ok (.iconst 0, 1) := by decide +kernel
theorem dX7_passHour_13 : decode cX7_passHour 13 = .ok (.goto 4, 3) := by decide +kernel
theorem dX7_passHour_16 : decode cX7_passHour 16 = .ok (.iconst 1, 1) := by decide +kernel
theorem dX7_passHour_17 : decode cX7_passHour 17 = .ok (.iadd, 1) := by decide +kernel
theorem dX7_passHour_18 : decode cX7_passHour 18 = .ok (.putfield 146, 3) := by decide +kernel
theorem dX7_passHour_21 : decode cX7_passHour 21 = .ok (.aload_n 0, 1) := by decide +kernel
theorem dX7_passHour_22 : decode cX7_passHour 22 = .ok (.dup, 1) := by decide +kernel
theorem dX7_passHour_23 : decode cX7_passHour 23 = .ok (.getfield 104, 3) := by decide +kernel
theorem dX7_passHour_26 : decode cX7_passHour 26 = .ok (.aload_n 0, 1) := by decide +kernel
theorem dX7_passHour_27 : decode cX7_passHour 27 = .ok (.getfield 104, 3) := by decide +kernel
theorem dX7_passHour_30 : decode cX7_passHour 30 = .ok (.ifCond .le 7, 3) := by decide +kernel
theorem dX7_passHour_33 : decode cX7_passHour 33 = .ok (.iconst 1, 1) := by decide +kernel
theorem dX7_passHour_34 : decode cX7_passHour 34 = .ok (.goto 4, 3) := by decide +kernel
theorem dX7_passHour_37 : decode cX7_passHour 37 = .ok (.iconst 0, 1) := by decide +kernel
theorem dX7_passHour_38 : decode cX7_passHour 38 = .ok (.isub, 1) := by decide +kernel
theorem dX7_passHour_39 : decode cX7_passHour 39 = .ok (.putfield 104, 3) := by decide +kernel
theorem dX7_passHour_42 : decode cX7_passHour 42 = .ok (.aload_n 0, 1) := by decide +kernel
theorem dX7_passHour_43 : decode cX7_passHour 43 = .ok (.dup, 1) := by decide +kernel
theorem dX7_passHour_44 : decode cX7_passHour 44 = .ok (.getfield 143, 3) := by decide +kernel
theorem dX7_passHour_47 : decode cX7_passHour 47 = .ok (.iconst 1, 1) := by decide +kernel
theorem dX7_passHour_48 : decode cX7_passHour 48 = .ok (.iadd, 1) := by decide +kernel
theorem dX7_passHour_49 : decode cX7_passHour 49 = .ok (.putfield 143, 3) := by decide +kernel
theorem dX7_passHour_52 : decode cX7_passHour 52 = .ok (.return_, 1) := by decide +kernel
set_option maxRecDepth 20000 in
theorem ggX7_happen_X7_climb : GoodIn wsX7_happen wsX7_climb := goodIn_r _ [6, 7, 8, 63, 64, 65, 66, 67, 68, 69, 70, 71, 72, 73, 74, 75, 76, 77, 78, 79, 80, 81, 82, 83, 84, 85, 86, 87, 88, 89, 90, 91, 92, 93, 94, 95, 96] (by decide +kernel) (by decide +kernel)
set_option maxRecDepth 20000 in
theorem gX7_happen_X7_climb : GoodIn wsX7_happen (wsV RX7 170 RX7 yX7_climb wsX7_climb) := goodIn_app (goodIn_of _ (by decide +kernel)) ggX7_happen_X7_climb
set_option maxRecDepth 20000 in
theorem ggX7_happen_X7_sail : GoodIn wsX7_happen wsX7_sail := goodIn_r _ [12, 13, 14, 15, 16, 17, 18, 5, 19, 20, 21, 22, 23, 24, 25, 26, 27, 28, 29, 30, 31, 32, 63, 64, 65, 66, 67, 68, 69, 70, 71, 72, 73, 74, 75, 76, 77, 78, 79, 80, 81, 82, 83, 84, 85, 86, 87, 88, 89, 90, 91, 92, 93, 94, 95, 96] (by decide +kernel) (by decide +kernel)
set_option maxRecDepth 20000 in
theorem gX7_happen_X7_sail : GoodIn wsX7_happen (wsV RX7 174 RX7 yX7_sail wsX7_sail) := goodIn_app (goodIn_of _ (by decide +kernel)) ggX7_happen_X7_sail
set_option maxRecDepth 20000 in
theorem ggX7_happen_X7_call : GoodIn wsX7_happen wsX7_call := goodIn_r _ [36, 37, 38, 39, 40, 41, 5, 42, 43, 44, 45, 46, 14, 13, 47, 48, 49, 50, 51, 52, 53, 54, 55, 56, 57, 7, 1, 8, 63, 64, 65, 66, 67, 68, 69, 70, 71, 72, 73, 74, 75, 76, 77, 78, 79, 80, 81, 82, 83, 84, 85, 86, 87, 88, 89, 90, 91, 92, 93, 94, 95, 96] (by decide +kernel) (by decide +kernel)
set_option maxRecDepth 20000 in
theorem gX7_happen_X7_call : GoodIn wsX7_happen (wsV RX7 177 RX7 yX7_call wsX7_call) := goodIn_app (goodIn_of _ (by decide +kernel)) ggX7_happen_X7_call
set_option maxRecDepth 20000 in
theorem ggX7_happen_X7_passHour : GoodIn wsX7_happen wsX7_passHour := goodIn_r _ [61, 8, 7, 1, 62, 63, 64, 65, 66, 67, 68, 69, 70, 71, 72, 73, 74, 75, 76, 77, 78, 79, 80, 81, 82, 83, 84, 85, 86, 87, 88, 89, 90, 91, 92, 93, 94, 95, 96] (by decide +kernel) (by decide +kernel)
set_option maxRecDepth 20000 in
theorem gX7_happen_X7_passHour : GoodIn wsX7_happen (wsV RX7 180 RX7 yX7_passHour wsX7_passHour) := goodIn_app (goodIn_of _ (by decide +kernel)) ggX7_happen_X7_passHour
theorem dX7_happen_0 : decode cX7_happen 0 = .ok (.iload_n 1, 1) := by decide +kernel
theorem dX7_happen_1 : decode cX7_happen 1 = .ok (.tableswitch 75 0 4 #[35, 43, 52, 60, 68], 35) := by decide +kernel
theorem dX7_happen_36 : decode cX7_happen 36 = .ok (.aload_n 0, 1) := by decide +kernel
theorem dX7_happen_37 : decode cX7_happen 37 = .ok (.iload_n 2, 1) := by decide +kernel
theorem dX7_happen_38 : decode cX7_happen 38 = .ok (.invokevirtual 170, 3) := by decide +kernel
theorem dX7_happen_41 : decode cX7_happen 41 = .ok (.goto 39, 3) := by decide +kernel
theorem dX7_happen_44 : decode cX7_happen 44 = .ok (.aload_n 0, 1) := by decide +kernel
theorem dX7_happen_45 : decode cX7_happen 45 = .ok (.bipush (-6), 2) := by decide +kernel
theorem dX7_happen_47 : decode cX7_happen 47 = .ok (.invokevirtual 170, 3) := by decide +kernel
theorem dX7_happen_50 : decode cX7_happen 50 = .ok (.goto 30, 3) := by decide +kernel
theorem dX7_happen_53 : decode cX7_happen 53 = .ok (.aload_n 0, 1) := by decide +kernel
theorem dX7_happen_54 : decode cX7_happen 54 = .ok (.iload_n 2, 1) := by decide +kernel
theorem dX7_happen_55 : decode cX7_happen 55 = .ok (.invokevirtual 174, 3) := by decide +kernel
theorem dX7_happen_58 : decode cX7_happen 58 = .ok (.goto 22, 3) := by decide +kernel
theorem dX7_happen_61 : decode cX7_happen 61 = .ok (.aload_n 0, 1) := by decide +kernel
theorem dX7_happen_62 : decode cX7_happen 62 = .ok (.iload_n 2, 1) := by decide +kernel
theorem dX7_happen_63 : decode cX7_happen 63 = .ok (.putfield 104, 3) := by decide +kernel
theorem dX7_happen_66 : decode cX7_happen 66 = .ok (.goto 14, 3) := by decide +kernel
theorem dX7_happen_69 : decode cX7_happen 69 = .ok (.aload_n 0, 1) := by decide +kernel
theorem dX7_happen_70 : decode cX7_happen 70 = .ok (.invokevirtual 177, 3) := by decide +kernel
theorem dX7_happen_73 : decode cX7_happen 73 = .ok (.goto 7, 3) := by decide +kernel
theorem dX7_happen_76 : decode cX7_happen 76 = .ok (.aload_n 0, 1) := by decide +kernel
theorem dX7_happen_77 : decode cX7_happen 77 = .ok (.invokevirtual 180, 3) := by decide +kernel
theorem dX7_happen_80 : decode cX7_happen 80 = .ok (.return_, 1) := by decide +kernel
theorem dX7_keepNow_0 : decode cX7_keepNow 0 = .ok (.aload_n 0, 1) := by decide +kernel
theorem dX7_keepNow_1 : decode cX7_keepNow 1 = .ok (.getfield 34, 3) := by decide +kernel
theorem dX7_keepNow_4 : decode cX7_keepNow 4 = .ok (.iconst 0, 1) := by decide +kernel
theorem dX7_keepNow_5 : decode cX7_keepNow 5 = .ok (.aload_n 0, 1) := by decide +kernel
theorem dX7_keepNow_6 : decode cX7_keepNow 6 = .ok (.getfield 59, 3) := by decide +kernel
theorem dX7_keepNow_9 : decode cX7_keepNow 9 = .ok (.iastore, 1) := by decide +kernel
theorem dX7_keepNow_10 : decode cX7_keepNow 10 = .ok (.aload_n 0, 1) := by decide +kernel
theorem dX7_keepNow_11 : decode cX7_keepNow 11 = .ok (.getfield 34, 3) := by decide +kernel
theorem dX7_keepNow_14 : decode cX7_keepNow 14 = .ok (.iconst 1, 1) := by decide +kernel
theorem dX7_keepNow_15 : decode cX7_keepNow 15 = .ok (.aload_n 0, 1) := by decide +kernel
theorem dX7_keepNow_16 : decode cX7_keepNow 16 = .ok (.getfield 63, 3) := by decide +kernel
theorem dX7_keepNow_19 : decode cX7_keepNow 19 = .ok (.iastore, 1) := by decide +kernel
theorem dX7_keepNow_20 : decode cX7_keepNow 20 = .ok (.aload_n 0, 1) := by decide +kernel
theorem dX7_keepNow_21 : decode cX7_keepNow 21 = .ok (.getfield 34, 3) := by decide +kernel
theorem dX7_keepNow_24 : decode cX7_keepNow 24 = .ok (.iconst 2, 1) := by decide +kernel
theorem dX7_keepNow_25 : decode cX7_keepNow 25 = .ok (.aload_n 0, 1) := by decide +kernel
theorem dX7_keepNow_26 : decode cX7_keepNow 26 = .ok (.getfield 66, 3) := by decide +kernel
theorem dX7_keepNow_29 : decode cX7_keepNow 29 = .ok (.iastore, 1) := by decide +kernel
theorem dX7_keepNow_30 : decode cX7_keepNow 30 = .ok (.aload_n 0, 1) := by decide +kernel
theorem dX7_keepNow_31 : decode cX7_keepNow 31 = .ok (.getfield 34, 3) := by decide +kernel
theorem dX7_keepNow_34 : decode cX7_keepNow 34 = .ok (.iconst 3, 1) := by decide +kernel
theorem dX7_keepNow_35 : decode cX7_keepNow 35 = .ok (.aload_n 0, 1) := by decide +kernel
theorem dX7_keepNow_36 : decode cX7_keepNow 36 = .ok (.getfield 146, 3) := by decide +kernel
theorem dX7_keepNow_39 : decode cX7_keepNow 39 = .ok (.iastore, 1) := by decide +kernel
theorem dX7_keepNow_40 : decode cX7_keepNow 40 = .ok (.aload_n 0, 1) := by decide +kernel
theorem dX7_keepNow_41 : decode cX7_keepNow 41 = .ok (.getfield 34, 3) := by decide +kernel
theorem dX7_keepNow_44 : decode cX7_keepNow 44 = .ok (.iconst 4, 1) := by decide +kernel
theorem dX7_keepNow_45 : decode cX7_keepNow 45 = .ok (.aload_n 0, 1) := by decide +kernel
theorem dX7_keepNow_46 : decode cX7_keepNow 46 = .ok (.getfield 104, 3) := by decide +kernel
theorem dX7_keepNow_49 : decode cX7_keepNow 49 = .ok (.iastore, 1) := by decide +kernel
theorem dX7_keepNow_50 : decode cX7_keepNow 50 = .ok (.aload_n 0, 1) := by decide +kernel
theorem dX7_keepNow_51 : decode cX7_keepNow 51 = .ok (.getfield 34, 3) := by decide +kernel
theorem dX7_keepNow_54 : decode cX7_keepNow 54 = .ok (.iconst 5, 1) := by decide +kernel
theorem dX7_keepNow_55 : decode cX7_keepNow 55 = .ok (.aload_n 0, 1) := by decide +kernel
theorem dX7_keepNow_56 : decode cX7_keepNow 56 = .ok (.getfield 143, 3) := by decide +kernel
theorem dX7_keepNow_59 : decode cX7_keepNow 59 = .ok (.iastore, 1) := by decide +kernel
theorem dX7_keepNow_60 : decode cX7_keepNow 60 = .ok (.return_, 1) := by decide +kernel
theorem dX7_back_0 : decode cX7_back 0 = .ok (.aload_n 0, 1) := by decide +kernel
theorem dX7_back_1 : decode cX7_back 1 = .ok (.aload_n 0, 1) := by decide +kernel
theorem dX7_back_2 : decode cX7_back 2 = .ok (.getfield 34, 3) := by decide +kernel
theorem dX7_back_5 : decode cX7_back 5 = .ok (.iconst 0, 1) := by decide +kernel
theorem dX7_back_6 : decode cX7_back 6 = .ok (.iaload, 1) := by decide +kernel
theorem dX7_back_7 : decode cX7_back 7 = .ok (.putfield 59, 3) := by decide +kernel
theorem dX7_back_10 : decode cX7_back 10 = .ok (.aload_n 0, 1) := by decide +kernel
theorem dX7_back_11 : decode cX7_back 11 = .ok (.aload_n 0, 1) := by decide +kernel
theorem dX7_back_12 : decode cX7_back 12 = .ok (.getfield 34, 3) := by decide +kernel
theorem dX7_back_15 : decode cX7_back 15 = .ok (.iconst 1, 1) := by decide +kernel
theorem dX7_back_16 : decode cX7_back 16 = .ok (.iaload, 1) := by decide +kernel
theorem dX7_back_17 : decode cX7_back 17 = .ok (.putfield 63, 3) := by decide +kernel
theorem dX7_back_20 : decode cX7_back 20 = .ok (.aload_n 0, 1) := by decide +kernel
theorem dX7_back_21 : decode cX7_back 21 = .ok (.aload_n 0, 1) := by decide +kernel
theorem dX7_back_22 : decode cX7_back 22 = .ok (.getfield 34, 3) := by decide +kernel
theorem dX7_back_25 : decode cX7_back 25 = .ok (.iconst 2, 1) := by decide +kernel
theorem dX7_back_26 : decode cX7_back 26 = .ok (.iaload, 1) := by decide +kernel
theorem dX7_back_27 : decode cX7_back 27 = .ok (.putfield 66, 3) := by decide +kernel
theorem dX7_back_30 : decode cX7_back 30 = .ok (.aload_n 0, 1) := by decide +kernel
theorem dX7_back_31 : decode cX7_back 31 = .ok (.aload_n 0, 1) := by decide +kernel
theorem dX7_back_32 : decode cX7_back 32 = .ok (.getfield 34, 3) := by decide +kernel
theorem dX7_back_35 : decode cX7_back 35 = .ok (.iconst 3, 1) := by decide +kernel
theorem dX7_back_36 : decode cX7_back 36 = .ok (.iaload, 1) := by decide +kernel
theorem dX7_back_37 : decode cX7_back 37 = .ok (.putfield 146, 3) := by decide +kernel
theorem dX7_back_40 : decode cX7_back 40 = .ok (.aload_n 0, 1) := by decide +kernel
theorem dX7_back_41 : decode cX7_back 41 = .ok (.aload_n 0, 1) := by decide +kernel
theorem dX7_back_42 : decode cX7_back 42 = .ok (.getfield 34, 3) := by decide +kernel
theorem dX7_back_45 : decode cX7_back 45 = .ok (.iconst 4, 1) := by decide +kernel
theorem dX7_back_46 : decode cX7_back 46 = .ok (.iaload, 1) := by decide +kernel
theorem dX7_back_47 : decode cX7_back 47 = .ok (.putfield 104, 3) := by decide +kernel
theorem dX7_back_50 : decode cX7_back 50 = .ok (.aload_n 0, 1) := by decide +kernel
theorem dX7_back_51 : decode cX7_back 51 = .ok (.aload_n 0, 1) := by decide +kernel
theorem dX7_back_52 : decode cX7_back 52 = .ok (.getfield 34, 3) := by decide +kernel
theorem dX7_back_55 : decode cX7_back 55 = .ok (.iconst 5, 1) := by decide +kernel
theorem dX7_back_56 : decode cX7_back 56 = .ok (.iaload, 1) := by decide +kernel
theorem dX7_back_57 : decode cX7_back 57 = .ok (.putfield 143, 3) := by decide +kernel
theorem dX7_back_60 : decode cX7_back 60 = .ok (.iload_n 1, 1) := by decide +kernel
theorem dX7_back_61 : decode cX7_back 61 = .ok (.ireturn, 1) := by decide +kernel
set_option maxRecDepth 20000 in
theorem ggX7_goVoyages_X7_whyNot : GoodIn wsX7_goVoyages wsX7_whyNot := goodIn_r _ [14, 15, 16, 17, 18, 19, 20, 13, 21, 22, 23, 24, 25, 26, 27, 28, 29, 30, 31, 32, 33, 34, 35, 36, 37, 38, 39, 81, 82, 83, 84, 85, 86, 87, 88, 89, 90, 91, 92, 93, 94, 95, 96, 97, 98, 99, 100, 101, 102, 103, 104, 105, 106, 107, 108, 109, 110, 111, 112, 113, 114] (by decide +kernel) (by decide +kernel)
set_option maxRecDepth 20000 in
theorem gX7_goVoyages_X7_whyNot : GoodIn wsX7_goVoyages (wsV RX7 192 RX7 yX7_whyNot wsX7_whyNot) := goodIn_app (goodIn_of _ (by decide +kernel)) ggX7_goVoyages_X7_whyNot
set_option maxRecDepth 20000 in
theorem ggX7_goVoyages_X7_happen : GoodIn wsX7_goVoyages wsX7_happen := goodIn_r _ [43, 16, 44, 45, 46, 13, 47, 15, 48, 49, 50, 51, 52, 23, 53, 22, 4, 24, 25, 26, 27, 28, 29, 30, 31, 32, 33, 34, 35, 36, 37, 38, 39, 54, 55, 56, 57, 5, 6, 58, 59, 60, 61, 62, 63, 64, 65, 66, 67, 68, 69, 70, 71, 72, 73, 74, 75, 76, 77, 78, 79, 80, 17, 81, 82, 83, 84, 85, 86, 87, 88, 89, 90, 91, 92, 93, 94, 95, 96, 97, 98, 99, 100, 101, 102, 103, 104, 105, 106, 107, 108, 109, 110, 111, 112, 113, 114] (by decide +kernel) (by decide +kernel)
set_option maxRecDepth 20000 in
theorem gX7_goVoyages_X7_happen : GoodIn wsX7_goVoyages (wsV RX7 195 RX7 yX7_happen wsX7_happen) := goodIn_app (goodIn_of _ (by decide +kernel)) ggX7_goVoyages_X7_happen
theorem dX7_goVoyages_0 : decode cX7_goVoyages 0 = .ok (.aload_n 0, 1) := by decide +kernel
theorem dX7_goVoyages_1 : decode cX7_goVoyages 1 = .ok (.bipush (-6), 2) := by decide +kernel
theorem dX7_goVoyages_3 : decode cX7_goVoyages 3 = .ok (.putfield 183, 3) := by decide +kernel
theorem dX7_goVoyages_6 : decode cX7_goVoyages 6 = .ok (.aload_n 0, 1) := by decide +kernel
theorem dX7_goVoyages_7 : decode cX7_goVoyages 7 = .ok (.bipush (-6), 2) := by decide +kernel
theorem dX7_goVoyages_9 : decode cX7_goVoyages 9 = .ok (.putfield 186, 3) := by decide +kernel
theorem dX7_goVoyages_12 : decode cX7_goVoyages 12 = .ok (.aload_n 0, 1) := by decide +kernel
theorem dX7_goVoyages_13 : decode cX7_goVoyages 13 = .ok (.bipush (-6), 2) := by decide +kernel
theorem dX7_goVoyages_15 : decode cX7_goVoyages 15 = .ok (.putfield 189, 3) := by decide +kernel
theorem dX7_goVoyages_18 : decode cX7_goVoyages 18 = .ok (.aload_n 0, 1) := by decide +kernel
theorem dX7_goVoyages_19 : decode cX7_goVoyages 19 = .ok (.iconst 0, 1) := by decide +kernel
theorem dX7_goVoyages_20 : decode cX7_goVoyages 20 = .ok (.putfield 158, 3) := by decide +kernel
theorem dX7_goVoyages_23 : decode cX7_goVoyages 23 = .ok (.aload_n 0, 1) := by decide +kernel
theorem dX7_goVoyages_24 : decode cX7_goVoyages 24 = .ok (.iconst 0, 1) := by decide +kernel
theorem dX7_goVoyages_25 : decode cX7_goVoyages 25 = .ok (.putfield 161, 3) := by decide +kernel
theorem dX7_goVoyages_28 : decode cX7_goVoyages 28 = .ok (.aload_n 0, 1) := by decide +kernel
theorem dX7_goVoyages_29 : decode cX7_goVoyages 29 = .ok (.iconst 0, 1) := by decide +kernel
theorem dX7_goVoyages_30 : decode cX7_goVoyages 30 = .ok (.putfield 164, 3) := by decide +kernel
theorem dX7_goVoyages_33 : decode cX7_goVoyages 33 = .ok (.iconst 0, 1) := by decide +kernel
theorem dX7_goVoyages_34 : decode cX7_goVoyages 34 = .ok (.istore_n 1, 1) := by decide +kernel
theorem dX7_goVoyages_35 : decode cX7_goVoyages 35 = .ok (.iload_n 1, 1) := by decide +kernel
theorem dX7_goVoyages_36 : decode cX7_goVoyages 36 = .ok (.aload_n 0, 1) := by decide +kernel
theorem dX7_goVoyages_37 : decode cX7_goVoyages 37 = .ok (.getfield 114, 3) := by decide +kernel
theorem dX7_goVoyages_40 : decode cX7_goVoyages 40 = .ok (.if_icmp .ge 107, 3) := by decide +kernel
theorem dX7_goVoyages_43 : decode cX7_goVoyages 43 = .ok (.aload_n 0, 1) := by decide +kernel
theorem dX7_goVoyages_44 : decode cX7_goVoyages 44 = .ok (.getfield 183, 3) := by decide +kernel
theorem dX7_goVoyages_47 : decode cX7_goVoyages 47 = .ok (.ifCond .ge 100, 3) := by decide +kernel
theorem dX7_goVoyages_50 : decode cX7_goVoyages 50 = .ok (.aload_n 0, 1) := by decide +kernel
theorem dX7_goVoyages_51 : decode cX7_goVoyages 51 = .ok (.aload_n 0, 1) := by decide +kernel
theorem dX7_goVoyages_52 : decode cX7_goVoyages 52 = .ok (.getfield 28, 3) := by decide +kernel
theorem dX7_goVoyages_55 : decode cX7_goVoyages 55 = .ok (.iload_n 1, 1) := by decide +kernel
theorem dX7_goVoyages_56 : decode cX7_goVoyages 56 = .ok (.iaload, 1) := by decide +kernel
theorem dX7_goVoyages_57 : decode cX7_goVoyages 57 = .ok (.aload_n 0, 1) := by decide +kernel
theorem dX7_goVoyages_58 : decode cX7_goVoyages 58 = .ok (.getfield 31, 3) := by decide +kernel
theorem dX7_goVoyages_61 : decode cX7_goVoyages 61 = .ok (.iload_n 1, 1) := by decide +kernel
theorem dX7_goVoyages_62 : decode cX7_goVoyages 62 = .ok (.iaload, 1) := by decide +kernel
theorem dX7_goVoyages_63 : decode cX7_goVoyages 63 = .ok (.invokevirtual 192, 3) := by decide +kernel
theorem dX7_goVoyages_66 : decode cX7_goVoyages 66 = .ok (.istore_n 2, 1) := by decide +kernel
theorem dX7_goVoyages_67 : decode cX7_goVoyages 67 = .ok (.aload_n 0, 1) := by decide +kernel
theorem dX7_goVoyages_68 : decode cX7_goVoyages 68 = .ok (.iload_n 2, 1) := by decide +kernel
theorem dX7_goVoyages_69 : decode cX7_goVoyages 69 = .ok (.ifCond .le 7, 3) := by decide +kernel
theorem dX7_goVoyages_72 : decode cX7_goVoyages 72 = .ok (.iload_n 1, 1) := by decide +kernel
theorem dX7_goVoyages_73 : decode cX7_goVoyages 73 = .ok (.goto 5, 3) := by decide +kernel
theorem dX7_goVoyages_76 : decode cX7_goVoyages 76 = .ok (.bipush (-6), 2) := by decide +kernel
theorem dX7_goVoyages_78 : decode cX7_goVoyages 78 = .ok (.putfield 183, 3) := by decide +kernel
theorem dX7_goVoyages_81 : decode cX7_goVoyages 81 = .ok (.aload_n 0, 1) := by decide +kernel
theorem dX7_goVoyages_82 : decode cX7_goVoyages 82 = .ok (.iload_n 2, 1) := by decide +kernel
theorem dX7_goVoyages_83 : decode cX7_goVoyages 83 = .ok (.ifCond .le 7, 3) := by decide +kernel
theorem dX7_goVoyages_86 : decode cX7_goVoyages 86 = .ok (.iload_n 2, 1) := by decide +kernel
theorem dX7_goVoyages_87 : decode cX7_goVoyages 87 = .ok (.goto 5, 3) := by decide +kernel
theorem dX7_goVoyages_90 : decode cX7_goVoyages 90 = .ok (.bipush (-6), 2) := by decide +kernel
theorem dX7_goVoyages_92 : decode cX7_goVoyages 92 = .ok (.putfield 186, 3) := by decide +kernel
theorem dX7_goVoyages_95 : decode cX7_goVoyages 95 = .ok (.iload_n 2, 1) := by decide +kernel
theorem dX7_goVoyages_96 : decode cX7_goVoyages 96 = .ok (.ifCond .ne 19, 3) := by decide +kernel
theorem dX7_goVoyages_99 : decode cX7_goVoyages 99 = .ok (.aload_n 0, 1) := by decide +kernel
theorem dX7_goVoyages_100 : decode cX7_goVoyages 100 = .ok (.aload_n 0, 1) := by decide +kernel
theorem dX7_goVoyages_101 : decode cX7_goVoyages 101 = .ok (.getfield 28, 3) := by decide +kernel
theorem dX7_goVoyages_104 : decode cX7_goVoyages 104 = .ok (.iload_n 1, 1) := by decide +kernel
theorem dX7_goVoyages_105 : decode cX7_goVoyages 105 = .ok (.iaload, 1) := by decide +kernel
theorem dX7_goVoyages_106 : decode cX7_goVoyages 106 = .ok (.aload_n 0, 1) := by decide +kernel
theorem dX7_goVoyages_107 : decode cX7_goVoyages 107 = .ok (.getfield 31, 3) := by decide +kernel
theorem dX7_goVoyages_110 : decode cX7_goVoyages 110 = .ok (.iload_n 1, 1) := by decide +kernel
theorem dX7_goVoyages_111 : decode cX7_goVoyages 111 = .ok (.iaload, 1) := by decide +kernel
theorem dX7_goVoyages_112 : decode cX7_goVoyages 112 = .ok (.invokevirtual 195, 3) := by decide +kernel
theorem dX7_goVoyages_115 : decode cX7_goVoyages 115 = .ok (.aload_n 0, 1) := by decide +kernel
theorem dX7_goVoyages_116 : decode cX7_goVoyages 116 = .ok (.aload_n 0, 1) := by decide +kernel
theorem dX7_goVoyages_117 : decode cX7_goVoyages 117 = .ok (.getfield 164, 3) := by decide +kernel
theorem dX7_goVoyages_120 : decode cX7_goVoyages 120 = .ok (.ifCond .le 14, 3) := by decide +kernel
theorem dX7_goVoyages_123 : decode cX7_goVoyages 123 = .ok (.aload_n 0, 1) := by decide +kernel
theorem dX7_goVoyages_124 : decode cX7_goVoyages 124 = .ok (.getfield 189, 3) := by decide +kernel
theorem dX7_goVoyages_127 : decode cX7_goVoyages 127 = .ok (.ifCond .ge 7, 3) := by decide +kernel
theorem dX7_goVoyages_130 : decode cX7_goVoyages 130 = .ok (.iload_n 1, 1) := by decide +kernel
theorem dX7_goVoyages_131 : decode cX7_goVoyages 131 = .ok (.goto 7, 3) := by decide +kernel
theorem dX7_goVoyages_134 : decode cX7_goVoyages 134 = .ok (.aload_n 0, 1) := by decide +kernel
theorem dX7_goVoyages_135 : decode cX7_goVoyages 135 = .ok (.getfield 189, 3) := by decide +kernel
theorem dX7_goVoyages_138 : decode cX7_goVoyages 138 = .ok (.putfield 189, 3) := by decide +kernel
theorem dX7_goVoyages_141 : decode cX7_goVoyages 141 = .ok (.iinc 1 1, 3) := by decide +kernel
theorem dX7_goVoyages_144 : decode cX7_goVoyages 144 = .ok (.goto (-109), 3) := by decide +kernel
theorem dX7_goVoyages_147 : decode cX7_goVoyages 147 = .ok (.return_, 1) := by decide +kernel
set_option maxRecDepth 20000 in
theorem ggX7_refusal_X7_keepNow : GoodIn wsX7_refusal wsX7_keepNow := goodIn_r _ [6, 7, 8, 9, 10, 11, 12, 13, 116, 117, 118, 119, 120, 121, 122, 123, 124, 125, 126, 127, 128, 129, 130, 131, 132, 133, 134, 135, 136, 137, 138, 139, 140, 141, 142, 143, 144, 145, 146, 147, 148, 149] (by decide +kernel) (by decide +kernel)
set_option maxRecDepth 20000 in
theorem gX7_refusal_X7_keepNow : GoodIn wsX7_refusal (wsV RX7 199 RX7 yX7_keepNow wsX7_keepNow) := goodIn_app (goodIn_of _ (by decide +kernel)) ggX7_refusal_X7_keepNow
set_option maxRecDepth 20000 in
theorem ggX7_refusal_X7_fault : GoodIn wsX7_refusal wsX7_fault := goodIn_r _ [17, 18, 19, 20, 21, 22, 23, 5, 24, 25, 26, 27, 28, 29, 30, 31, 32, 33, 34, 35, 36, 37, 38, 39, 40, 41, 42, 43, 44, 45, 116, 117, 118, 119, 120, 121, 122, 123, 124, 125, 126, 127, 128, 129, 130, 131, 132, 133, 134, 135, 136, 137, 138, 139, 140, 141, 142, 143, 144, 145, 146, 147, 148, 149] (by decide +kernel) (by decide +kernel)
set_option maxRecDepth 20000 in
theorem gX7_refusal_X7_fault : GoodIn wsX7_refusal (wsV RX7 202 RX7 yX7_fault wsX7_fault) := goodIn_app (goodIn_of _ (by decide +kernel)) ggX7_refusal_X7_fault
set_option maxRecDepth 20000 in
theorem ggX7_refusal_X7_goVoyages : GoodIn wsX7_refusal wsX7_goVoyages := goodIn_r _ [49, 1, 50, 51, 52, 53, 54, 18, 39, 31, 55, 56, 57, 5, 58, 10, 12, 13, 59, 60, 61, 62, 9, 8, 63, 64, 65, 66, 67, 68, 69, 70, 71, 72, 73, 74, 75, 32, 33, 34, 76, 77, 78, 79, 80, 81, 82, 83, 11, 84, 85, 86, 87, 88, 89, 90, 91, 92, 93, 94, 95, 96, 97, 98, 99, 100, 101, 102, 103, 104, 105, 106, 107, 108, 109, 110, 111, 112, 113, 114, 115, 116, 117, 118, 119, 120, 121, 122, 123, 124, 125, 126, 127, 128, 129, 130, 131, 132, 133, 134, 135, 136, 137, 138, 139, 140, 141, 142, 143, 144, 145, 146, 147, 148, 149] (by decide +kernel) (by decide +kernel)
set_option maxRecDepth 20000 in
theorem gX7_refusal_X7_goVoyages : GoodIn wsX7_refusal (wsV RX7 205 RX7 yX7_goVoyages wsX7_goVoyages) := goodIn_app (goodIn_of _ (by decide +kernel)) ggX7_refusal_X7_goVoyages
theorem dX7_refusal_0 : decode cX7_refusal 0 = .ok (.aload_n 0, 1) := by decide +kernel
theorem dX7_refusal_1 : decode cX7_refusal 1 = .ok (.invokevirtual 199, 3) := by decide +kernel
theorem dX7_refusal_4 : decode cX7_refusal 4 = .ok (.aload_n 0, 1) := by decide +kernel
theorem dX7_refusal_5 : decode cX7_refusal 5 = .ok (.invokevirtual 202, 3) := by decide +kernel
theorem dX7_refusal_8 : decode cX7_refusal 8 = .ok (.ifCond .lt 6, 3) := by decide +kernel
theorem dX7_refusal_11 : decode cX7_refusal 11 = .ok (.bipush (-5), 2) := by decide +kernel
theorem dX7_refusal_13 : decode cX7_refusal 13 = .ok (.ireturn, 1) := by decide +kernel
theorem dX7_refusal_14 : decode cX7_refusal 14 = .ok (.aload_n 0, 1) := by decide +kernel
theorem dX7_refusal_15 : decode cX7_refusal 15 = .ok (.invokevirtual 205, 3) := by decide +kernel
theorem dX7_refusal_18 : decode cX7_refusal 18 = .ok (.aload_n 0, 1) := by decide +kernel
theorem dX7_refusal_19 : decode cX7_refusal 19 = .ok (.getfield 183, 3) := by decide +kernel
theorem dX7_refusal_22 : decode cX7_refusal 22 = .ok (.ifCond .lt 8, 3) := by decide +kernel
theorem dX7_refusal_25 : decode cX7_refusal 25 = .ok (.bipush (-3), 2) := by decide +kernel
theorem dX7_refusal_27 : decode cX7_refusal 27 = .ok (.goto 5, 3) := by decide +kernel
theorem dX7_refusal_30 : decode cX7_refusal 30 = .ok (.bipush (-6), 2) := by decide +kernel
theorem dX7_refusal_32 : decode cX7_refusal 32 = .ok (.ireturn, 1) := by decide +kernel
set_option maxRecDepth 20000 in
theorem ggX7_judge_X7_in : GoodIn wsX7_judge wsX7_in := goodIn_r _ [8] (by decide +kernel) (by decide +kernel)
set_option maxRecDepth 20000 in
theorem gX7_judge_X7_in : GoodIn wsX7_judge (va_wsS RX7 71 yX7_in wsX7_in) := goodIn_app (goodIn_of _ (by decide +kernel)) ggX7_judge_X7_in
set_option maxRecDepth 20000 in
theorem ggX7_judge_X7_refusal : GoodIn wsX7_judge wsX7_refusal := goodIn_r _ [12, 2, 13, 14, 15, 7, 16, 17, 18, 19, 20, 21, 22, 23, 24, 25, 26, 27, 28, 29, 30, 31, 32, 33, 34, 35, 36, 37, 38, 39, 40, 41, 5, 6, 8, 42, 43, 44, 45, 46, 47, 48, 49, 50, 51, 52, 53, 54, 55, 56, 3, 57, 4, 58, 59, 60, 61, 62, 63, 64, 65, 66, 67, 68, 69, 70, 71, 72, 73, 74, 75, 76, 77, 78, 79, 80, 81, 82, 83, 84, 85, 86, 87, 88, 89, 90, 91, 92, 93, 94, 95, 96, 97, 98, 99, 100, 101, 102, 103, 104, 105, 106, 107, 108, 109, 110, 111, 112, 113, 114, 115, 116, 117, 118, 119, 120, 125, 126, 127, 128, 129, 130, 131, 132, 133, 134, 135, 136, 137, 138, 139, 140, 141, 142, 143, 144, 145, 146, 147, 148, 149, 150, 151, 152, 153, 154, 155, 156, 157, 158] (by decide +kernel) (by decide +kernel)
set_option maxRecDepth 20000 in
theorem gX7_judge_X7_refusal : GoodIn wsX7_judge (wsV RX7 210 RX7 yX7_refusal wsX7_refusal) := goodIn_app (goodIn_of _ (by decide +kernel)) ggX7_judge_X7_refusal
set_option maxRecDepth 20000 in
theorem ggX7_judge_X7_back : GoodIn wsX7_judge wsX7_back := goodIn_r _ [124, 17, 18, 19, 20, 21, 22, 23, 125, 126, 127, 128, 129, 130, 131, 132, 133, 134, 135, 136, 137, 138, 139, 140, 141, 142, 143, 144, 145, 146, 147, 148, 149, 150, 151, 152, 153, 154, 155, 156, 157, 158] (by decide +kernel) (by decide +kernel)
set_option maxRecDepth 20000 in
theorem gX7_judge_X7_back : GoodIn wsX7_judge (wsV RX7 213 RX7 yX7_back wsX7_back) := goodIn_app (goodIn_of _ (by decide +kernel)) ggX7_judge_X7_back
theorem dX7_judge_0 : decode cX7_judge 0 = .ok (.iload_n 1, 1) := by decide +kernel
theorem dX7_judge_1 : decode cX7_judge 1 = .ok (.i2l, 1) := by decide +kernel
theorem dX7_judge_2 : decode cX7_judge 2 = .ok (.lconst 0, 1) := by decide +kernel
theorem dX7_judge_3 : decode cX7_judge 3 = .ok (.ldc2_w 208, 3) := by decide +kernel
theorem dX7_judge_6 : decode cX7_judge 6 = .ok (.invokestatic 71, 3) := by decide +kernel
theorem dX7_judge_9 : decode cX7_judge 9 = .ok (.ifCond .ne 6, 3) := by decide +kernel
theorem dX7_judge_12 : decode cX7_judge 12 = .ok (.bipush (-2), 2) := by decide +kernel
theorem dX7_judge_14 : decode cX7_judge 14 = .ok (.ireturn, 1) := by decide +kernel
theorem dX7_judge_15 : decode cX7_judge 15 = .ok (.aload_n 0, 1) := by decide +kernel
theorem dX7_judge_16 : decode cX7_judge 16 = .ok (.aload_n 0, 1) := by decide +kernel
theorem dX7_judge_17 : decode cX7_judge 17 = .ok (.invokevirtual 210, 3) := by decide +kernel
theorem dX7_judge_20 : decode cX7_judge 20 = .ok (.invokevirtual 213, 3) := by decide +kernel
theorem dX7_judge_23 : decode cX7_judge 23 = .ok (.istore_n 2, 1) := by decide +kernel
theorem dX7_judge_24 : decode cX7_judge 24 = .ok (.iload_n 2, 1) := by decide +kernel
theorem dX7_judge_25 : decode cX7_judge 25 = .ok (.bipush (-5), 2) := by decide +kernel
theorem dX7_judge_27 : decode cX7_judge 27 = .ok (.if_icmp .eq 14, 3) := by decide +kernel
theorem dX7_judge_30 : decode cX7_judge 30 = .ok (.iload_n 1, 1) := by decide +kernel
theorem dX7_judge_31 : decode cX7_judge 31 = .ok (.iconst 1, 1) := by decide +kernel
theorem dX7_judge_32 : decode cX7_judge 32 = .ok (.if_icmp .le 11, 3) := by decide +kernel
theorem dX7_judge_35 : decode cX7_judge 35 = .ok (.iload_n 2, 1) := by decide +kernel
theorem dX7_judge_36 : decode cX7_judge 36 = .ok (.bipush (-3), 2) := by decide +kernel
theorem dX7_judge_38 : decode cX7_judge 38 = .ok (.if_icmp .ne 5, 3) := by decide +kernel
theorem dX7_judge_41 : decode cX7_judge 41 = .ok (.iload_n 2, 1) := by decide +kernel
theorem dX7_judge_42 : decode cX7_judge 42 = .ok (.ireturn, 1) := by decide +kernel
theorem dX7_judge_43 : decode cX7_judge 43 = .ok (.iload_n 1, 1) := by decide +kernel
theorem dX7_judge_44 : decode cX7_judge 44 = .ok (.ifCond .ne 10, 3) := by decide +kernel
theorem dX7_judge_47 : decode cX7_judge 47 = .ok (.aload_n 0, 1) := by decide +kernel
theorem dX7_judge_48 : decode cX7_judge 48 = .ok (.getfield 183, 3) := by decide +kernel
theorem dX7_judge_51 : decode cX7_judge 51 = .ok (.goto 19, 3) := by decide +kernel
theorem dX7_judge_54 : decode cX7_judge 54 = .ok (.iload_n 1, 1) := by decide +kernel
theorem dX7_judge_55 : decode cX7_judge 55 = .ok (.iconst 1, 1) := by decide +kernel
theorem dX7_judge_56 : decode cX7_judge 56 = .ok (.if_icmp .ne 10, 3) := by decide +kernel
theorem dX7_judge_59 : decode cX7_judge 59 = .ok (.aload_n 0, 1) := by decide +kernel
theorem dX7_judge_60 : decode cX7_judge 60 = .ok (.getfield 186, 3) := by decide +kernel
theorem dX7_judge_63 : decode cX7_judge 63 = .ok (.goto 7, 3) := by decide +kernel
theorem dX7_judge_66 : decode cX7_judge 66 = .ok (.aload_n 0, 1) := by decide +kernel
theorem dX7_judge_67 : decode cX7_judge 67 = .ok (.getfield 158, 3) := by decide +kernel
theorem dX7_judge_70 : decode cX7_judge 70 = .ok (.ireturn, 1) := by decide +kernel
theorem dX7_ofShip_0 : decode cX7_ofShip 0 = .ok (.iload_n 1, 1) := by decide +kernel
theorem dX7_ofShip_1 : decode cX7_ofShip 1 = .ok (.tableswitch 72 0 4 #[35, 40, 45, 50, 67], 35) := by decide +kernel
theorem dX7_ofShip_36 : decode cX7_ofShip 36 = .ok (.aload_n 0, 1) := by decide +kernel
theorem dX7_ofShip_37 : decode cX7_ofShip 37 = .ok (.getfield 59, 3) := by decide +kernel
theorem dX7_ofShip_40 : decode cX7_ofShip 40 = .ok (.ireturn, 1) := by decide +kernel
theorem dX7_ofShip_41 : decode cX7_ofShip 41 = .ok (.aload_n 0, 1) := by decide +kernel
theorem dX7_ofShip_42 : decode cX7_ofShip 42 = .ok (.getfield 63, 3) := by decide +kernel
theorem dX7_ofShip_45 : decode cX7_ofShip 45 = .ok (.ireturn, 1) := by decide +kernel
theorem dX7_ofShip_46 : decode cX7_ofShip 46 = .ok (.aload_n 0, 1) := by decide +kernel
theorem dX7_ofShip_47 : decode cX7_ofShip 47 = .ok (.getfield 66, 3) := by decide +kernel
theorem dX7_ofShip_50 : decode cX7_ofShip 50 = .ok (.ireturn, 1) := by decide +kernel
theorem dX7_ofShip_51 : decode cX7_ofShip 51 = .ok (.aload_n 0, 1) := by decide +kernel
theorem dX7_ofShip_52 : decode cX7_ofShip 52 = .ok (.getfield 66, 3) := by decide +kernel
theorem dX7_ofShip_55 : decode cX7_ofShip 55 = .ok (.ifCond .ge 8, 3) := by decide +kernel
theorem dX7_ofShip_58 : decode cX7_ofShip 58 = .ok (.bipush (-6), 2) := by decide +kernel
theorem dX7_ofShip_60 : decode cX7_ofShip 60 = .ok (.goto 7, 3) := by decide +kernel
theorem dX7_ofShip_63 : decode cX7_ofShip 63 = .ok (.aload_n 0, 1) := by decide +kernel
theorem dX7_ofShip_64 : decode cX7_ofShip 64 = .ok (.getfield 146, 3) := by decide +kernel
theorem dX7_ofShip_67 : decode cX7_ofShip 67 = .ok (.ireturn, 1) := by decide +kernel
theorem dX7_ofShip_68 : decode cX7_ofShip 68 = .ok (.aload_n 0, 1) := by decide +kernel
theorem dX7_ofShip_69 : decode cX7_ofShip 69 = .ok (.getfield 104, 3) := by decide +kernel
theorem dX7_ofShip_72 : decode cX7_ofShip 72 = .ok (.ireturn, 1) := by decide +kernel
theorem dX7_ofShip_73 : decode cX7_ofShip 73 = .ok (.aload_n 0, 1) := by decide +kernel
theorem dX7_ofShip_74 : decode cX7_ofShip 74 = .ok (.getfield 143, 3) := by decide +kernel
theorem dX7_ofShip_77 : decode cX7_ofShip 77 = .ok (.ireturn, 1) := by decide +kernel
set_option maxRecDepth 20000 in
theorem ggX7_behind_X7_in : GoodIn wsX7_behind wsX7_in := goodIn_r _ [5] (by decide +kernel) (by decide +kernel)
set_option maxRecDepth 20000 in
theorem gX7_behind_X7_in : GoodIn wsX7_behind (va_wsS RX7 71 yX7_in wsX7_in) := goodIn_app (goodIn_of _ (by decide +kernel)) ggX7_behind_X7_in
set_option maxRecDepth 20000 in
theorem ggX7_behind_X7_refusal : GoodIn wsX7_behind wsX7_refusal := goodIn_r _ [9, 10, 11, 12, 13, 4, 14, 15, 16, 17, 18, 19, 20, 21, 22, 23, 24, 25, 26, 27, 28, 29, 30, 31, 32, 33, 34, 35, 36, 37, 38, 39, 2, 3, 5, 40, 41, 42, 43, 44, 45, 46, 47, 48, 49, 50, 51, 52, 53, 54, 55, 56, 57, 58, 59, 60, 61, 62, 63, 64, 65, 66, 67, 68, 69, 70, 71, 72, 73, 74, 75, 76, 77, 78, 79, 80, 81, 82, 83, 84, 85, 86, 87, 88, 89, 90, 91, 92, 93, 94, 95, 96, 97, 98, 99, 100, 101, 102, 103, 104, 105, 106, 107, 108, 109, 110, 111, 112, 113, 114, 115, 116, 117, 118, 119, 120, 129, 130, 131, 132, 133, 134, 135, 136, 137, 138, 139, 140, 141, 142, 143, 144, 145, 146, 147, 148, 149, 150, 151, 152, 153, 154, 155, 156, 157, 158, 159, 160, 161, 162] (by decide +kernel) (by decide +kernel)
set_option maxRecDepth 20000 in
theorem gX7_behind_X7_refusal : GoodIn wsX7_behind (wsV RX7 210 RX7 yX7_refusal wsX7_refusal) := goodIn_app (goodIn_of _ (by decide +kernel)) ggX7_behind_X7_refusal
set_option maxRecDepth 20000 in
theorem ggX7_behind_X7_ofShip : GoodIn wsX7_behind wsX7_ofShip := goodIn_r _ [124, 16, 17, 18, 19, 20, 21, 129, 130, 131, 132, 133, 134, 135, 136, 137, 138, 139, 140, 141, 142, 143, 144, 145, 146, 147, 148, 149, 150, 151, 152, 153, 154, 155, 156, 157, 158, 159, 160, 161, 162] (by decide +kernel) (by decide +kernel)
set_option maxRecDepth 20000 in
theorem gX7_behind_X7_ofShip : GoodIn wsX7_behind (wsV RX7 216 RX7 yX7_ofShip wsX7_ofShip) := goodIn_app (goodIn_of _ (by decide +kernel)) ggX7_behind_X7_ofShip
set_option maxRecDepth 20000 in
theorem ggX7_behind_X7_back : GoodIn wsX7_behind wsX7_back := goodIn_r _ [128, 15, 16, 17, 18, 19, 20, 21, 129, 130, 131, 132, 133, 134, 135, 136, 137, 138, 139, 140, 141, 142, 143, 144, 145, 146, 147, 148, 149, 150, 151, 152, 153, 154, 155, 156, 157, 158, 159, 160, 161, 162] (by decide +kernel) (by decide +kernel)
set_option maxRecDepth 20000 in
theorem gX7_behind_X7_back : GoodIn wsX7_behind (wsV RX7 213 RX7 yX7_back wsX7_back) := goodIn_app (goodIn_of _ (by decide +kernel)) ggX7_behind_X7_back
theorem dX7_behind_0 : decode cX7_behind 0 = .ok (.iload_n 1, 1) := by decide +kernel
theorem dX7_behind_1 : decode cX7_behind 1 = .ok (.i2l, 1) := by decide +kernel
theorem dX7_behind_2 : decode cX7_behind 2 = .ok (.lconst 0, 1) := by decide +kernel
theorem dX7_behind_3 : decode cX7_behind 3 = .ok (.ldc2_w 102, 3) := by decide +kernel
theorem dX7_behind_6 : decode cX7_behind 6 = .ok (.invokestatic 71, 3) := by decide +kernel
theorem dX7_behind_9 : decode cX7_behind 9 = .ok (.ifCond .ne 6, 3) := by decide +kernel
theorem dX7_behind_12 : decode cX7_behind 12 = .ok (.bipush (-2), 2) := by decide +kernel
theorem dX7_behind_14 : decode cX7_behind 14 = .ok (.ireturn, 1) := by decide +kernel
theorem dX7_behind_15 : decode cX7_behind 15 = .ok (.aload_n 0, 1) := by decide +kernel
theorem dX7_behind_16 : decode cX7_behind 16 = .ok (.invokevirtual 210, 3) := by decide +kernel
theorem dX7_behind_19 : decode cX7_behind 19 = .ok (.istore_n 2, 1) := by decide +kernel
theorem dX7_behind_20 : decode cX7_behind 20 = .ok (.aload_n 0, 1) := by decide +kernel
theorem dX7_behind_21 : decode cX7_behind 21 = .ok (.iload_n 2, 1) := by decide +kernel
theorem dX7_behind_22 : decode cX7_behind 22 = .ok (.bipush (-6), 2) := by decide +kernel
theorem dX7_behind_24 : decode cX7_behind 24 = .ok (.if_icmp .eq 7, 3) := by decide +kernel
theorem dX7_behind_27 : decode cX7_behind 27 = .ok (.iload_n 2, 1) := by decide +kernel
theorem dX7_behind_28 : decode cX7_behind 28 = .ok (.goto 8, 3) := by decide +kernel
theorem dX7_behind_31 : decode cX7_behind 31 = .ok (.aload_n 0, 1) := by decide +kernel
theorem dX7_behind_32 : decode cX7_behind 32 = .ok (.iload_n 1, 1) := by decide +kernel
theorem dX7_behind_33 : decode cX7_behind 33 = .ok (.invokevirtual 216, 3) := by decide +kernel
theorem dX7_behind_36 : decode cX7_behind 36 = .ok (.invokevirtual 213, 3) := by decide +kernel
theorem dX7_behind_39 : decode cX7_behind 39 = .ok (.ireturn, 1) := by decide +kernel
set_option maxRecDepth 20000 in
theorem ggX7_ofSeen_X7_nearest : GoodIn wsX7_ofSeen wsX7_nearest := goodIn_r _ [7, 2, 8, 9, 10, 6, 11, 12, 13, 14, 15, 16, 17, 18, 19, 20, 21, 22, 23, 1, 24, 25, 30, 31, 32, 33, 34, 35, 36, 37, 38, 39, 40, 41, 42, 43, 44, 45, 46, 47, 48, 49, 50, 51, 52, 53, 54, 55, 56, 57, 58, 59, 60, 61, 62, 63] (by decide +kernel) (by decide +kernel)
set_option maxRecDepth 20000 in
theorem gX7_ofSeen_X7_nearest : GoodIn wsX7_ofSeen (wsV RX7 219 RX7 yX7_nearest wsX7_nearest) := goodIn_app (goodIn_of _ (by decide +kernel)) ggX7_ofSeen_X7_nearest
set_option maxRecDepth 20000 in
theorem ggX7_ofSeen_X7_seenMany : GoodIn wsX7_ofSeen wsX7_seenMany := goodIn_r _ [29, 8, 9, 10, 6, 11, 12, 2, 13, 14, 15, 16, 17, 18, 19, 20, 21, 22, 23, 1, 24, 25, 30, 31, 32, 33, 34, 35, 36, 37, 38, 39, 40, 41, 42, 43, 44, 45, 46, 47, 48, 49, 50, 51, 52, 53, 54, 55, 56, 57, 58, 59, 60, 61, 62, 63] (by decide +kernel) (by decide +kernel)
set_option maxRecDepth 20000 in
theorem gX7_ofSeen_X7_seenMany : GoodIn wsX7_ofSeen (wsV RX7 167 RX7 yX7_seenMany wsX7_seenMany) := goodIn_app (goodIn_of _ (by decide +kernel)) ggX7_ofSeen_X7_seenMany
set_option maxRecDepth 20000 in
theorem ggX7_ofSeen_X7_far : GoodIn wsX7_ofSeen wsX7_far := goodIn_r _ [15, 16, 17, 6, 18] (by decide +kernel) (by decide +kernel)
set_option maxRecDepth 20000 in
theorem gX7_ofSeen_X7_far : GoodIn wsX7_ofSeen (va_wsS RX7 149 yX7_far wsX7_far) := goodIn_app (goodIn_of _ (by decide +kernel)) ggX7_ofSeen_X7_far
theorem dX7_ofSeen_0 : decode cX7_ofSeen 0 = .ok (.aload_n 0, 1) := by decide +kernel
theorem dX7_ofSeen_1 : decode cX7_ofSeen 1 = .ok (.getfield 66, 3) := by decide +kernel
theorem dX7_ofSeen_4 : decode cX7_ofSeen 4 = .ok (.ifCond .ge 6, 3) := by decide +kernel
theorem dX7_ofSeen_7 : decode cX7_ofSeen 7 = .ok (.bipush (-6), 2) := by decide +kernel
theorem dX7_ofSeen_9 : decode cX7_ofSeen 9 = .ok (.ireturn, 1) := by decide +kernel
theorem dX7_ofSeen_10 : decode cX7_ofSeen 10 = .ok (.aload_n 0, 1) := by decide +kernel
theorem dX7_ofSeen_11 : decode cX7_ofSeen 11 = .ok (.invokevirtual 219, 3) := by decide +kernel
theorem dX7_ofSeen_14 : decode cX7_ofSeen 14 = .ok (.istore_n 2, 1) := by decide +kernel
theorem dX7_ofSeen_15 : decode cX7_ofSeen 15 = .ok (.iload_n 1, 1) := by decide +kernel
theorem dX7_ofSeen_16 : decode cX7_ofSeen 16 = .ok (.ifCond .ne 10, 3) := by decide +kernel
theorem dX7_ofSeen_19 : decode cX7_ofSeen 19 = .ok (.aload_n 0, 1) := by decide +kernel
theorem dX7_ofSeen_20 : decode cX7_ofSeen 20 = .ok (.invokevirtual 167, 3) := by decide +kernel
theorem dX7_ofSeen_23 : decode cX7_ofSeen 23 = .ok (.goto 29, 3) := by decide +kernel
theorem dX7_ofSeen_26 : decode cX7_ofSeen 26 = .ok (.iload_n 1, 1) := by decide +kernel
theorem dX7_ofSeen_27 : decode cX7_ofSeen 27 = .ok (.iconst 2, 1) := by decide +kernel
theorem dX7_ofSeen_28 : decode cX7_ofSeen 28 = .ok (.if_icmp .ne 7, 3) := by decide +kernel
theorem dX7_ofSeen_31 : decode cX7_ofSeen 31 = .ok (.iload_n 2, 1) := by decide +kernel
theorem dX7_ofSeen_32 : decode cX7_ofSeen 32 = .ok (.goto 20, 3) := by decide +kernel
theorem dX7_ofSeen_35 : decode cX7_ofSeen 35 = .ok (.iload_n 2, 1) := by decide +kernel
theorem dX7_ofSeen_36 : decode cX7_ofSeen 36 = .ok (.ifCond .ge 8, 3) := by decide +kernel
theorem dX7_ofSeen_39 : decode cX7_ofSeen 39 = .ok (.bipush (-6), 2) := by decide +kernel
theorem dX7_ofSeen_41 : decode cX7_ofSeen 41 = .ok (.goto 11, 3) := by decide +kernel
theorem dX7_ofSeen_44 : decode cX7_ofSeen 44 = .ok (.iload_n 2, 1) := by decide +kernel
theorem dX7_ofSeen_45 : decode cX7_ofSeen 45 = .ok (.aload_n 0, 1) := by decide +kernel
theorem dX7_ofSeen_46 : decode cX7_ofSeen 46 = .ok (.getfield 59, 3) := by decide +kernel
theorem dX7_ofSeen_49 : decode cX7_ofSeen 49 = .ok (.invokestatic 149, 3) := by decide +kernel
theorem dX7_ofSeen_52 : decode cX7_ofSeen 52 = .ok (.ireturn, 1) := by decide +kernel
set_option maxRecDepth 20000 in
theorem ggX7_seen_X7_in : GoodIn wsX7_seen wsX7_in := goodIn_r _ [5] (by decide +kernel) (by decide +kernel)
set_option maxRecDepth 20000 in
theorem gX7_seen_X7_in : GoodIn wsX7_seen (va_wsS RX7 71 yX7_in wsX7_in) := goodIn_app (goodIn_of _ (by decide +kernel)) ggX7_seen_X7_in
set_option maxRecDepth 20000 in
theorem ggX7_seen_X7_refusal : GoodIn wsX7_seen wsX7_refusal := goodIn_r _ [9, 10, 11, 12, 13, 4, 14, 15, 16, 17, 18, 19, 20, 21, 22, 23, 24, 25, 26, 27, 28, 29, 30, 31, 32, 33, 34, 35, 36, 37, 38, 39, 2, 3, 5, 40, 41, 42, 43, 44, 45, 46, 47, 48, 49, 50, 51, 52, 53, 54, 55, 56, 57, 58, 59, 60, 61, 62, 63, 64, 65, 66, 67, 68, 69, 70, 71, 72, 73, 74, 75, 76, 77, 78, 79, 80, 81, 82, 83, 84, 85, 86, 87, 88, 89, 90, 91, 92, 93, 94, 95, 96, 97, 98, 99, 100, 101, 102, 103, 104, 105, 106, 107, 108, 109, 110, 111, 112, 113, 114, 115, 116, 117, 118, 119, 120, 133, 134, 135, 136, 137, 138, 139, 140, 141, 142, 143, 144, 145, 146, 147, 148, 149, 150, 151, 152, 153, 154, 155, 156, 157, 158, 159, 160, 161, 162, 163, 164, 165, 166] (by decide +kernel) (by decide +kernel)
set_option maxRecDepth 20000 in
theorem gX7_seen_X7_refusal : GoodIn wsX7_seen (wsV RX7 210 RX7 yX7_refusal wsX7_refusal) := goodIn_app (goodIn_of _ (by decide +kernel)) ggX7_seen_X7_refusal
set_option maxRecDepth 20000 in
theorem ggX7_seen_X7_ofSeen : GoodIn wsX7_seen wsX7_ofSeen := goodIn_r _ [124, 18, 16, 125, 126, 127, 4, 128, 102, 103, 104, 105, 93, 106, 107, 108, 109, 110, 111, 112, 113, 114, 115, 116, 20, 19, 98, 99, 100, 101, 133, 134, 135, 136, 137, 138, 139, 140, 141, 142, 143, 144, 145, 146, 147, 148, 149, 150, 151, 152, 153, 154, 155, 156, 157, 158, 159, 160, 161, 162, 163, 164, 165, 166] (by decide +kernel) (by decide +kernel)
set_option maxRecDepth 20000 in
theorem gX7_seen_X7_ofSeen : GoodIn wsX7_seen (wsV RX7 222 RX7 yX7_ofSeen wsX7_ofSeen) := goodIn_app (goodIn_of _ (by decide +kernel)) ggX7_seen_X7_ofSeen
set_option maxRecDepth 20000 in
theorem ggX7_seen_X7_back : GoodIn wsX7_seen wsX7_back := goodIn_r _ [132, 15, 16, 17, 18, 19, 20, 21, 133, 134, 135, 136, 137, 138, 139, 140, 141, 142, 143, 144, 145, 146, 147, 148, 149, 150, 151, 152, 153, 154, 155, 156, 157, 158, 159, 160, 161, 162, 163, 164, 165, 166] (by decide +kernel) (by decide +kernel)
set_option maxRecDepth 20000 in
theorem gX7_seen_X7_back : GoodIn wsX7_seen (wsV RX7 213 RX7 yX7_back wsX7_back) := goodIn_app (goodIn_of _ (by decide +kernel)) ggX7_seen_X7_back
theorem dX7_seen_0 : decode cX7_seen 0 = .ok (.iload_n 1, 1) := by decide +kernel
theorem dX7_seen_1 : decode cX7_seen 1 = .ok (.i2l, 1) := by decide +kernel
theorem dX7_seen_2 : decode cX7_seen 2 = .ok (.lconst 0, 1) := by decide +kernel
theorem dX7_seen_3 : decode cX7_seen 3 = .ok (.ldc2_w 208, 3) := by decide +kernel
theorem dX7_seen_6 : decode cX7_seen 6 = .ok (.invokestatic 71, 3) := by decide +kernel
theorem dX7_seen_9 : decode cX7_seen 9 = .ok (.ifCond .ne 6, 3) := by decide +kernel
theorem dX7_seen_12 : decode cX7_seen 12 = .ok (.bipush (-2), 2) := by decide +kernel
theorem dX7_seen_14 : decode cX7_seen 14 = .ok (.ireturn, 1) := by decide +kernel
theorem dX7_seen_15 : decode cX7_seen 15 = .ok (.aload_n 0, 1) := by decide +kernel
theorem dX7_seen_16 : decode cX7_seen 16 = .ok (.invokevirtual 210, 3) := by decide +kernel
theorem dX7_seen_19 : decode cX7_seen 19 = .ok (.istore_n 2, 1) := by decide +kernel
theorem dX7_seen_20 : decode cX7_seen 20 = .ok (.aload_n 0, 1) := by decide +kernel
theorem dX7_seen_21 : decode cX7_seen 21 = .ok (.iload_n 2, 1) := by decide +kernel
theorem dX7_seen_22 : decode cX7_seen 22 = .ok (.bipush (-6), 2) := by decide +kernel
theorem dX7_seen_24 : decode cX7_seen 24 = .ok (.if_icmp .eq 7, 3) := by decide +kernel
theorem dX7_seen_27 : decode cX7_seen 27 = .ok (.iload_n 2, 1) := by decide +kernel
theorem dX7_seen_28 : decode cX7_seen 28 = .ok (.goto 8, 3) := by decide +kernel
theorem dX7_seen_31 : decode cX7_seen 31 = .ok (.aload_n 0, 1) := by decide +kernel
theorem dX7_seen_32 : decode cX7_seen 32 = .ok (.iload_n 1, 1) := by decide +kernel
theorem dX7_seen_33 : decode cX7_seen 33 = .ok (.invokevirtual 222, 3) := by decide +kernel
theorem dX7_seen_36 : decode cX7_seen 36 = .ok (.invokevirtual 213, 3) := by decide +kernel
theorem dX7_seen_39 : decode cX7_seen 39 = .ok (.ireturn, 1) := by decide +kernel
set_option maxRecDepth 20000 in
theorem ggX7_silence_X7_in : GoodIn wsX7_silence wsX7_in := goodIn_r _ [6] (by decide +kernel) (by decide +kernel)
set_option maxRecDepth 20000 in
theorem gX7_silence_X7_in : GoodIn wsX7_silence (va_wsS RX7 71 yX7_in wsX7_in) := goodIn_app (goodIn_of _ (by decide +kernel)) ggX7_silence_X7_in
set_option maxRecDepth 20000 in
theorem ggX7_silence_X7_refusal : GoodIn wsX7_silence wsX7_refusal := goodIn_r _ [10, 11, 12, 13, 14, 5, 15, 16, 17, 18, 19, 20, 21, 22, 23, 24, 25, 26, 27, 28, 29, 30, 31, 32, 33, 34, 35, 36, 37, 38, 39, 40, 3, 4, 6, 41, 42, 43, 44, 45, 46, 47, 48, 49, 50, 51, 52, 53, 54, 55, 56, 1, 57, 2, 58, 59, 60, 61, 62, 63, 64, 65, 66, 67, 68, 69, 70, 71, 72, 73, 74, 75, 76, 77, 78, 79, 80, 81, 82, 83, 84, 85, 86, 87, 88, 89, 90, 91, 92, 93, 94, 95, 96, 97, 98, 99, 100, 101, 102, 103, 104, 105, 106, 107, 108, 109, 110, 111, 112, 113, 114, 115, 116, 117, 118, 119, 124, 125, 126, 127, 128, 129, 130, 131, 132, 133, 134, 135, 136, 137, 138, 139, 140, 141, 142, 143, 144, 145, 146, 147, 148, 149, 150, 151, 152, 153, 154, 155, 156, 157] (by decide +kernel) (by decide +kernel)
set_option maxRecDepth 20000 in
theorem gX7_silence_X7_refusal : GoodIn wsX7_silence (wsV RX7 210 RX7 yX7_refusal wsX7_refusal) := goodIn_app (goodIn_of _ (by decide +kernel)) ggX7_silence_X7_refusal
set_option maxRecDepth 20000 in
theorem ggX7_silence_X7_back : GoodIn wsX7_silence wsX7_back := goodIn_r _ [123, 16, 17, 18, 19, 20, 21, 22, 124, 125, 126, 127, 128, 129, 130, 131, 132, 133, 134, 135, 136, 137, 138, 139, 140, 141, 142, 143, 144, 145, 146, 147, 148, 149, 150, 151, 152, 153, 154, 155, 156, 157] (by decide +kernel) (by decide +kernel)
set_option maxRecDepth 20000 in
theorem gX7_silence_X7_back : GoodIn wsX7_silence (wsV RX7 213 RX7 yX7_back wsX7_back) := goodIn_app (goodIn_of _ (by decide +kernel)) ggX7_silence_X7_back
theorem dX7_silence_0 : decode cX7_silence 0 = .ok (.iload_n 1, 1) := by decide +kernel
theorem dX7_silence_1 : decode cX7_silence 1 = .ok (.i2l, 1) := by decide +kernel
theorem dX7_silence_2 : decode cX7_silence 2 = .ok (.lconst 0, 1) := by decide +kernel
theorem dX7_silence_3 : decode cX7_silence 3 = .ok (.lconst 1, 1) := by decide +kernel
theorem dX7_silence_4 : decode cX7_silence 4 = .ok (.invokestatic 71, 3) := by decide +kernel
theorem dX7_silence_7 : decode cX7_silence 7 = .ok (.ifCond .ne 6, 3) := by decide +kernel
theorem dX7_silence_10 : decode cX7_silence 10 = .ok (.bipush (-2), 2) := by decide +kernel
theorem dX7_silence_12 : decode cX7_silence 12 = .ok (.ireturn, 1) := by decide +kernel
theorem dX7_silence_13 : decode cX7_silence 13 = .ok (.aload_n 0, 1) := by decide +kernel
theorem dX7_silence_14 : decode cX7_silence 14 = .ok (.aload_n 0, 1) := by decide +kernel
theorem dX7_silence_15 : decode cX7_silence 15 = .ok (.invokevirtual 210, 3) := by decide +kernel
theorem dX7_silence_18 : decode cX7_silence 18 = .ok (.invokevirtual 213, 3) := by decide +kernel
theorem dX7_silence_21 : decode cX7_silence 21 = .ok (.istore_n 2, 1) := by decide +kernel
theorem dX7_silence_22 : decode cX7_silence 22 = .ok (.iload_n 2, 1) := by decide +kernel
theorem dX7_silence_23 : decode cX7_silence 23 = .ok (.bipush (-6), 2) := by decide +kernel
theorem dX7_silence_25 : decode cX7_silence 25 = .ok (.if_icmp .eq 7, 3) := by decide +kernel
theorem dX7_silence_28 : decode cX7_silence 28 = .ok (.iload_n 2, 1) := by decide +kernel
theorem dX7_silence_29 : decode cX7_silence 29 = .ok (.goto 18, 3) := by decide +kernel
theorem dX7_silence_32 : decode cX7_silence 32 = .ok (.iload_n 1, 1) := by decide +kernel
theorem dX7_silence_33 : decode cX7_silence 33 = .ok (.ifCond .ne 10, 3) := by decide +kernel
theorem dX7_silence_36 : decode cX7_silence 36 = .ok (.aload_n 0, 1) := by decide +kernel
theorem dX7_silence_37 : decode cX7_silence 37 = .ok (.getfield 189, 3) := by decide +kernel
theorem dX7_silence_40 : decode cX7_silence 40 = .ok (.goto 7, 3) := by decide +kernel
theorem dX7_silence_43 : decode cX7_silence 43 = .ok (.aload_n 0, 1) := by decide +kernel
theorem dX7_silence_44 : decode cX7_silence 44 = .ok (.getfield 161, 3) := by decide +kernel
theorem dX7_silence_47 : decode cX7_silence 47 = .ok (.ireturn, 1) := by decide +kernel
set_option maxRecDepth 20000 in
theorem ggX7_done_X7_refusal : GoodIn wsX7_done wsX7_refusal := goodIn_r _ [7, 8, 9, 10, 11, 6, 12, 13, 14, 15, 16, 17, 18, 19, 20, 21, 22, 23, 2, 1, 24, 25, 26, 27, 28, 29, 30, 31, 32, 33, 34, 35, 36, 37, 38, 39, 40, 41, 42, 43, 44, 45, 46, 47, 48, 49, 50, 51, 52, 53, 54, 55, 56, 57, 58, 59, 60, 61, 62, 63, 64, 65, 66, 67, 68, 69, 70, 71, 72, 73, 74, 75, 76, 77, 78, 79, 80, 81, 82, 83, 84, 85, 86, 87, 88, 89, 90, 91, 92, 93, 94, 95, 96, 97, 98, 99, 100, 101, 102, 103, 104, 105, 106, 107, 108, 109, 110, 111, 112, 113, 114, 115, 116, 117, 118, 119, 124, 125, 126, 127, 128, 129, 130, 131, 132, 133, 134, 135, 136, 137, 138, 139, 140, 141, 142, 143, 144, 145, 146, 147, 148, 149, 150, 151, 152, 153, 154, 155, 156, 157] (by decide +kernel) (by decide +kernel)
set_option maxRecDepth 20000 in
theorem gX7_done_X7_refusal : GoodIn wsX7_done (wsV RX7 210 RX7 yX7_refusal wsX7_refusal) := goodIn_app (goodIn_of _ (by decide +kernel)) ggX7_done_X7_refusal
set_option maxRecDepth 20000 in
theorem ggX7_done_X7_back : GoodIn wsX7_done wsX7_back := goodIn_r _ [123, 13, 14, 15, 16, 17, 18, 19, 124, 125, 126, 127, 128, 129, 130, 131, 132, 133, 134, 135, 136, 137, 138, 139, 140, 141, 142, 143, 144, 145, 146, 147, 148, 149, 150, 151, 152, 153, 154, 155, 156, 157] (by decide +kernel) (by decide +kernel)
set_option maxRecDepth 20000 in
theorem gX7_done_X7_back : GoodIn wsX7_done (wsV RX7 213 RX7 yX7_back wsX7_back) := goodIn_app (goodIn_of _ (by decide +kernel)) ggX7_done_X7_back
theorem dX7_done_0 : decode cX7_done 0 = .ok (.aload_n 0, 1) := by decide +kernel
theorem dX7_done_1 : decode cX7_done 1 = .ok (.invokevirtual 210, 3) := by decide +kernel
theorem dX7_done_4 : decode cX7_done 4 = .ok (.istore_n 1, 1) := by decide +kernel
theorem dX7_done_5 : decode cX7_done 5 = .ok (.iload_n 1, 1) := by decide +kernel
theorem dX7_done_6 : decode cX7_done 6 = .ok (.bipush (-6), 2) := by decide +kernel
theorem dX7_done_8 : decode cX7_done 8 = .ok (.if_icmp .eq 9, 3) := by decide +kernel
theorem dX7_done_11 : decode cX7_done 11 = .ok (.aload_n 0, 1) := by decide +kernel
theorem dX7_done_12 : decode cX7_done 12 = .ok (.iload_n 1, 1) := by decide +kernel
theorem dX7_done_13 : decode cX7_done 13 = .ok (.invokevirtual 213, 3) := by decide +kernel
theorem dX7_done_16 : decode cX7_done 16 = .ok (.ireturn, 1) := by decide +kernel
theorem dX7_done_17 : decode cX7_done 17 = .ok (.aload_n 0, 1) := by decide +kernel
theorem dX7_done_18 : decode cX7_done 18 = .ok (.iconst 0, 1) := by decide +kernel
theorem dX7_done_19 : decode cX7_done 19 = .ok (.putfield 111, 3) := by decide +kernel
theorem dX7_done_22 : decode cX7_done 22 = .ok (.aload_n 0, 1) := by decide +kernel
theorem dX7_done_23 : decode cX7_done 23 = .ok (.getfield 114, 3) := by decide +kernel
theorem dX7_done_26 : decode cX7_done 26 = .ok (.ireturn, 1) := by decide +kernel
set_option maxRecDepth 20000 in
theorem ggX7_wayTo_X7_ahead : GoodIn wsX7_wayTo wsX7_ahead := goodIn_r _ [5, 6, 7, 4, 8, 9, 10, 11, 12, 13, 14, 15, 16, 17, 18] (by decide +kernel) (by decide +kernel)
set_option maxRecDepth 20000 in
theorem gX7_wayTo_X7_ahead : GoodIn wsX7_wayTo (va_wsS RX7 137 yX7_ahead wsX7_ahead) := goodIn_app (goodIn_of _ (by decide +kernel)) ggX7_wayTo_X7_ahead
theorem dX7_wayTo_0 : decode cX7_wayTo 0 = .ok (.bipush (-6), 2) := by decide +kernel
theorem dX7_wayTo_2 : decode cX7_wayTo 2 = .ok (.istore_n 3, 1) := by decide +kernel
theorem dX7_wayTo_3 : decode cX7_wayTo 3 = .ok (.bipush 7, 2) := by decide +kernel
theorem dX7_wayTo_5 : decode cX7_wayTo 5 = .ok (.istore 4, 2) := by decide +kernel
theorem dX7_wayTo_7 : decode cX7_wayTo 7 = .ok (.iload 4, 2) := by decide +kernel
theorem dX7_wayTo_9 : decode cX7_wayTo 9 = .ok (.ifCond .lt 40, 3) := by decide +kernel
theorem dX7_wayTo_12 : decode cX7_wayTo 12 = .ok (.iload_n 1, 1) := by decide +kernel
theorem dX7_wayTo_13 : decode cX7_wayTo 13 = .ok (.iload 4, 2) := by decide +kernel
theorem dX7_wayTo_15 : decode cX7_wayTo 15 = .ok (.invokestatic 137, 3) := by decide +kernel
theorem dX7_wayTo_18 : decode cX7_wayTo 18 = .ok (.istore 5, 2) := by decide +kernel
theorem dX7_wayTo_20 : decode cX7_wayTo 20 = .ok (.iload 5, 2) := by decide +kernel
theorem dX7_wayTo_22 : decode cX7_wayTo 22 = .ok (.ifCond .lt 19, 3) := by decide +kernel
theorem dX7_wayTo_25 : decode cX7_wayTo 25 = .ok (.aload_n 0, 1) := by decide +kernel
theorem dX7_wayTo_26 : decode cX7_wayTo 26 = .ok (.getfield 37, 3) := by decide +kernel
theorem dX7_wayTo_29 : decode cX7_wayTo 29 = .ok (.iload 5, 2) := by decide +kernel
theorem dX7_wayTo_31 : decode cX7_wayTo 31 = .ok (.iaload, 1) := by decide +kernel
theorem dX7_wayTo_32 : decode cX7_wayTo 32 = .ok (.iload_n 2, 1) := by decide +kernel
theorem dX7_wayTo_33 : decode cX7_wayTo 33 = .ok (.if_icmp .ne 8, 3) := by decide +kernel
theorem dX7_wayTo_36 : decode cX7_wayTo 36 = .ok (.iload 4, 2) := by decide +kernel
theorem dX7_wayTo_38 : decode cX7_wayTo 38 = .ok (.goto 4, 3) := by decide +kernel
theorem dX7_wayTo_41 : decode cX7_wayTo 41 = .ok (.iload_n 3, 1) := by decide +kernel
theorem dX7_wayTo_42 : decode cX7_wayTo 42 = .ok (.istore_n 3, 1) := by decide +kernel
theorem dX7_wayTo_43 : decode cX7_wayTo 43 = .ok (.iinc 4 (-1), 3) := by decide +kernel
theorem dX7_wayTo_46 : decode cX7_wayTo 46 = .ok (.goto (-39), 3) := by decide +kernel
theorem dX7_wayTo_49 : decode cX7_wayTo 49 = .ok (.iload_n 3, 1) := by decide +kernel
theorem dX7_wayTo_50 : decode cX7_wayTo 50 = .ok (.ireturn, 1) := by decide +kernel
set_option maxRecDepth 20000 in
theorem ggX7_oneStepMore_X7_wayTo : GoodIn wsX7_oneStepMore wsX7_wayTo := goodIn_r _ [7, 1, 8, 9, 6, 10, 11, 12, 13, 14, 15, 16, 17, 18, 19, 20, 21, 22, 23, 24, 25, 26, 27, 28, 29, 30, 31, 32, 33, 34, 35, 36, 37, 38, 39, 40, 41, 42, 43, 44, 45, 46, 47, 48, 49, 50, 51, 52, 53, 54, 55, 56, 57] (by decide +kernel) (by decide +kernel)
set_option maxRecDepth 20000 in
theorem gX7_oneStepMore_X7_wayTo : GoodIn wsX7_oneStepMore (wsV RX7 225 RX7 yX7_wayTo wsX7_wayTo) := goodIn_app (goodIn_of _ (by decide +kernel)) ggX7_oneStepMore_X7_wayTo
theorem dX7_oneStepMore_0 : decode cX7_oneStepMore 0 = .ok (.iconst 0, 1) := by decide +kernel
theorem dX7_oneStepMore_1 : decode cX7_oneStepMore 1 = .ok (.istore_n 2, 1) := by decide +kernel
theorem dX7_oneStepMore_2 : decode cX7_oneStepMore 2 = .ok (.iconst 0, 1) := by decide +kernel
theorem dX7_oneStepMore_3 : decode cX7_oneStepMore 3 = .ok (.istore_n 3, 1) := by decide +kernel
theorem dX7_oneStepMore_4 : decode cX7_oneStepMore 4 = .ok (.iload_n 3, 1) := by decide +kernel
theorem dX7_oneStepMore_5 : decode cX7_oneStepMore 5 = .ok (.bipush 64, 2) := by decide +kernel
theorem dX7_oneStepMore_7 : decode cX7_oneStepMore 7 = .ok (.if_icmp .ge 81, 3) := by decide +kernel
theorem dX7_oneStepMore_10 : decode cX7_oneStepMore 10 = .ok (.aload_n 0, 1) := by decide +kernel
theorem dX7_oneStepMore_11 : decode cX7_oneStepMore 11 = .ok (.getfield 37, 3) := by decide +kernel
theorem dX7_oneStepMore_14 : decode cX7_oneStepMore 14 = .ok (.iload_n 3, 1) := by decide +kernel
theorem dX7_oneStepMore_15 : decode cX7_oneStepMore 15 = .ok (.iaload, 1) := by decide +kernel
theorem dX7_oneStepMore_16 : decode cX7_oneStepMore 16 = .ok (.ifCond .ge 27, 3) := by decide +kernel
theorem dX7_oneStepMore_19 : decode cX7_oneStepMore 19 = .ok (.aload_n 0, 1) := by decide +kernel
theorem dX7_oneStepMore_20 : decode cX7_oneStepMore 20 = .ok (.getfield 7, 3) := by decide +kernel
theorem dX7_oneStepMore_23 : decode cX7_oneStepMore 23 = .ok (.iload_n 3, 1) := by decide +kernel
theorem dX7_oneStepMore_24 : decode cX7_oneStepMore 24 = .ok (.iaload, 1) := by decide +kernel
theorem dX7_oneStepMore_25 : decode cX7_oneStepMore 25 = .ok (.ifCond .ne 18, 3) := by decide +kernel
theorem dX7_oneStepMore_28 : decode cX7_oneStepMore 28 = .ok (.aload_n 0, 1) := by decide +kernel
theorem dX7_oneStepMore_29 : decode cX7_oneStepMore 29 = .ok (.iload_n 3, 1) := by decide +kernel
theorem dX7_oneStepMore_30 : decode cX7_oneStepMore 30 = .ok (.iload_n 1, 1) := by decide +kernel
theorem dX7_oneStepMore_31 : decode cX7_oneStepMore 31 = .ok (.iconst 1, 1) := by decide +kernel
theorem dX7_oneStepMore_32 : decode cX7_oneStepMore 32 = .ok (.isub, 1) := by decide +kernel
theorem dX7_oneStepMore_33 : decode cX7_oneStepMore 33 = .ok (.invokevirtual 225, 3) := by decide +kernel
theorem dX7_oneStepMore_36 : decode cX7_oneStepMore 36 = .ok (.ifCond .lt 7, 3) := by decide +kernel
theorem dX7_oneStepMore_39 : decode cX7_oneStepMore 39 = .ok (.iconst 1, 1) := by decide +kernel
theorem dX7_oneStepMore_40 : decode cX7_oneStepMore 40 = .ok (.goto 4, 3) := by decide +kernel
theorem dX7_oneStepMore_43 : decode cX7_oneStepMore 43 = .ok (.iconst 0, 1) := by decide +kernel
theorem dX7_oneStepMore_44 : decode cX7_oneStepMore 44 = .ok (.istore 4, 2) := by decide +kernel
theorem dX7_oneStepMore_46 : decode cX7_oneStepMore 46 = .ok (.aload_n 0, 1) := by decide +kernel
theorem dX7_oneStepMore_47 : decode cX7_oneStepMore 47 = .ok (.getfield 37, 3) := by decide +kernel
theorem dX7_oneStepMore_50 : decode cX7_oneStepMore 50 = .ok (.iload_n 3, 1) := by decide +kernel
theorem dX7_oneStepMore_51 : decode cX7_oneStepMore 51 = .ok (.iload 4, 2) := by decide +kernel
theorem dX7_oneStepMore_53 : decode cX7_oneStepMore 53 = .ok (.ifCond .eq 7, 3) := by decide +kernel
theorem dX7_oneStepMore_56 : decode cX7_oneStepMore 56 = .ok (.iload_n 1, 1) := by decide +kernel
theorem dX7_oneStepMore_57 : decode cX7_oneStepMore 57 = .ok (.goto 9, 3) := by decide +kernel
theorem dX7_oneStepMore_60 : decode cX7_oneStepMore 60 = .ok (.aload_n 0, 1) := by decide +kernel
theorem dX7_oneStepMore_61 : decode cX7_oneStepMore 61 = .ok (.getfield 37, 3) := by decide +kernel
theorem dX7_oneStepMore_64 : decode cX7_oneStepMore 64 = .ok (.iload_n 3, 1) := by decide +kernel
theorem dX7_oneStepMore_65 : decode cX7_oneStepMore 65 = .ok (.iaload, 1) := by decide +kernel
theorem dX7_oneStepMore_66 : decode cX7_oneStepMore 66 = .ok (.iastore, 1) := by decide +kernel
theorem dX7_oneStepMore_67 : decode cX7_oneStepMore 67 = .ok (.iload_n 2, 1) := by decide +kernel
theorem dX7_oneStepMore_68 : decode cX7_oneStepMore 68 = .ok (.ifCond .ne 8, 3) := by decide +kernel
theorem dX7_oneStepMore_71 : decode cX7_oneStepMore 71 = .ok (.iload 4, 2) := by decide +kernel
theorem dX7_oneStepMore_73 : decode cX7_oneStepMore 73 = .ok (.ifCond .eq 7, 3) := by decide +kernel
theorem dX7_oneStepMore_76 : decode cX7_oneStepMore 76 = .ok (.iconst 1, 1) := by decide +kernel
theorem dX7_oneStepMore_77 : decode cX7_oneStepMore 77 = .ok (.goto 4, 3) := by decide +kernel
theorem dX7_oneStepMore_80 : decode cX7_oneStepMore 80 = .ok (.iconst 0, 1) := by decide +kernel
theorem dX7_oneStepMore_81 : decode cX7_oneStepMore 81 = .ok (.istore_n 2, 1) := by decide +kernel
theorem dX7_oneStepMore_82 : decode cX7_oneStepMore 82 = .ok (.iinc 3 1, 3) := by decide +kernel
theorem dX7_oneStepMore_85 : decode cX7_oneStepMore 85 = .ok (.goto (-81), 3) := by decide +kernel
theorem dX7_oneStepMore_88 : decode cX7_oneStepMore 88 = .ok (.iload_n 2, 1) := by decide +kernel
theorem dX7_oneStepMore_89 : decode cX7_oneStepMore 89 = .ok (.ireturn, 1) := by decide +kernel
set_option maxRecDepth 20000 in
theorem ggX7_course_X7_isCell : GoodIn wsX7_course wsX7_isCell := goodIn_r _ [6, 7, 8, 9, 5, 10] (by decide +kernel) (by decide +kernel)
set_option maxRecDepth 20000 in
theorem gX7_course_X7_isCell : GoodIn wsX7_course (va_wsS RX7 92 yX7_isCell wsX7_isCell) := goodIn_app (goodIn_of _ (by decide +kernel)) ggX7_course_X7_isCell
set_option maxRecDepth 20000 in
theorem ggX7_course_X7_in : GoodIn wsX7_course wsX7_in := goodIn_r _ [10] (by decide +kernel) (by decide +kernel)
set_option maxRecDepth 20000 in
theorem gX7_course_X7_in : GoodIn wsX7_course (va_wsS RX7 71 yX7_in wsX7_in) := goodIn_app (goodIn_of _ (by decide +kernel)) ggX7_course_X7_in
set_option maxRecDepth 20000 in
theorem ggX7_course_X7_oneStepMore : GoodIn wsX7_course wsX7_oneStepMore := goodIn_r _ [14, 1, 2, 15, 16, 17, 5, 18, 19, 20, 21, 22, 23, 24, 25, 26, 27, 28, 29, 30, 31, 8, 9, 10, 32, 33, 34, 35, 36, 37, 38, 39, 40, 41, 42, 43, 44, 45, 46, 47, 48, 49, 50, 51, 52, 53, 54, 55, 56, 57, 58, 59, 60, 61, 62, 63, 64, 65] (by decide +kernel) (by decide +kernel)
set_option maxRecDepth 20000 in
theorem gX7_course_X7_oneStepMore : GoodIn wsX7_course (wsV RX7 228 RX7 yX7_oneStepMore wsX7_oneStepMore) := goodIn_app (goodIn_of _ (by decide +kernel)) ggX7_course_X7_oneStepMore
set_option maxRecDepth 20000 in
theorem ggX7_course_X7_wayTo : GoodIn wsX7_course wsX7_wayTo := goodIn_r _ [18, 1, 19, 20, 5, 21, 22, 23, 24, 25, 26, 27, 28, 29, 30, 31, 8, 9, 10, 32, 33, 34, 35, 36, 37, 38, 39, 40, 41, 42, 43, 44, 45, 46, 47, 48, 49, 50, 51, 52, 53, 54, 55, 56, 57, 58, 59, 60, 61, 62, 63, 64, 65] (by decide +kernel) (by decide +kernel)
set_option maxRecDepth 20000 in
theorem gX7_course_X7_wayTo : GoodIn wsX7_course (wsV RX7 225 RX7 yX7_wayTo wsX7_wayTo) := goodIn_app (goodIn_of _ (by decide +kernel)) ggX7_course_X7_wayTo
