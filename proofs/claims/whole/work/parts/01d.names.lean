theorem dX7_course_0 : decode cX7_course 0 = .ok (.iload_n 1, 1) := by decide +kernel
theorem dX7_course_1 : decode cX7_course 1 = .ok (.invokestatic 92, 3) := by decide +kernel
theorem dX7_course_4 : decode cX7_course 4 = .ok (.ifCond .eq 10, 3) := by decide +kernel
theorem dX7_course_7 : decode cX7_course 7 = .ok (.iload_n 2, 1) := by decide +kernel
theorem dX7_course_8 : decode cX7_course 8 = .ok (.invokestatic 92, 3) := by decide +kernel
theorem dX7_course_11 : decode cX7_course 11 = .ok (.ifCond .ne 5, 3) := by decide +kernel
theorem dX7_course_14 : decode cX7_course 14 = .ok (.iconst (-1), 1) := by decide +kernel
theorem dX7_course_15 : decode cX7_course 15 = .ok (.ireturn, 1) := by decide +kernel
theorem dX7_course_16 : decode cX7_course 16 = .ok (.iload_n 3, 1) := by decide +kernel
theorem dX7_course_17 : decode cX7_course 17 = .ok (.i2l, 1) := by decide +kernel
theorem dX7_course_18 : decode cX7_course 18 = .ok (.lconst 0, 1) := by decide +kernel
theorem dX7_course_19 : decode cX7_course 19 = .ok (.lconst 1, 1) := by decide +kernel
theorem dX7_course_20 : decode cX7_course 20 = .ok (.invokestatic 71, 3) := by decide +kernel
theorem dX7_course_23 : decode cX7_course 23 = .ok (.ifCond .ne 6, 3) := by decide +kernel
theorem dX7_course_26 : decode cX7_course 26 = .ok (.bipush (-2), 2) := by decide +kernel
theorem dX7_course_28 : decode cX7_course 28 = .ok (.ireturn, 1) := by decide +kernel
theorem dX7_course_29 : decode cX7_course 29 = .ok (.iconst 0, 1) := by decide +kernel
theorem dX7_course_30 : decode cX7_course 30 = .ok (.istore 4, 2) := by decide +kernel
theorem dX7_course_32 : decode cX7_course 32 = .ok (.iload 4, 2) := by decide +kernel
theorem dX7_course_34 : decode cX7_course 34 = .ok (.bipush 64, 2) := by decide +kernel
theorem dX7_course_36 : decode cX7_course 36 = .ok (.if_icmp .ge 38, 3) := by decide +kernel
theorem dX7_course_39 : decode cX7_course 39 = .ok (.aload_n 0, 1) := by decide +kernel
theorem dX7_course_40 : decode cX7_course 40 = .ok (.getfield 37, 3) := by decide +kernel
theorem dX7_course_43 : decode cX7_course 43 = .ok (.iload 4, 2) := by decide +kernel
theorem dX7_course_45 : decode cX7_course 45 = .ok (.iload 4, 2) := by decide +kernel
theorem dX7_course_47 : decode cX7_course 47 = .ok (.iload_n 2, 1) := by decide +kernel
theorem dX7_course_48 : decode cX7_course 48 = .ok (.if_icmp .ne 17, 3) := by decide +kernel
theorem dX7_course_51 : decode cX7_course 51 = .ok (.aload_n 0, 1) := by decide +kernel
theorem dX7_course_52 : decode cX7_course 52 = .ok (.getfield 7, 3) := by decide +kernel
theorem dX7_course_55 : decode cX7_course 55 = .ok (.iload 4, 2) := by decide +kernel
theorem dX7_course_57 : decode cX7_course 57 = .ok (.iaload, 1) := by decide +kernel
theorem dX7_course_58 : decode cX7_course 58 = .ok (.ifCond .ne 7, 3) := by decide +kernel
theorem dX7_course_61 : decode cX7_course 61 = .ok (.iconst 0, 1) := by decide +kernel
theorem dX7_course_62 : decode cX7_course 62 = .ok (.goto 5, 3) := by decide +kernel
theorem dX7_course_65 : decode cX7_course 65 = .ok (.bipush (-6), 2) := by decide +kernel
theorem dX7_course_67 : decode cX7_course 67 = .ok (.iastore, 1) := by decide +kernel
theorem dX7_course_68 : decode cX7_course 68 = .ok (.iinc 4 1, 3) := by decide +kernel
theorem dX7_course_71 : decode cX7_course 71 = .ok (.goto (-39), 3) := by decide +kernel
theorem dX7_course_74 : decode cX7_course 74 = .ok (.iconst 1, 1) := by decide +kernel
theorem dX7_course_75 : decode cX7_course 75 = .ok (.istore 4, 2) := by decide +kernel
theorem dX7_course_77 : decode cX7_course 77 = .ok (.iconst 1, 1) := by decide +kernel
theorem dX7_course_78 : decode cX7_course 78 = .ok (.istore 5, 2) := by decide +kernel
theorem dX7_course_80 : decode cX7_course 80 = .ok (.iload 4, 2) := by decide +kernel
theorem dX7_course_82 : decode cX7_course 82 = .ok (.ifCond .eq 17, 3) := by decide +kernel
theorem dX7_course_85 : decode cX7_course 85 = .ok (.aload_n 0, 1) := by decide +kernel
theorem dX7_course_86 : decode cX7_course 86 = .ok (.iload 5, 2) := by decide +kernel
theorem dX7_course_88 : decode cX7_course 88 = .ok (.invokevirtual 228, 3) := by decide +kernel
theorem dX7_course_91 : decode cX7_course 91 = .ok (.istore 4, 2) := by decide +kernel
theorem dX7_course_93 : decode cX7_course 93 = .ok (.iinc 5 1, 3) := by decide +kernel
theorem dX7_course_96 : decode cX7_course 96 = .ok (.goto (-16), 3) := by decide +kernel
theorem dX7_course_99 : decode cX7_course 99 = .ok (.iload_n 3, 1) := by decide +kernel
theorem dX7_course_100 : decode cX7_course 100 = .ok (.ifCond .ne 12, 3) := by decide +kernel
theorem dX7_course_103 : decode cX7_course 103 = .ok (.aload_n 0, 1) := by decide +kernel
theorem dX7_course_104 : decode cX7_course 104 = .ok (.getfield 37, 3) := by decide +kernel
theorem dX7_course_107 : decode cX7_course 107 = .ok (.iload_n 1, 1) := by decide +kernel
theorem dX7_course_108 : decode cX7_course 108 = .ok (.iaload, 1) := by decide +kernel
theorem dX7_course_109 : decode cX7_course 109 = .ok (.goto 31, 3) := by decide +kernel
theorem dX7_course_112 : decode cX7_course 112 = .ok (.aload_n 0, 1) := by decide +kernel
theorem dX7_course_113 : decode cX7_course 113 = .ok (.getfield 37, 3) := by decide +kernel
theorem dX7_course_116 : decode cX7_course 116 = .ok (.iload_n 1, 1) := by decide +kernel
theorem dX7_course_117 : decode cX7_course 117 = .ok (.iaload, 1) := by decide +kernel
theorem dX7_course_118 : decode cX7_course 118 = .ok (.iconst 1, 1) := by decide +kernel
theorem dX7_course_119 : decode cX7_course 119 = .ok (.if_icmp .ge 8, 3) := by decide +kernel
theorem dX7_course_122 : decode cX7_course 122 = .ok (.bipush (-6), 2) := by decide +kernel
theorem dX7_course_124 : decode cX7_course 124 = .ok (.goto 16, 3) := by decide +kernel
theorem dX7_course_127 : decode cX7_course 127 = .ok (.aload_n 0, 1) := by decide +kernel
theorem dX7_course_128 : decode cX7_course 128 = .ok (.iload_n 1, 1) := by decide +kernel
theorem dX7_course_129 : decode cX7_course 129 = .ok (.aload_n 0, 1) := by decide +kernel
theorem dX7_course_130 : decode cX7_course 130 = .ok (.getfield 37, 3) := by decide +kernel
theorem dX7_course_133 : decode cX7_course 133 = .ok (.iload_n 1, 1) := by decide +kernel
theorem dX7_course_134 : decode cX7_course 134 = .ok (.iaload, 1) := by decide +kernel
theorem dX7_course_135 : decode cX7_course 135 = .ok (.iconst 1, 1) := by decide +kernel
theorem dX7_course_136 : decode cX7_course 136 = .ok (.isub, 1) := by decide +kernel
theorem dX7_course_137 : decode cX7_course 137 = .ok (.invokevirtual 225, 3) := by decide +kernel
theorem dX7_course_140 : decode cX7_course 140 = .ok (.ireturn, 1) := by decide +kernel
set_option maxRecDepth 20000 in
theorem ggX7_bears_X7_ahead : GoodIn wsX7_bears wsX7_ahead := goodIn_r _ [4, 5, 6, 3, 7, 8, 9, 10, 11, 12, 13, 14, 15, 16, 17] (by decide +kernel) (by decide +kernel)
set_option maxRecDepth 20000 in
theorem gX7_bears_X7_ahead : GoodIn wsX7_bears (va_wsS RX7 137 yX7_ahead wsX7_ahead) := goodIn_app (goodIn_of _ (by decide +kernel)) ggX7_bears_X7_ahead
theorem dX7_bears_0 : decode cX7_bears 0 = .ok (.iload_n 1, 1) := by decide +kernel
theorem dX7_bears_1 : decode cX7_bears 1 = .ok (.iload_n 2, 1) := by decide +kernel
theorem dX7_bears_2 : decode cX7_bears 2 = .ok (.invokestatic 137, 3) := by decide +kernel
theorem dX7_bears_5 : decode cX7_bears 5 = .ok (.istore_n 3, 1) := by decide +kernel
theorem dX7_bears_6 : decode cX7_bears 6 = .ok (.iconst 0, 1) := by decide +kernel
theorem dX7_bears_7 : decode cX7_bears 7 = .ok (.istore 4, 2) := by decide +kernel
theorem dX7_bears_9 : decode cX7_bears 9 = .ok (.iload_n 3, 1) := by decide +kernel
theorem dX7_bears_10 : decode cX7_bears 10 = .ok (.ifCond .lt 29, 3) := by decide +kernel
theorem dX7_bears_13 : decode cX7_bears 13 = .ok (.iload 4, 2) := by decide +kernel
theorem dX7_bears_15 : decode cX7_bears 15 = .ok (.ifCond .ne 8, 3) := by decide +kernel
theorem dX7_bears_18 : decode cX7_bears 18 = .ok (.iload_n 3, 1) := by decide +kernel
theorem dX7_bears_19 : decode cX7_bears 19 = .ok (.iload_n 0, 1) := by decide +kernel
theorem dX7_bears_20 : decode cX7_bears 20 = .ok (.if_icmp .ne 7, 3) := by decide +kernel
theorem dX7_bears_23 : decode cX7_bears 23 = .ok (.iconst 1, 1) := by decide +kernel
theorem dX7_bears_24 : decode cX7_bears 24 = .ok (.goto 4, 3) := by decide +kernel
theorem dX7_bears_27 : decode cX7_bears 27 = .ok (.iconst 0, 1) := by decide +kernel
theorem dX7_bears_28 : decode cX7_bears 28 = .ok (.istore 4, 2) := by decide +kernel
theorem dX7_bears_30 : decode cX7_bears 30 = .ok (.iload_n 3, 1) := by decide +kernel
theorem dX7_bears_31 : decode cX7_bears 31 = .ok (.iload_n 2, 1) := by decide +kernel
theorem dX7_bears_32 : decode cX7_bears 32 = .ok (.invokestatic 137, 3) := by decide +kernel
theorem dX7_bears_35 : decode cX7_bears 35 = .ok (.istore_n 3, 1) := by decide +kernel
theorem dX7_bears_36 : decode cX7_bears 36 = .ok (.goto (-27), 3) := by decide +kernel
theorem dX7_bears_39 : decode cX7_bears 39 = .ok (.iload 4, 2) := by decide +kernel
theorem dX7_bears_41 : decode cX7_bears 41 = .ok (.ireturn, 1) := by decide +kernel
set_option maxRecDepth 20000 in
theorem ggX7_cross_X7_isCell : GoodIn wsX7_cross wsX7_isCell := goodIn_r _ [4, 5, 6, 7, 3, 8] (by decide +kernel) (by decide +kernel)
set_option maxRecDepth 20000 in
theorem gX7_cross_X7_isCell : GoodIn wsX7_cross (va_wsS RX7 92 yX7_isCell wsX7_isCell) := goodIn_app (goodIn_of _ (by decide +kernel)) ggX7_cross_X7_isCell
set_option maxRecDepth 20000 in
theorem ggX7_cross_X7_isWay : GoodIn wsX7_cross wsX7_isWay := goodIn_r _ [11, 12, 6, 7, 3, 8] (by decide +kernel) (by decide +kernel)
set_option maxRecDepth 20000 in
theorem gX7_cross_X7_isWay : GoodIn wsX7_cross (va_wsS RX7 231 yX7_isWay wsX7_isWay) := goodIn_app (goodIn_of _ (by decide +kernel)) ggX7_cross_X7_isWay
set_option maxRecDepth 20000 in
theorem ggX7_cross_X7_in : GoodIn wsX7_cross wsX7_in := goodIn_r _ [8] (by decide +kernel) (by decide +kernel)
set_option maxRecDepth 20000 in
theorem gX7_cross_X7_in : GoodIn wsX7_cross (va_wsS RX7 71 yX7_in wsX7_in) := goodIn_app (goodIn_of _ (by decide +kernel)) ggX7_cross_X7_in
set_option maxRecDepth 20000 in
theorem ggX7_cross_X7_bears : GoodIn wsX7_cross wsX7_bears := goodIn_r _ [15, 16, 17, 3, 18, 19, 20, 21, 22, 23, 24, 25, 26, 27, 12, 6, 7, 8] (by decide +kernel) (by decide +kernel)
set_option maxRecDepth 20000 in
theorem gX7_cross_X7_bears : GoodIn wsX7_cross (va_wsS RX7 234 yX7_bears wsX7_bears) := goodIn_app (goodIn_of _ (by decide +kernel)) ggX7_cross_X7_bears
theorem dX7_cross_0 : decode cX7_cross 0 = .ok (.iload_n 1, 1) := by decide +kernel
theorem dX7_cross_1 : decode cX7_cross 1 = .ok (.invokestatic 92, 3) := by decide +kernel
theorem dX7_cross_4 : decode cX7_cross 4 = .ok (.ifCond .eq 10, 3) := by decide +kernel
theorem dX7_cross_7 : decode cX7_cross 7 = .ok (.iload_n 3, 1) := by decide +kernel
theorem dX7_cross_8 : decode cX7_cross 8 = .ok (.invokestatic 92, 3) := by decide +kernel
theorem dX7_cross_11 : decode cX7_cross 11 = .ok (.ifCond .ne 5, 3) := by decide +kernel
theorem dX7_cross_14 : decode cX7_cross 14 = .ok (.iconst (-1), 1) := by decide +kernel
theorem dX7_cross_15 : decode cX7_cross 15 = .ok (.ireturn, 1) := by decide +kernel
theorem dX7_cross_16 : decode cX7_cross 16 = .ok (.iload_n 2, 1) := by decide +kernel
theorem dX7_cross_17 : decode cX7_cross 17 = .ok (.invokestatic 231, 3) := by decide +kernel
theorem dX7_cross_20 : decode cX7_cross 20 = .ok (.ifCond .eq 22, 3) := by decide +kernel
theorem dX7_cross_23 : decode cX7_cross 23 = .ok (.iload 4, 2) := by decide +kernel
theorem dX7_cross_25 : decode cX7_cross 25 = .ok (.invokestatic 231, 3) := by decide +kernel
theorem dX7_cross_28 : decode cX7_cross 28 = .ok (.ifCond .eq 14, 3) := by decide +kernel
theorem dX7_cross_31 : decode cX7_cross 31 = .ok (.iload 5, 2) := by decide +kernel
theorem dX7_cross_33 : decode cX7_cross 33 = .ok (.i2l, 1) := by decide +kernel
theorem dX7_cross_34 : decode cX7_cross 34 = .ok (.lconst 0, 1) := by decide +kernel
theorem dX7_cross_35 : decode cX7_cross 35 = .ok (.lconst 1, 1) := by decide +kernel
theorem dX7_cross_36 : decode cX7_cross 36 = .ok (.invokestatic 71, 3) := by decide +kernel
theorem dX7_cross_39 : decode cX7_cross 39 = .ok (.ifCond .ne 6, 3) := by decide +kernel
theorem dX7_cross_42 : decode cX7_cross 42 = .ok (.bipush (-2), 2) := by decide +kernel
theorem dX7_cross_44 : decode cX7_cross 44 = .ok (.ireturn, 1) := by decide +kernel
theorem dX7_cross_45 : decode cX7_cross 45 = .ok (.iconst 0, 1) := by decide +kernel
theorem dX7_cross_46 : decode cX7_cross 46 = .ok (.istore 6, 2) := by decide +kernel
theorem dX7_cross_48 : decode cX7_cross 48 = .ok (.bipush (-6), 2) := by decide +kernel
theorem dX7_cross_50 : decode cX7_cross 50 = .ok (.istore 7, 2) := by decide +kernel
theorem dX7_cross_52 : decode cX7_cross 52 = .ok (.bipush 63, 2) := by decide +kernel
theorem dX7_cross_54 : decode cX7_cross 54 = .ok (.istore 8, 2) := by decide +kernel
theorem dX7_cross_56 : decode cX7_cross 56 = .ok (.iload 8, 2) := by decide +kernel
theorem dX7_cross_58 : decode cX7_cross 58 = .ok (.ifCond .lt 66, 3) := by decide +kernel
theorem dX7_cross_61 : decode cX7_cross 61 = .ok (.iload 8, 2) := by decide +kernel
theorem dX7_cross_63 : decode cX7_cross 63 = .ok (.iload_n 1, 1) := by decide +kernel
theorem dX7_cross_64 : decode cX7_cross 64 = .ok (.iload_n 2, 1) := by decide +kernel
theorem dX7_cross_65 : decode cX7_cross 65 = .ok (.invokestatic 234, 3) := by decide +kernel
theorem dX7_cross_68 : decode cX7_cross 68 = .ok (.ifCond .eq 18, 3) := by decide +kernel
theorem dX7_cross_71 : decode cX7_cross 71 = .ok (.iload 8, 2) := by decide +kernel
theorem dX7_cross_73 : decode cX7_cross 73 = .ok (.iload_n 3, 1) := by decide +kernel
theorem dX7_cross_74 : decode cX7_cross 74 = .ok (.iload 4, 2) := by decide +kernel
theorem dX7_cross_76 : decode cX7_cross 76 = .ok (.invokestatic 234, 3) := by decide +kernel
theorem dX7_cross_79 : decode cX7_cross 79 = .ok (.ifCond .eq 7, 3) := by decide +kernel
theorem dX7_cross_82 : decode cX7_cross 82 = .ok (.iconst 1, 1) := by decide +kernel
theorem dX7_cross_83 : decode cX7_cross 83 = .ok (.goto 4, 3) := by decide +kernel
theorem dX7_cross_86 : decode cX7_cross 86 = .ok (.iconst 0, 1) := by decide +kernel
theorem dX7_cross_87 : decode cX7_cross 87 = .ok (.istore 9, 2) := by decide +kernel
theorem dX7_cross_89 : decode cX7_cross 89 = .ok (.iload 6, 2) := by decide +kernel
theorem dX7_cross_91 : decode cX7_cross 91 = .ok (.iload 9, 2) := by decide +kernel
theorem dX7_cross_93 : decode cX7_cross 93 = .ok (.ifCond .eq 7, 3) := by decide +kernel
theorem dX7_cross_96 : decode cX7_cross 96 = .ok (.iconst 1, 1) := by decide +kernel
theorem dX7_cross_97 : decode cX7_cross 97 = .ok (.goto 4, 3) := by decide +kernel
theorem dX7_cross_100 : decode cX7_cross 100 = .ok (.iconst 0, 1) := by decide +kernel
theorem dX7_cross_101 : decode cX7_cross 101 = .ok (.iadd, 1) := by decide +kernel
theorem dX7_cross_102 : decode cX7_cross 102 = .ok (.istore 6, 2) := by decide +kernel
theorem dX7_cross_104 : decode cX7_cross 104 = .ok (.iload 9, 2) := by decide +kernel
theorem dX7_cross_106 : decode cX7_cross 106 = .ok (.ifCond .eq 8, 3) := by decide +kernel
theorem dX7_cross_109 : decode cX7_cross 109 = .ok (.iload 8, 2) := by decide +kernel
theorem dX7_cross_111 : decode cX7_cross 111 = .ok (.goto 5, 3) := by decide +kernel
theorem dX7_cross_114 : decode cX7_cross 114 = .ok (.iload 7, 2) := by decide +kernel
theorem dX7_cross_116 : decode cX7_cross 116 = .ok (.istore 7, 2) := by decide +kernel
theorem dX7_cross_118 : decode cX7_cross 118 = .ok (.iinc 8 (-1), 3) := by decide +kernel
theorem dX7_cross_121 : decode cX7_cross 121 = .ok (.goto (-65), 3) := by decide +kernel
theorem dX7_cross_124 : decode cX7_cross 124 = .ok (.iload 5, 2) := by decide +kernel
theorem dX7_cross_126 : decode cX7_cross 126 = .ok (.ifCond .ne 8, 3) := by decide +kernel
theorem dX7_cross_129 : decode cX7_cross 129 = .ok (.iload 6, 2) := by decide +kernel
theorem dX7_cross_131 : decode cX7_cross 131 = .ok (.goto 5, 3) := by decide +kernel
theorem dX7_cross_134 : decode cX7_cross 134 = .ok (.iload 7, 2) := by decide +kernel
theorem dX7_cross_136 : decode cX7_cross 136 = .ok (.ireturn, 1) := by decide +kernel
theorem dX7_readPieces_0 : decode cX7_readPieces 0 = .ok (.iload_n 1, 1) := by decide +kernel
theorem dX7_readPieces_1 : decode cX7_readPieces 1 = .ok (.istore_n 3, 1) := by decide +kernel
theorem dX7_readPieces_2 : decode cX7_readPieces 2 = .ok (.iload_n 1, 1) := by decide +kernel
theorem dX7_readPieces_3 : decode cX7_readPieces 3 = .ok (.ifCond .lt 7, 3) := by decide +kernel
theorem dX7_readPieces_6 : decode cX7_readPieces 6 = .ok (.iconst 1, 1) := by decide +kernel
theorem dX7_readPieces_7 : decode cX7_readPieces 7 = .ok (.goto 4, 3) := by decide +kernel
theorem dX7_readPieces_10 : decode cX7_readPieces 10 = .ok (.iconst 0, 1) := by decide +kernel
theorem dX7_readPieces_11 : decode cX7_readPieces 11 = .ok (.istore 4, 2) := by decide +kernel
theorem dX7_readPieces_13 : decode cX7_readPieces 13 = .ok (.iload_n 2, 1) := by decide +kernel
theorem dX7_readPieces_14 : decode cX7_readPieces 14 = .ok (.iconst 1, 1) := by decide +kernel
theorem dX7_readPieces_15 : decode cX7_readPieces 15 = .ok (.isub, 1) := by decide +kernel
theorem dX7_readPieces_16 : decode cX7_readPieces 16 = .ok (.istore 5, 2) := by decide +kernel
theorem dX7_readPieces_18 : decode cX7_readPieces 18 = .ok (.iload 5, 2) := by decide +kernel
theorem dX7_readPieces_20 : decode cX7_readPieces 20 = .ok (.ifCond .lt 47, 3) := by decide +kernel
theorem dX7_readPieces_23 : decode cX7_readPieces 23 = .ok (.aload_n 0, 1) := by decide +kernel
theorem dX7_readPieces_24 : decode cX7_readPieces 24 = .ok (.getfield 40, 3) := by decide +kernel
theorem dX7_readPieces_27 : decode cX7_readPieces 27 = .ok (.iload 5, 2) := by decide +kernel
theorem dX7_readPieces_29 : decode cX7_readPieces 29 = .ok (.iload_n 3, 1) := by decide +kernel
theorem dX7_readPieces_30 : decode cX7_readPieces 30 = .ok (.bipush 10, 2) := by decide +kernel
theorem dX7_readPieces_32 : decode cX7_readPieces 32 = .ok (.irem, 1) := by decide +kernel
theorem dX7_readPieces_33 : decode cX7_readPieces 33 = .ok (.iastore, 1) := by decide +kernel
theorem dX7_readPieces_34 : decode cX7_readPieces 34 = .ok (.iload 4, 2) := by decide +kernel
theorem dX7_readPieces_36 : decode cX7_readPieces 36 = .ok (.ifCond .eq 17, 3) := by decide +kernel
theorem dX7_readPieces_39 : decode cX7_readPieces 39 = .ok (.aload_n 0, 1) := by decide +kernel
theorem dX7_readPieces_40 : decode cX7_readPieces 40 = .ok (.getfield 40, 3) := by decide +kernel
theorem dX7_readPieces_43 : decode cX7_readPieces 43 = .ok (.iload 5, 2) := by decide +kernel
theorem dX7_readPieces_45 : decode cX7_readPieces 45 = .ok (.iaload, 1) := by decide +kernel
theorem dX7_readPieces_46 : decode cX7_readPieces 46 = .ok (.ifCond .le 7, 3) := by decide +kernel
theorem dX7_readPieces_49 : decode cX7_readPieces 49 = .ok (.iconst 1, 1) := by decide +kernel
theorem dX7_readPieces_50 : decode cX7_readPieces 50 = .ok (.goto 4, 3) := by decide +kernel
theorem dX7_readPieces_53 : decode cX7_readPieces 53 = .ok (.iconst 0, 1) := by decide +kernel
theorem dX7_readPieces_54 : decode cX7_readPieces 54 = .ok (.istore 4, 2) := by decide +kernel
theorem dX7_readPieces_56 : decode cX7_readPieces 56 = .ok (.iload_n 3, 1) := by decide +kernel
theorem dX7_readPieces_57 : decode cX7_readPieces 57 = .ok (.bipush 10, 2) := by decide +kernel
theorem dX7_readPieces_59 : decode cX7_readPieces 59 = .ok (.idiv, 1) := by decide +kernel
theorem dX7_readPieces_60 : decode cX7_readPieces 60 = .ok (.istore_n 3, 1) := by decide +kernel
theorem dX7_readPieces_61 : decode cX7_readPieces 61 = .ok (.iinc 5 (-1), 3) := by decide +kernel
theorem dX7_readPieces_64 : decode cX7_readPieces 64 = .ok (.goto (-46), 3) := by decide +kernel
theorem dX7_readPieces_67 : decode cX7_readPieces 67 = .ok (.iload 4, 2) := by decide +kernel
theorem dX7_readPieces_69 : decode cX7_readPieces 69 = .ok (.ifCond .eq 11, 3) := by decide +kernel
theorem dX7_readPieces_72 : decode cX7_readPieces 72 = .ok (.iload_n 3, 1) := by decide +kernel
theorem dX7_readPieces_73 : decode cX7_readPieces 73 = .ok (.ifCond .ne 7, 3) := by decide +kernel
theorem dX7_readPieces_76 : decode cX7_readPieces 76 = .ok (.iconst 1, 1) := by decide +kernel
theorem dX7_readPieces_77 : decode cX7_readPieces 77 = .ok (.goto 4, 3) := by decide +kernel
theorem dX7_readPieces_80 : decode cX7_readPieces 80 = .ok (.iconst 0, 1) := by decide +kernel
theorem dX7_readPieces_81 : decode cX7_readPieces 81 = .ok (.ireturn, 1) := by decide +kernel
theorem dX7_cutMore_0 : decode cX7_cutMore 0 = .ok (.iload_n 0, 1) := by decide +kernel
theorem dX7_cutMore_1 : decode cX7_cutMore 1 = .ok (.bipush 100, 2) := by decide +kernel
theorem dX7_cutMore_3 : decode cX7_cutMore 3 = .ok (.irem, 1) := by decide +kernel
theorem dX7_cutMore_4 : decode cX7_cutMore 4 = .ok (.iload_n 1, 1) := by decide +kernel
theorem dX7_cutMore_5 : decode cX7_cutMore 5 = .ok (.iadd, 1) := by decide +kernel
theorem dX7_cutMore_6 : decode cX7_cutMore 6 = .ok (.istore_n 3, 1) := by decide +kernel
theorem dX7_cutMore_7 : decode cX7_cutMore 7 = .ok (.iload_n 3, 1) := by decide +kernel
theorem dX7_cutMore_8 : decode cX7_cutMore 8 = .ok (.iload_n 2, 1) := by decide +kernel
theorem dX7_cutMore_9 : decode cX7_cutMore 9 = .ok (.if_icmp .gt 9, 3) := by decide +kernel
theorem dX7_cutMore_12 : decode cX7_cutMore 12 = .ok (.iload_n 0, 1) := by decide +kernel
theorem dX7_cutMore_13 : decode cX7_cutMore 13 = .ok (.iload_n 1, 1) := by decide +kernel
theorem dX7_cutMore_14 : decode cX7_cutMore 14 = .ok (.iadd, 1) := by decide +kernel
theorem dX7_cutMore_15 : decode cX7_cutMore 15 = .ok (.goto 14, 3) := by decide +kernel
theorem dX7_cutMore_18 : decode cX7_cutMore 18 = .ok (.iload_n 0, 1) := by decide +kernel
theorem dX7_cutMore_19 : decode cX7_cutMore 19 = .ok (.iload_n 0, 1) := by decide +kernel
theorem dX7_cutMore_20 : decode cX7_cutMore 20 = .ok (.bipush 100, 2) := by decide +kernel
theorem dX7_cutMore_22 : decode cX7_cutMore 22 = .ok (.irem, 1) := by decide +kernel
theorem dX7_cutMore_23 : decode cX7_cutMore 23 = .ok (.isub, 1) := by decide +kernel
theorem dX7_cutMore_24 : decode cX7_cutMore 24 = .ok (.bipush 100, 2) := by decide +kernel
theorem dX7_cutMore_26 : decode cX7_cutMore 26 = .ok (.iadd, 1) := by decide +kernel
theorem dX7_cutMore_27 : decode cX7_cutMore 27 = .ok (.iload_n 1, 1) := by decide +kernel
theorem dX7_cutMore_28 : decode cX7_cutMore 28 = .ok (.iadd, 1) := by decide +kernel
theorem dX7_cutMore_29 : decode cX7_cutMore 29 = .ok (.ireturn, 1) := by decide +kernel
set_option maxRecDepth 20000 in
theorem ggX7_ropesOf_X7_cutMore : GoodIn wsX7_ropesOf wsX7_cutMore := goodIn_r _ [6] (by decide +kernel) (by decide +kernel)
set_option maxRecDepth 20000 in
theorem gX7_ropesOf_X7_cutMore : GoodIn wsX7_ropesOf (va_wsS RX7 238 yX7_cutMore wsX7_cutMore) := goodIn_app (goodIn_of _ (by decide +kernel)) ggX7_ropesOf_X7_cutMore
theorem dX7_ropesOf_0 : decode cX7_ropesOf 0 = .ok (.aload_n 0, 1) := by decide +kernel
theorem dX7_ropesOf_1 : decode cX7_ropesOf 1 = .ok (.getfield 43, 3) := by decide +kernel
theorem dX7_ropesOf_4 : decode cX7_ropesOf 4 = .ok (.iconst 0, 1) := by decide +kernel
theorem dX7_ropesOf_5 : decode cX7_ropesOf 5 = .ok (.iconst 0, 1) := by decide +kernel
theorem dX7_ropesOf_6 : decode cX7_ropesOf 6 = .ok (.iastore, 1) := by decide +kernel
theorem dX7_ropesOf_7 : decode cX7_ropesOf 7 = .ok (.iconst 1, 1) := by decide +kernel
theorem dX7_ropesOf_8 : decode cX7_ropesOf 8 = .ok (.istore_n 3, 1) := by decide +kernel
theorem dX7_ropesOf_9 : decode cX7_ropesOf 9 = .ok (.iload_n 3, 1) := by decide +kernel
theorem dX7_ropesOf_10 : decode cX7_ropesOf 10 = .ok (.iconst 1, 1) := by decide +kernel
theorem dX7_ropesOf_11 : decode cX7_ropesOf 11 = .ok (.iload_n 1, 1) := by decide +kernel
theorem dX7_ropesOf_12 : decode cX7_ropesOf 12 = .ok (.ishl, 1) := by decide +kernel
theorem dX7_ropesOf_13 : decode cX7_ropesOf 13 = .ok (.if_icmp .ge 115, 3) := by decide +kernel
theorem dX7_ropesOf_16 : decode cX7_ropesOf 16 = .ok (.bipush (-6), 2) := by decide +kernel
theorem dX7_ropesOf_18 : decode cX7_ropesOf 18 = .ok (.istore 4, 2) := by decide +kernel
theorem dX7_ropesOf_20 : decode cX7_ropesOf 20 = .ok (.iconst 0, 1) := by decide +kernel
theorem dX7_ropesOf_21 : decode cX7_ropesOf 21 = .ok (.istore 5, 2) := by decide +kernel
theorem dX7_ropesOf_23 : decode cX7_ropesOf 23 = .ok (.iload 5, 2) := by decide +kernel
theorem dX7_ropesOf_25 : decode cX7_ropesOf 25 = .ok (.iload_n 1, 1) := by decide +kernel
theorem dX7_ropesOf_26 : decode cX7_ropesOf 26 = .ok (.if_icmp .ge 88, 3) := by decide +kernel
theorem dX7_ropesOf_29 : decode cX7_ropesOf 29 = .ok (.iload_n 3, 1) := by decide +kernel
theorem dX7_ropesOf_30 : decode cX7_ropesOf 30 = .ok (.iload 5, 2) := by decide +kernel
theorem dX7_ropesOf_32 : decode cX7_ropesOf 32 = .ok (.ishr, 1) := by decide +kernel
theorem dX7_ropesOf_33 : decode cX7_ropesOf 33 = .ok (.iconst 1, 1) := by decide +kernel
theorem dX7_ropesOf_34 : decode cX7_ropesOf 34 = .ok (.iand, 1) := by decide +kernel
theorem dX7_ropesOf_35 : decode cX7_ropesOf 35 = .ok (.iconst 1, 1) := by decide +kernel
theorem dX7_ropesOf_36 : decode cX7_ropesOf 36 = .ok (.if_icmp .ne 7, 3) := by decide +kernel
theorem dX7_ropesOf_39 : decode cX7_ropesOf 39 = .ok (.iconst 1, 1) := by decide +kernel
theorem dX7_ropesOf_40 : decode cX7_ropesOf 40 = .ok (.goto 4, 3) := by decide +kernel
theorem dX7_ropesOf_43 : decode cX7_ropesOf 43 = .ok (.iconst 0, 1) := by decide +kernel
theorem dX7_ropesOf_44 : decode cX7_ropesOf 44 = .ok (.istore 6, 2) := by decide +kernel
theorem dX7_ropesOf_46 : decode cX7_ropesOf 46 = .ok (.iload 6, 2) := by decide +kernel
theorem dX7_ropesOf_48 : decode cX7_ropesOf 48 = .ok (.ifCond .eq 30, 3) := by decide +kernel
theorem dX7_ropesOf_51 : decode cX7_ropesOf 51 = .ok (.aload_n 0, 1) := by decide +kernel
theorem dX7_ropesOf_52 : decode cX7_ropesOf 52 = .ok (.getfield 43, 3) := by decide +kernel
theorem dX7_ropesOf_55 : decode cX7_ropesOf 55 = .ok (.iload_n 3, 1) := by decide +kernel
theorem dX7_ropesOf_56 : decode cX7_ropesOf 56 = .ok (.iconst 1, 1) := by decide +kernel
theorem dX7_ropesOf_57 : decode cX7_ropesOf 57 = .ok (.iload 5, 2) := by decide +kernel
theorem dX7_ropesOf_59 : decode cX7_ropesOf 59 = .ok (.ishl, 1) := by decide +kernel
theorem dX7_ropesOf_60 : decode cX7_ropesOf 60 = .ok (.iconst (-1), 1) := by decide +kernel
theorem dX7_ropesOf_61 : decode cX7_ropesOf 61 = .ok (.ixor, 1) := by decide +kernel
theorem dX7_ropesOf_62 : decode cX7_ropesOf 62 = .ok (.iand, 1) := by decide +kernel
theorem dX7_ropesOf_63 : decode cX7_ropesOf 63 = .ok (.iaload, 1) := by decide +kernel
theorem dX7_ropesOf_64 : decode cX7_ropesOf 64 = .ok (.aload_n 0, 1) := by decide +kernel
theorem dX7_ropesOf_65 : decode cX7_ropesOf 65 = .ok (.getfield 40, 3) := by decide +kernel
theorem dX7_ropesOf_68 : decode cX7_ropesOf 68 = .ok (.iload 5, 2) := by decide +kernel
theorem dX7_ropesOf_70 : decode cX7_ropesOf 70 = .ok (.iaload, 1) := by decide +kernel
theorem dX7_ropesOf_71 : decode cX7_ropesOf 71 = .ok (.iload_n 2, 1) := by decide +kernel
theorem dX7_ropesOf_72 : decode cX7_ropesOf 72 = .ok (.invokestatic 238, 3) := by decide +kernel
theorem dX7_ropesOf_75 : decode cX7_ropesOf 75 = .ok (.goto 5, 3) := by decide +kernel
theorem dX7_ropesOf_78 : decode cX7_ropesOf 78 = .ok (.bipush (-6), 2) := by decide +kernel
theorem dX7_ropesOf_80 : decode cX7_ropesOf 80 = .ok (.istore 7, 2) := by decide +kernel
theorem dX7_ropesOf_82 : decode cX7_ropesOf 82 = .ok (.iload 6, 2) := by decide +kernel
theorem dX7_ropesOf_84 : decode cX7_ropesOf 84 = .ok (.ifCond .eq 20, 3) := by decide +kernel
theorem dX7_ropesOf_87 : decode cX7_ropesOf 87 = .ok (.iload 4, 2) := by decide +kernel
theorem dX7_ropesOf_89 : decode cX7_ropesOf 89 = .ok (.ifCond .lt 10, 3) := by decide +kernel
theorem dX7_ropesOf_92 : decode cX7_ropesOf 92 = .ok (.iload 7, 2) := by decide +kernel
theorem dX7_ropesOf_94 : decode cX7_ropesOf 94 = .ok (.iload 4, 2) := by decide +kernel
theorem dX7_ropesOf_96 : decode cX7_ropesOf 96 = .ok (.if_icmp .ge 8, 3) := by decide +kernel
theorem dX7_ropesOf_99 : decode cX7_ropesOf 99 = .ok (.iload 7, 2) := by decide +kernel
theorem dX7_ropesOf_101 : decode cX7_ropesOf 101 = .ok (.goto 5, 3) := by decide +kernel
theorem dX7_ropesOf_104 : decode cX7_ropesOf 104 = .ok (.iload 4, 2) := by decide +kernel
theorem dX7_ropesOf_106 : decode cX7_ropesOf 106 = .ok (.istore 4, 2) := by decide +kernel
theorem dX7_ropesOf_108 : decode cX7_ropesOf 108 = .ok (.iinc 5 1, 3) := by decide +kernel
theorem dX7_ropesOf_111 : decode cX7_ropesOf 111 = .ok (.goto (-88), 3) := by decide +kernel
theorem dX7_ropesOf_114 : decode cX7_ropesOf 114 = .ok (.aload_n 0, 1) := by decide +kernel
theorem dX7_ropesOf_115 : decode cX7_ropesOf 115 = .ok (.getfield 43, 3) := by decide +kernel
theorem dX7_ropesOf_118 : decode cX7_ropesOf 118 = .ok (.iload_n 3, 1) := by decide +kernel
theorem dX7_ropesOf_119 : decode cX7_ropesOf 119 = .ok (.iload 4, 2) := by decide +kernel
theorem dX7_ropesOf_121 : decode cX7_ropesOf 121 = .ok (.iastore, 1) := by decide +kernel
theorem dX7_ropesOf_122 : decode cX7_ropesOf 122 = .ok (.iinc 3 1, 3) := by decide +kernel
theorem dX7_ropesOf_125 : decode cX7_ropesOf 125 = .ok (.goto (-116), 3) := by decide +kernel
theorem dX7_ropesOf_128 : decode cX7_ropesOf 128 = .ok (.iconst 1, 1) := by decide +kernel
theorem dX7_ropesOf_129 : decode cX7_ropesOf 129 = .ok (.aload_n 0, 1) := by decide +kernel
theorem dX7_ropesOf_130 : decode cX7_ropesOf 130 = .ok (.getfield 43, 3) := by decide +kernel
theorem dX7_ropesOf_133 : decode cX7_ropesOf 133 = .ok (.iconst 1, 1) := by decide +kernel
theorem dX7_ropesOf_134 : decode cX7_ropesOf 134 = .ok (.iload_n 1, 1) := by decide +kernel
theorem dX7_ropesOf_135 : decode cX7_ropesOf 135 = .ok (.ishl, 1) := by decide +kernel
theorem dX7_ropesOf_136 : decode cX7_ropesOf 136 = .ok (.iconst 1, 1) := by decide +kernel
theorem dX7_ropesOf_137 : decode cX7_ropesOf 137 = .ok (.isub, 1) := by decide +kernel
theorem dX7_ropesOf_138 : decode cX7_ropesOf 138 = .ok (.iaload, 1) := by decide +kernel
theorem dX7_ropesOf_139 : decode cX7_ropesOf 139 = .ok (.bipush 100, 2) := by decide +kernel
theorem dX7_ropesOf_141 : decode cX7_ropesOf 141 = .ok (.idiv, 1) := by decide +kernel
theorem dX7_ropesOf_142 : decode cX7_ropesOf 142 = .ok (.iadd, 1) := by decide +kernel
theorem dX7_ropesOf_143 : decode cX7_ropesOf 143 = .ok (.ireturn, 1) := by decide +kernel
theorem dX7_mostPieces_0 : decode cX7_mostPieces 0 = .ok (.iconst 0, 1) := by decide +kernel
theorem dX7_mostPieces_1 : decode cX7_mostPieces 1 = .ok (.istore_n 3, 1) := by decide +kernel
theorem dX7_mostPieces_2 : decode cX7_mostPieces 2 = .ok (.iconst 0, 1) := by decide +kernel
theorem dX7_mostPieces_3 : decode cX7_mostPieces 3 = .ok (.istore 4, 2) := by decide +kernel
theorem dX7_mostPieces_5 : decode cX7_mostPieces 5 = .ok (.iconst 1, 1) := by decide +kernel
theorem dX7_mostPieces_6 : decode cX7_mostPieces 6 = .ok (.istore 5, 2) := by decide +kernel
theorem dX7_mostPieces_8 : decode cX7_mostPieces 8 = .ok (.iload 5, 2) := by decide +kernel
theorem dX7_mostPieces_10 : decode cX7_mostPieces 10 = .ok (.bipush 10, 2) := by decide +kernel
theorem dX7_mostPieces_12 : decode cX7_mostPieces 12 = .ok (.if_icmp .ge 55, 3) := by decide +kernel
theorem dX7_mostPieces_15 : decode cX7_mostPieces 15 = .ok (.iconst 0, 1) := by decide +kernel
theorem dX7_mostPieces_16 : decode cX7_mostPieces 16 = .ok (.istore 6, 2) := by decide +kernel
theorem dX7_mostPieces_18 : decode cX7_mostPieces 18 = .ok (.iload 6, 2) := by decide +kernel
theorem dX7_mostPieces_20 : decode cX7_mostPieces 20 = .ok (.iload_n 1, 1) := by decide +kernel
theorem dX7_mostPieces_21 : decode cX7_mostPieces 21 = .ok (.if_icmp .ge 40, 3) := by decide +kernel
theorem dX7_mostPieces_24 : decode cX7_mostPieces 24 = .ok (.aload_n 0, 1) := by decide +kernel
theorem dX7_mostPieces_25 : decode cX7_mostPieces 25 = .ok (.getfield 40, 3) := by decide +kernel
theorem dX7_mostPieces_28 : decode cX7_mostPieces 28 = .ok (.iload 6, 2) := by decide +kernel
theorem dX7_mostPieces_30 : decode cX7_mostPieces 30 = .ok (.iaload, 1) := by decide +kernel
theorem dX7_mostPieces_31 : decode cX7_mostPieces 31 = .ok (.iload 5, 2) := by decide +kernel
theorem dX7_mostPieces_33 : decode cX7_mostPieces 33 = .ok (.if_icmp .ne 22, 3) := by decide +kernel
theorem dX7_mostPieces_36 : decode cX7_mostPieces 36 = .ok (.iload 4, 2) := by decide +kernel
theorem dX7_mostPieces_38 : decode cX7_mostPieces 38 = .ok (.iload 5, 2) := by decide +kernel
theorem dX7_mostPieces_40 : decode cX7_mostPieces 40 = .ok (.iadd, 1) := by decide +kernel
theorem dX7_mostPieces_41 : decode cX7_mostPieces 41 = .ok (.iload_n 2, 1) := by decide +kernel
theorem dX7_mostPieces_42 : decode cX7_mostPieces 42 = .ok (.if_icmp .gt 13, 3) := by decide +kernel
theorem dX7_mostPieces_45 : decode cX7_mostPieces 45 = .ok (.iload 4, 2) := by decide +kernel
theorem dX7_mostPieces_47 : decode cX7_mostPieces 47 = .ok (.iload 5, 2) := by decide +kernel
theorem dX7_mostPieces_49 : decode cX7_mostPieces 49 = .ok (.iadd, 1) := by decide +kernel
theorem dX7_mostPieces_50 : decode cX7_mostPieces 50 = .ok (.istore 4, 2) := by decide +kernel
theorem dX7_mostPieces_52 : decode cX7_mostPieces 52 = .ok (.iinc 3 1, 3) := by decide +kernel
theorem dX7_mostPieces_55 : decode cX7_mostPieces 55 = .ok (.iinc 6 1, 3) := by decide +kernel
theorem dX7_mostPieces_58 : decode cX7_mostPieces 58 = .ok (.goto (-40), 3) := by decide +kernel
theorem dX7_mostPieces_61 : decode cX7_mostPieces 61 = .ok (.iinc 5 1, 3) := by decide +kernel
theorem dX7_mostPieces_64 : decode cX7_mostPieces 64 = .ok (.goto (-56), 3) := by decide +kernel
theorem dX7_mostPieces_67 : decode cX7_mostPieces 67 = .ok (.iload_n 3, 1) := by decide +kernel
theorem dX7_mostPieces_68 : decode cX7_mostPieces 68 = .ok (.ireturn, 1) := by decide +kernel
set_option maxRecDepth 20000 in
theorem ggX7_ropes_X7_in : GoodIn wsX7_ropes wsX7_in := goodIn_r _ [6] (by decide +kernel) (by decide +kernel)
set_option maxRecDepth 20000 in
theorem gX7_ropes_X7_in : GoodIn wsX7_ropes (va_wsS RX7 71 yX7_in wsX7_in) := goodIn_app (goodIn_of _ (by decide +kernel)) ggX7_ropes_X7_in
set_option maxRecDepth 20000 in
theorem ggX7_ropes_X7_readPieces : GoodIn wsX7_ropes wsX7_readPieces := goodIn_r _ [10, 11, 24, 25, 26, 27, 28, 29, 30, 31, 32, 33, 34, 35, 36, 37, 38, 39, 40, 41, 42, 43, 44, 45, 46, 47, 48, 49, 50, 51, 52, 53, 54, 55, 56, 57] (by decide +kernel) (by decide +kernel)
set_option maxRecDepth 20000 in
theorem gX7_ropes_X7_readPieces : GoodIn wsX7_ropes (wsV RX7 241 RX7 yX7_readPieces wsX7_readPieces) := goodIn_app (goodIn_of _ (by decide +kernel)) ggX7_ropes_X7_readPieces
set_option maxRecDepth 20000 in
theorem ggX7_ropes_X7_ropesOf : GoodIn wsX7_ropes wsX7_ropesOf := goodIn_r _ [15, 16, 11, 17, 18, 5, 19, 24, 25, 26, 27, 28, 29, 30, 31, 32, 33, 34, 35, 36, 37, 38, 39, 40, 41, 42, 43, 44, 45, 46, 47, 48, 49, 50, 51, 52, 53, 54, 55, 56, 57] (by decide +kernel) (by decide +kernel)
set_option maxRecDepth 20000 in
theorem gX7_ropes_X7_ropesOf : GoodIn wsX7_ropes (wsV RX7 247 RX7 yX7_ropesOf wsX7_ropesOf) := goodIn_app (goodIn_of _ (by decide +kernel)) ggX7_ropes_X7_ropesOf
set_option maxRecDepth 20000 in
theorem ggX7_ropes_X7_mostPieces : GoodIn wsX7_ropes wsX7_mostPieces := goodIn_r _ [23, 11, 24, 25, 26, 27, 28, 29, 30, 31, 32, 33, 34, 35, 36, 37, 38, 39, 40, 41, 42, 43, 44, 45, 46, 47, 48, 49, 50, 51, 52, 53, 54, 55, 56, 57] (by decide +kernel) (by decide +kernel)
set_option maxRecDepth 20000 in
theorem gX7_ropes_X7_mostPieces : GoodIn wsX7_ropes (wsV RX7 250 RX7 yX7_mostPieces wsX7_mostPieces) := goodIn_app (goodIn_of _ (by decide +kernel)) ggX7_ropes_X7_mostPieces
theorem dX7_ropes_0 : decode cX7_ropes 0 = .ok (.iload_n 2, 1) := by decide +kernel
theorem dX7_ropes_1 : decode cX7_ropes 1 = .ok (.i2l, 1) := by decide +kernel
theorem dX7_ropes_2 : decode cX7_ropes 2 = .ok (.lconst 1, 1) := by decide +kernel
theorem dX7_ropes_3 : decode cX7_ropes 3 = .ok (.ldc2_w 100, 3) := by decide +kernel
theorem dX7_ropes_6 : decode cX7_ropes 6 = .ok (.invokestatic 71, 3) := by decide +kernel
theorem dX7_ropes_9 : decode cX7_ropes 9 = .ok (.ifCond .eq 37, 3) := by decide +kernel
theorem dX7_ropes_12 : decode cX7_ropes 12 = .ok (.aload_n 0, 1) := by decide +kernel
theorem dX7_ropes_13 : decode cX7_ropes 13 = .ok (.iload_n 1, 1) := by decide +kernel
theorem dX7_ropes_14 : decode cX7_ropes 14 = .ok (.iload_n 2, 1) := by decide +kernel
theorem dX7_ropes_15 : decode cX7_ropes 15 = .ok (.invokevirtual 241, 3) := by decide +kernel
theorem dX7_ropes_18 : decode cX7_ropes 18 = .ok (.ifCond .eq 28, 3) := by decide +kernel
theorem dX7_ropes_21 : decode cX7_ropes 21 = .ok (.iload_n 3, 1) := by decide +kernel
theorem dX7_ropes_22 : decode cX7_ropes 22 = .ok (.i2l, 1) := by decide +kernel
theorem dX7_ropes_23 : decode cX7_ropes 23 = .ok (.ldc2_w 100, 3) := by decide +kernel
theorem dX7_ropes_26 : decode cX7_ropes 26 = .ok (.ldc2_w 245, 3) := by decide +kernel
theorem dX7_ropes_29 : decode cX7_ropes 29 = .ok (.invokestatic 71, 3) := by decide +kernel
theorem dX7_ropes_32 : decode cX7_ropes 32 = .ok (.ifCond .eq 14, 3) := by decide +kernel
theorem dX7_ropes_35 : decode cX7_ropes 35 = .ok (.iload 4, 2) := by decide +kernel
theorem dX7_ropes_37 : decode cX7_ropes 37 = .ok (.i2l, 1) := by decide +kernel
theorem dX7_ropes_38 : decode cX7_ropes 38 = .ok (.lconst 0, 1) := by decide +kernel
theorem dX7_ropes_39 : decode cX7_ropes 39 = .ok (.lconst 1, 1) := by decide +kernel
theorem dX7_ropes_40 : decode cX7_ropes 40 = .ok (.invokestatic 71, 3) := by decide +kernel
theorem dX7_ropes_43 : decode cX7_ropes 43 = .ok (.ifCond .ne 6, 3) := by decide +kernel
theorem dX7_ropes_46 : decode cX7_ropes 46 = .ok (.bipush (-2), 2) := by decide +kernel
theorem dX7_ropes_48 : decode cX7_ropes 48 = .ok (.ireturn, 1) := by decide +kernel
theorem dX7_ropes_49 : decode cX7_ropes 49 = .ok (.iload 4, 2) := by decide +kernel
theorem dX7_ropes_51 : decode cX7_ropes 51 = .ok (.ifCond .ne 12, 3) := by decide +kernel
theorem dX7_ropes_54 : decode cX7_ropes 54 = .ok (.aload_n 0, 1) := by decide +kernel
theorem dX7_ropes_55 : decode cX7_ropes 55 = .ok (.iload_n 2, 1) := by decide +kernel
theorem dX7_ropes_56 : decode cX7_ropes 56 = .ok (.iload_n 3, 1) := by decide +kernel
theorem dX7_ropes_57 : decode cX7_ropes 57 = .ok (.invokevirtual 247, 3) := by decide +kernel
theorem dX7_ropes_60 : decode cX7_ropes 60 = .ok (.goto 9, 3) := by decide +kernel
theorem dX7_ropes_63 : decode cX7_ropes 63 = .ok (.aload_n 0, 1) := by decide +kernel
theorem dX7_ropes_64 : decode cX7_ropes 64 = .ok (.iload_n 2, 1) := by decide +kernel
theorem dX7_ropes_65 : decode cX7_ropes 65 = .ok (.iload_n 3, 1) := by decide +kernel
theorem dX7_ropes_66 : decode cX7_ropes 66 = .ok (.invokevirtual 250, 3) := by decide +kernel
theorem dX7_ropes_69 : decode cX7_ropes 69 = .ok (.ireturn, 1) := by decide +kernel
set_option maxRecDepth 20000 in
theorem ggX7_look_X7_isCell : GoodIn wsX7_look wsX7_isCell := goodIn_r _ [9, 10, 11, 12, 8, 13] (by decide +kernel) (by decide +kernel)
set_option maxRecDepth 20000 in
theorem gX7_look_X7_isCell : GoodIn wsX7_look (va_wsS RX7 92 yX7_isCell wsX7_isCell) := goodIn_app (goodIn_of _ (by decide +kernel)) ggX7_look_X7_isCell
set_option maxRecDepth 20000 in
theorem ggX7_look_X7_in : GoodIn wsX7_look wsX7_in := goodIn_r _ [13] (by decide +kernel) (by decide +kernel)
set_option maxRecDepth 20000 in
theorem gX7_look_X7_in : GoodIn wsX7_look (va_wsS RX7 71 yX7_in wsX7_in) := goodIn_app (goodIn_of _ (by decide +kernel)) ggX7_look_X7_in
theorem dX7_look_0 : decode cX7_look 0 = .ok (.iload_n 1, 1) := by decide +kernel
theorem dX7_look_1 : decode cX7_look 1 = .ok (.invokestatic 92, 3) := by decide +kernel
theorem dX7_look_4 : decode cX7_look 4 = .ok (.ifCond .ne 5, 3) := by decide +kernel
theorem dX7_look_7 : decode cX7_look 7 = .ok (.iconst (-1), 1) := by decide +kernel
theorem dX7_look_8 : decode cX7_look 8 = .ok (.ireturn, 1) := by decide +kernel
theorem dX7_look_9 : decode cX7_look 9 = .ok (.iload_n 2, 1) := by decide +kernel
theorem dX7_look_10 : decode cX7_look 10 = .ok (.i2l, 1) := by decide +kernel
theorem dX7_look_11 : decode cX7_look 11 = .ok (.lconst 0, 1) := by decide +kernel
theorem dX7_look_12 : decode cX7_look 12 = .ok (.ldc2_w 75, 3) := by decide +kernel
theorem dX7_look_15 : decode cX7_look 15 = .ok (.invokestatic 71, 3) := by decide +kernel
theorem dX7_look_18 : decode cX7_look 18 = .ok (.ifCond .ne 6, 3) := by decide +kernel
theorem dX7_look_21 : decode cX7_look 21 = .ok (.bipush (-2), 2) := by decide +kernel
theorem dX7_look_23 : decode cX7_look 23 = .ok (.ireturn, 1) := by decide +kernel
theorem dX7_look_24 : decode cX7_look 24 = .ok (.aload_n 0, 1) := by decide +kernel
theorem dX7_look_25 : decode cX7_look 25 = .ok (.getfield 253, 3) := by decide +kernel
theorem dX7_look_28 : decode cX7_look 28 = .ok (.bipush 8, 2) := by decide +kernel
theorem dX7_look_30 : decode cX7_look 30 = .ok (.if_icmp .ne 6, 3) := by decide +kernel
theorem dX7_look_33 : decode cX7_look 33 = .ok (.bipush (-4), 2) := by decide +kernel
theorem dX7_look_35 : decode cX7_look 35 = .ok (.ireturn, 1) := by decide +kernel
theorem dX7_look_36 : decode cX7_look 36 = .ok (.aload_n 0, 1) := by decide +kernel
theorem dX7_look_37 : decode cX7_look 37 = .ok (.getfield 16, 3) := by decide +kernel
theorem dX7_look_40 : decode cX7_look 40 = .ok (.aload_n 0, 1) := by decide +kernel
theorem dX7_look_41 : decode cX7_look 41 = .ok (.getfield 253, 3) := by decide +kernel
theorem dX7_look_44 : decode cX7_look 44 = .ok (.iload_n 1, 1) := by decide +kernel
theorem dX7_look_45 : decode cX7_look 45 = .ok (.iastore, 1) := by decide +kernel
theorem dX7_look_46 : decode cX7_look 46 = .ok (.aload_n 0, 1) := by decide +kernel
theorem dX7_look_47 : decode cX7_look 47 = .ok (.getfield 19, 3) := by decide +kernel
theorem dX7_look_50 : decode cX7_look 50 = .ok (.aload_n 0, 1) := by decide +kernel
theorem dX7_look_51 : decode cX7_look 51 = .ok (.getfield 253, 3) := by decide +kernel
theorem dX7_look_54 : decode cX7_look 54 = .ok (.iload_n 2, 1) := by decide +kernel
theorem dX7_look_55 : decode cX7_look 55 = .ok (.iastore, 1) := by decide +kernel
theorem dX7_look_56 : decode cX7_look 56 = .ok (.aload_n 0, 1) := by decide +kernel
theorem dX7_look_57 : decode cX7_look 57 = .ok (.getfield 22, 3) := by decide +kernel
theorem dX7_look_60 : decode cX7_look 60 = .ok (.aload_n 0, 1) := by decide +kernel
theorem dX7_look_61 : decode cX7_look 61 = .ok (.getfield 253, 3) := by decide +kernel
theorem dX7_look_64 : decode cX7_look 64 = .ok (.iload_n 3, 1) := by decide +kernel
theorem dX7_look_65 : decode cX7_look 65 = .ok (.ifCond .eq 7, 3) := by decide +kernel
theorem dX7_look_68 : decode cX7_look 68 = .ok (.iconst 1, 1) := by decide +kernel
theorem dX7_look_69 : decode cX7_look 69 = .ok (.goto 4, 3) := by decide +kernel
theorem dX7_look_72 : decode cX7_look 72 = .ok (.iconst 0, 1) := by decide +kernel
theorem dX7_look_73 : decode cX7_look 73 = .ok (.iastore, 1) := by decide +kernel
theorem dX7_look_74 : decode cX7_look 74 = .ok (.aload_n 0, 1) := by decide +kernel
theorem dX7_look_75 : decode cX7_look 75 = .ok (.dup, 1) := by decide +kernel
theorem dX7_look_76 : decode cX7_look 76 = .ok (.getfield 253, 3) := by decide +kernel
theorem dX7_look_79 : decode cX7_look 79 = .ok (.iconst 1, 1) := by decide +kernel
theorem dX7_look_80 : decode cX7_look 80 = .ok (.iadd, 1) := by decide +kernel
theorem dX7_look_81 : decode cX7_look 81 = .ok (.putfield 253, 3) := by decide +kernel
theorem dX7_look_84 : decode cX7_look 84 = .ok (.aload_n 0, 1) := by decide +kernel
theorem dX7_look_85 : decode cX7_look 85 = .ok (.getfield 253, 3) := by decide +kernel
theorem dX7_look_88 : decode cX7_look 88 = .ok (.ireturn, 1) := by decide +kernel
theorem dX7_forget_0 : decode cX7_forget 0 = .ok (.aload_n 0, 1) := by decide +kernel
theorem dX7_forget_1 : decode cX7_forget 1 = .ok (.getfield 253, 3) := by decide +kernel
theorem dX7_forget_4 : decode cX7_forget 4 = .ok (.istore_n 1, 1) := by decide +kernel
theorem dX7_forget_5 : decode cX7_forget 5 = .ok (.aload_n 0, 1) := by decide +kernel
theorem dX7_forget_6 : decode cX7_forget 6 = .ok (.iconst 0, 1) := by decide +kernel
theorem dX7_forget_7 : decode cX7_forget 7 = .ok (.putfield 253, 3) := by decide +kernel
theorem dX7_forget_10 : decode cX7_forget 10 = .ok (.iload_n 1, 1) := by decide +kernel
theorem dX7_forget_11 : decode cX7_forget 11 = .ok (.ireturn, 1) := by decide +kernel
set_option maxRecDepth 20000 in
theorem ggX7_isFit_X7_far : GoodIn wsX7_isFit wsX7_far := goodIn_r _ [8, 9, 10, 7, 11] (by decide +kernel) (by decide +kernel)
set_option maxRecDepth 20000 in
theorem gX7_isFit_X7_far : GoodIn wsX7_isFit (va_wsS RX7 149 yX7_far wsX7_far) := goodIn_app (goodIn_of _ (by decide +kernel)) ggX7_isFit_X7_far
theorem dX7_isFit_0 : decode cX7_isFit 0 = .ok (.iconst 1, 1) := by decide +kernel
theorem dX7_isFit_1 : decode cX7_isFit 1 = .ok (.istore_n 2, 1) := by decide +kernel
theorem dX7_isFit_2 : decode cX7_isFit 2 = .ok (.iconst 0, 1) := by decide +kernel
theorem dX7_isFit_3 : decode cX7_isFit 3 = .ok (.istore_n 3, 1) := by decide +kernel
theorem dX7_isFit_4 : decode cX7_isFit 4 = .ok (.iload_n 3, 1) := by decide +kernel
theorem dX7_isFit_5 : decode cX7_isFit 5 = .ok (.aload_n 0, 1) := by decide +kernel
theorem dX7_isFit_6 : decode cX7_isFit 6 = .ok (.getfield 253, 3) := by decide +kernel
theorem dX7_isFit_9 : decode cX7_isFit 9 = .ok (.if_icmp .ge 65, 3) := by decide +kernel
theorem dX7_isFit_12 : decode cX7_isFit 12 = .ok (.iload_n 1, 1) := by decide +kernel
theorem dX7_isFit_13 : decode cX7_isFit 13 = .ok (.aload_n 0, 1) := by decide +kernel
theorem dX7_isFit_14 : decode cX7_isFit 14 = .ok (.getfield 16, 3) := by decide +kernel
theorem dX7_isFit_17 : decode cX7_isFit 17 = .ok (.iload_n 3, 1) := by decide +kernel
theorem dX7_isFit_18 : decode cX7_isFit 18 = .ok (.iaload, 1) := by decide +kernel
theorem dX7_isFit_19 : decode cX7_isFit 19 = .ok (.invokestatic 149, 3) := by decide +kernel
theorem dX7_isFit_22 : decode cX7_isFit 22 = .ok (.aload_n 0, 1) := by decide +kernel
theorem dX7_isFit_23 : decode cX7_isFit 23 = .ok (.getfield 19, 3) := by decide +kernel
theorem dX7_isFit_26 : decode cX7_isFit 26 = .ok (.iload_n 3, 1) := by decide +kernel
theorem dX7_isFit_27 : decode cX7_isFit 27 = .ok (.iaload, 1) := by decide +kernel
theorem dX7_isFit_28 : decode cX7_isFit 28 = .ok (.if_icmp .gt 7, 3) := by decide +kernel
theorem dX7_isFit_31 : decode cX7_isFit 31 = .ok (.iconst 1, 1) := by decide +kernel
theorem dX7_isFit_32 : decode cX7_isFit 32 = .ok (.goto 4, 3) := by decide +kernel
theorem dX7_isFit_35 : decode cX7_isFit 35 = .ok (.iconst 0, 1) := by decide +kernel
theorem dX7_isFit_36 : decode cX7_isFit 36 = .ok (.istore 4, 2) := by decide +kernel
theorem dX7_isFit_38 : decode cX7_isFit 38 = .ok (.iload_n 2, 1) := by decide +kernel
theorem dX7_isFit_39 : decode cX7_isFit 39 = .ok (.ifCond .eq 27, 3) := by decide +kernel
theorem dX7_isFit_42 : decode cX7_isFit 42 = .ok (.iload 4, 2) := by decide +kernel
theorem dX7_isFit_44 : decode cX7_isFit 44 = .ok (.aload_n 0, 1) := by decide +kernel
theorem dX7_isFit_45 : decode cX7_isFit 45 = .ok (.getfield 22, 3) := by decide +kernel
theorem dX7_isFit_48 : decode cX7_isFit 48 = .ok (.iload_n 3, 1) := by decide +kernel
theorem dX7_isFit_49 : decode cX7_isFit 49 = .ok (.iaload, 1) := by decide +kernel
theorem dX7_isFit_50 : decode cX7_isFit 50 = .ok (.iconst 1, 1) := by decide +kernel
theorem dX7_isFit_51 : decode cX7_isFit 51 = .ok (.if_icmp .ne 7, 3) := by decide +kernel
theorem dX7_isFit_54 : decode cX7_isFit 54 = .ok (.iconst 1, 1) := by decide +kernel
theorem dX7_isFit_55 : decode cX7_isFit 55 = .ok (.goto 4, 3) := by decide +kernel
theorem dX7_isFit_58 : decode cX7_isFit 58 = .ok (.iconst 0, 1) := by decide +kernel
theorem dX7_isFit_59 : decode cX7_isFit 59 = .ok (.if_icmp .ne 7, 3) := by decide +kernel
theorem dX7_isFit_62 : decode cX7_isFit 62 = .ok (.iconst 1, 1) := by decide +kernel
theorem dX7_isFit_63 : decode cX7_isFit 63 = .ok (.goto 4, 3) := by decide +kernel
theorem dX7_isFit_66 : decode cX7_isFit 66 = .ok (.iconst 0, 1) := by decide +kernel
theorem dX7_isFit_67 : decode cX7_isFit 67 = .ok (.istore_n 2, 1) := by decide +kernel
theorem dX7_isFit_68 : decode cX7_isFit 68 = .ok (.iinc 3 1, 3) := by decide +kernel
theorem dX7_isFit_71 : decode cX7_isFit 71 = .ok (.goto (-67), 3) := by decide +kernel
theorem dX7_isFit_74 : decode cX7_isFit 74 = .ok (.iload_n 2, 1) := by decide +kernel
theorem dX7_isFit_75 : decode cX7_isFit 75 = .ok (.ireturn, 1) := by decide +kernel
set_option maxRecDepth 20000 in
theorem ggX7_findFits_X7_isFit : GoodIn wsX7_findFits wsX7_isFit := goodIn_r _ [7, 8, 9, 10, 11, 12, 13, 6, 14, 15, 16, 17, 18, 19, 20, 21, 22, 23, 24, 25, 26, 27, 28, 29, 30, 31, 32, 33, 34, 35, 36, 37, 38, 39, 40, 41, 42, 43, 44, 45, 46, 47, 48, 49, 50, 51] (by decide +kernel) (by decide +kernel)
set_option maxRecDepth 20000 in
theorem gX7_findFits_X7_isFit : GoodIn wsX7_findFits (wsV RX7 259 RX7 yX7_isFit wsX7_isFit) := goodIn_app (goodIn_of _ (by decide +kernel)) ggX7_findFits_X7_isFit
theorem dX7_findFits_0 : decode cX7_findFits 0 = .ok (.aload_n 0, 1) := by decide +kernel
theorem dX7_findFits_1 : decode cX7_findFits 1 = .ok (.iconst 0, 1) := by decide +kernel
theorem dX7_findFits_2 : decode cX7_findFits 2 = .ok (.putfield 256, 3) := by decide +kernel
theorem dX7_findFits_5 : decode cX7_findFits 5 = .ok (.iconst 0, 1) := by decide +kernel
theorem dX7_findFits_6 : decode cX7_findFits 6 = .ok (.istore_n 1, 1) := by decide +kernel
theorem dX7_findFits_7 : decode cX7_findFits 7 = .ok (.iload_n 1, 1) := by decide +kernel
theorem dX7_findFits_8 : decode cX7_findFits 8 = .ok (.bipush 64, 2) := by decide +kernel
theorem dX7_findFits_10 : decode cX7_findFits 10 = .ok (.if_icmp .ge 37, 3) := by decide +kernel
theorem dX7_findFits_13 : decode cX7_findFits 13 = .ok (.aload_n 0, 1) := by decide +kernel
theorem dX7_findFits_14 : decode cX7_findFits 14 = .ok (.iload_n 1, 1) := by decide +kernel
theorem dX7_findFits_15 : decode cX7_findFits 15 = .ok (.invokevirtual 259, 3) := by decide +kernel
theorem dX7_findFits_18 : decode cX7_findFits 18 = .ok (.ifCond .eq 23, 3) := by decide +kernel
theorem dX7_findFits_21 : decode cX7_findFits 21 = .ok (.aload_n 0, 1) := by decide +kernel
theorem dX7_findFits_22 : decode cX7_findFits 22 = .ok (.getfield 46, 3) := by decide +kernel
theorem dX7_findFits_25 : decode cX7_findFits 25 = .ok (.aload_n 0, 1) := by decide +kernel
theorem dX7_findFits_26 : decode cX7_findFits 26 = .ok (.getfield 256, 3) := by decide +kernel
theorem dX7_findFits_29 : decode cX7_findFits 29 = .ok (.iload_n 1, 1) := by decide +kernel
theorem dX7_findFits_30 : decode cX7_findFits 30 = .ok (.iastore, 1) := by decide +kernel
theorem dX7_findFits_31 : decode cX7_findFits 31 = .ok (.aload_n 0, 1) := by decide +kernel
theorem dX7_findFits_32 : decode cX7_findFits 32 = .ok (.dup, 1) := by decide +kernel
theorem dX7_findFits_33 : decode cX7_findFits 33 = .ok (.getfield 256, 3) := by decide +kernel
theorem dX7_findFits_36 : decode cX7_findFits 36 = .ok (.iconst 1, 1) := by decide +kernel
theorem dX7_findFits_37 : decode cX7_findFits 37 = .ok (.iadd, 1) := by decide +kernel
theorem dX7_findFits_38 : decode cX7_findFits 38 = .ok (.putfield 256, 3) := by decide +kernel
theorem dX7_findFits_41 : decode cX7_findFits 41 = .ok (.iinc 1 1, 3) := by decide +kernel
theorem dX7_findFits_44 : decode cX7_findFits 44 = .ok (.goto (-37), 3) := by decide +kernel
theorem dX7_findFits_47 : decode cX7_findFits 47 = .ok (.return_, 1) := by decide +kernel
set_option maxRecDepth 20000 in
theorem ggX7_light_X7_findFits : GoodIn wsX7_light wsX7_findFits := goodIn_r _ [7, 1, 2, 8, 9, 10, 6, 11, 12, 13, 14, 15, 16, 17, 18, 19, 20, 21, 25, 26, 27, 28, 29, 30, 31, 32, 33, 34, 35, 36, 37, 38, 39, 40, 41, 42, 43, 44, 45, 46, 47, 48, 49, 50, 51, 52, 53, 54, 55, 56, 57, 58] (by decide +kernel) (by decide +kernel)
set_option maxRecDepth 20000 in
theorem gX7_light_X7_findFits : GoodIn wsX7_light (wsV RX7 262 RX7 yX7_findFits wsX7_findFits) := goodIn_app (goodIn_of _ (by decide +kernel)) ggX7_light_X7_findFits
set_option maxRecDepth 20000 in
theorem ggX7_light_X7_in : GoodIn wsX7_light wsX7_in := goodIn_r _ [24] (by decide +kernel) (by decide +kernel)
set_option maxRecDepth 20000 in
theorem gX7_light_X7_in : GoodIn wsX7_light (va_wsS RX7 71 yX7_in wsX7_in) := goodIn_app (goodIn_of _ (by decide +kernel)) ggX7_light_X7_in
theorem dX7_light_0 : decode cX7_light 0 = .ok (.aload_n 0, 1) := by decide +kernel
theorem dX7_light_1 : decode cX7_light 1 = .ok (.invokevirtual 262, 3) := by decide +kernel
theorem dX7_light_4 : decode cX7_light 4 = .ok (.iload_n 1, 1) := by decide +kernel
theorem dX7_light_5 : decode cX7_light 5 = .ok (.iconst (-1), 1) := by decide +kernel
theorem dX7_light_6 : decode cX7_light 6 = .ok (.if_icmp .ne 10, 3) := by decide +kernel
theorem dX7_light_9 : decode cX7_light 9 = .ok (.aload_n 0, 1) := by decide +kernel
theorem dX7_light_10 : decode cX7_light 10 = .ok (.getfield 256, 3) := by decide +kernel
theorem dX7_light_13 : decode cX7_light 13 = .ok (.goto 30, 3) := by decide +kernel
theorem dX7_light_16 : decode cX7_light 16 = .ok (.iload_n 1, 1) := by decide +kernel
theorem dX7_light_17 : decode cX7_light 17 = .ok (.i2l, 1) := by decide +kernel
theorem dX7_light_18 : decode cX7_light 18 = .ok (.lconst 0, 1) := by decide +kernel
theorem dX7_light_19 : decode cX7_light 19 = .ok (.aload_n 0, 1) := by decide +kernel
theorem dX7_light_20 : decode cX7_light 20 = .ok (.getfield 256, 3) := by decide +kernel
theorem dX7_light_23 : decode cX7_light 23 = .ok (.iconst 1, 1) := by decide +kernel
theorem dX7_light_24 : decode cX7_light 24 = .ok (.isub, 1) := by decide +kernel
theorem dX7_light_25 : decode cX7_light 25 = .ok (.i2l, 1) := by decide +kernel
theorem dX7_light_26 : decode cX7_light 26 = .ok (.invokestatic 71, 3) := by decide +kernel
theorem dX7_light_29 : decode cX7_light 29 = .ok (.ifCond .eq 12, 3) := by decide +kernel
theorem dX7_light_32 : decode cX7_light 32 = .ok (.aload_n 0, 1) := by decide +kernel
theorem dX7_light_33 : decode cX7_light 33 = .ok (.getfield 46, 3) := by decide +kernel
theorem dX7_light_36 : decode cX7_light 36 = .ok (.iload_n 1, 1) := by decide +kernel
theorem dX7_light_37 : decode cX7_light 37 = .ok (.iaload, 1) := by decide +kernel
theorem dX7_light_38 : decode cX7_light 38 = .ok (.goto 5, 3) := by decide +kernel
theorem dX7_light_41 : decode cX7_light 41 = .ok (.bipush (-6), 2) := by decide +kernel
theorem dX7_light_43 : decode cX7_light 43 = .ok (.ireturn, 1) := by decide +kernel
set_option maxRecDepth 20000 in
theorem ggX7_mostLeft_X7_far : GoodIn wsX7_mostLeft wsX7_far := goodIn_r _ [6, 7, 8, 5, 9] (by decide +kernel) (by decide +kernel)
set_option maxRecDepth 20000 in
theorem gX7_mostLeft_X7_far : GoodIn wsX7_mostLeft (va_wsS RX7 149 yX7_far wsX7_far) := goodIn_app (goodIn_of _ (by decide +kernel)) ggX7_mostLeft_X7_far
theorem dX7_mostLeft_0 : decode cX7_mostLeft 0 = .ok (.iconst 0, 1) := by decide +kernel
theorem dX7_mostLeft_1 : decode cX7_mostLeft 1 = .ok (.istore_n 3, 1) := by decide +kernel
theorem dX7_mostLeft_2 : decode cX7_mostLeft 2 = .ok (.iconst 0, 1) := by decide +kernel
theorem dX7_mostLeft_3 : decode cX7_mostLeft 3 = .ok (.istore 4, 2) := by decide +kernel
theorem dX7_mostLeft_5 : decode cX7_mostLeft 5 = .ok (.iload 4, 2) := by decide +kernel
theorem dX7_mostLeft_7 : decode cX7_mostLeft 7 = .ok (.aload_n 0, 1) := by decide +kernel
theorem dX7_mostLeft_8 : decode cX7_mostLeft 8 = .ok (.getfield 256, 3) := by decide +kernel
theorem dX7_mostLeft_11 : decode cX7_mostLeft 11 = .ok (.if_icmp .ge 32, 3) := by decide +kernel
theorem dX7_mostLeft_14 : decode cX7_mostLeft 14 = .ok (.iload_n 3, 1) := by decide +kernel
theorem dX7_mostLeft_15 : decode cX7_mostLeft 15 = .ok (.aload_n 0, 1) := by decide +kernel
theorem dX7_mostLeft_16 : decode cX7_mostLeft 16 = .ok (.getfield 46, 3) := by decide +kernel
theorem dX7_mostLeft_19 : decode cX7_mostLeft 19 = .ok (.iload 4, 2) := by decide +kernel
theorem dX7_mostLeft_21 : decode cX7_mostLeft 21 = .ok (.iaload, 1) := by decide +kernel
theorem dX7_mostLeft_22 : decode cX7_mostLeft 22 = .ok (.iload_n 1, 1) := by decide +kernel
theorem dX7_mostLeft_23 : decode cX7_mostLeft 23 = .ok (.invokestatic 149, 3) := by decide +kernel
theorem dX7_mostLeft_26 : decode cX7_mostLeft 26 = .ok (.iload_n 2, 1) := by decide +kernel
theorem dX7_mostLeft_27 : decode cX7_mostLeft 27 = .ok (.if_icmp .gt 7, 3) := by decide +kernel
theorem dX7_mostLeft_30 : decode cX7_mostLeft 30 = .ok (.iconst 1, 1) := by decide +kernel
theorem dX7_mostLeft_31 : decode cX7_mostLeft 31 = .ok (.goto 4, 3) := by decide +kernel
theorem dX7_mostLeft_34 : decode cX7_mostLeft 34 = .ok (.iconst 0, 1) := by decide +kernel
theorem dX7_mostLeft_35 : decode cX7_mostLeft 35 = .ok (.iadd, 1) := by decide +kernel
theorem dX7_mostLeft_36 : decode cX7_mostLeft 36 = .ok (.istore_n 3, 1) := by decide +kernel
theorem dX7_mostLeft_37 : decode cX7_mostLeft 37 = .ok (.iinc 4 1, 3) := by decide +kernel
theorem dX7_mostLeft_40 : decode cX7_mostLeft 40 = .ok (.goto (-35), 3) := by decide +kernel
theorem dX7_mostLeft_43 : decode cX7_mostLeft 43 = .ok (.iload_n 3, 1) := by decide +kernel
theorem dX7_mostLeft_44 : decode cX7_mostLeft 44 = .ok (.aload_n 0, 1) := by decide +kernel
theorem dX7_mostLeft_45 : decode cX7_mostLeft 45 = .ok (.getfield 256, 3) := by decide +kernel
theorem dX7_mostLeft_48 : decode cX7_mostLeft 48 = .ok (.iload_n 3, 1) := by decide +kernel
theorem dX7_mostLeft_49 : decode cX7_mostLeft 49 = .ok (.isub, 1) := by decide +kernel
theorem dX7_mostLeft_50 : decode cX7_mostLeft 50 = .ok (.if_icmp .le 7, 3) := by decide +kernel
theorem dX7_mostLeft_53 : decode cX7_mostLeft 53 = .ok (.iload_n 3, 1) := by decide +kernel
theorem dX7_mostLeft_54 : decode cX7_mostLeft 54 = .ok (.goto 9, 3) := by decide +kernel
theorem dX7_mostLeft_57 : decode cX7_mostLeft 57 = .ok (.aload_n 0, 1) := by decide +kernel
theorem dX7_mostLeft_58 : decode cX7_mostLeft 58 = .ok (.getfield 256, 3) := by decide +kernel
theorem dX7_mostLeft_61 : decode cX7_mostLeft 61 = .ok (.iload_n 3, 1) := by decide +kernel
theorem dX7_mostLeft_62 : decode cX7_mostLeft 62 = .ok (.isub, 1) := by decide +kernel
theorem dX7_mostLeft_63 : decode cX7_mostLeft 63 = .ok (.ireturn, 1) := by decide +kernel
set_option maxRecDepth 20000 in
theorem ggX7_ask_X7_in : GoodIn wsX7_ask wsX7_in := goodIn_r _ [5] (by decide +kernel) (by decide +kernel)
set_option maxRecDepth 20000 in
theorem gX7_ask_X7_in : GoodIn wsX7_ask (va_wsS RX7 71 yX7_in wsX7_in) := goodIn_app (goodIn_of _ (by decide +kernel)) ggX7_ask_X7_in
set_option maxRecDepth 20000 in
theorem ggX7_ask_X7_findFits : GoodIn wsX7_ask wsX7_findFits := goodIn_r _ [9, 1, 10, 11, 12, 13, 4, 14, 15, 16, 17, 18, 19, 20, 21, 22, 23, 24, 32, 33, 34, 35, 36, 37, 38, 39, 40, 41, 42, 43, 44, 45, 46, 47, 48, 49, 50, 51, 52, 53, 54, 55, 56, 57, 58, 59, 60, 61, 62, 63, 64, 65] (by decide +kernel) (by decide +kernel)
set_option maxRecDepth 20000 in
theorem gX7_ask_X7_findFits : GoodIn wsX7_ask (wsV RX7 262 RX7 yX7_findFits wsX7_findFits) := goodIn_app (goodIn_of _ (by decide +kernel)) ggX7_ask_X7_findFits
set_option maxRecDepth 20000 in
theorem ggX7_ask_X7_mostLeft : GoodIn wsX7_ask wsX7_mostLeft := goodIn_r _ [28, 1, 10, 19, 20, 4, 21, 22, 23, 24, 32, 33, 34, 35, 36, 37, 38, 39, 40, 41, 42, 43, 44, 45, 46, 47, 48, 49, 50, 51, 52, 53, 54, 55, 56, 57, 58, 59, 60, 61, 62, 63, 64, 65] (by decide +kernel) (by decide +kernel)
set_option maxRecDepth 20000 in
theorem gX7_ask_X7_mostLeft : GoodIn wsX7_ask (wsV RX7 265 RX7 yX7_mostLeft wsX7_mostLeft) := goodIn_app (goodIn_of _ (by decide +kernel)) ggX7_ask_X7_mostLeft
set_option maxRecDepth 20000 in
theorem ggX7_ask_X7_less : GoodIn wsX7_ask wsX7_less := goodIn_r _ [31] (by decide +kernel) (by decide +kernel)
set_option maxRecDepth 20000 in
theorem gX7_ask_X7_less : GoodIn wsX7_ask (va_wsS RX7 268 yX7_less wsX7_less) := goodIn_app (goodIn_of _ (by decide +kernel)) ggX7_ask_X7_less
theorem dX7_ask_0 : decode cX7_ask 0 = .ok (.iload_n 1, 1) := by decide +kernel
theorem dX7_ask_1 : decode cX7_ask 1 = .ok (.i2l, 1) := by decide +kernel
theorem dX7_ask_2 : decode cX7_ask 2 = .ok (.lconst 0, 1) := by decide +kernel
theorem dX7_ask_3 : decode cX7_ask 3 = .ok (.lconst 1, 1) := by decide +kernel
theorem dX7_ask_4 : decode cX7_ask 4 = .ok (.invokestatic 71, 3) := by decide +kernel
theorem dX7_ask_7 : decode cX7_ask 7 = .ok (.ifCond .ne 6, 3) := by decide +kernel
theorem dX7_ask_10 : decode cX7_ask 10 = .ok (.bipush (-2), 2) := by decide +kernel
theorem dX7_ask_12 : decode cX7_ask 12 = .ok (.ireturn, 1) := by decide +kernel
theorem dX7_ask_13 : decode cX7_ask 13 = .ok (.aload_n 0, 1) := by decide +kernel
theorem dX7_ask_14 : decode cX7_ask 14 = .ok (.invokevirtual 262, 3) := by decide +kernel
theorem dX7_ask_17 : decode cX7_ask 17 = .ok (.bipush (-6), 2) := by decide +kernel
theorem dX7_ask_19 : decode cX7_ask 19 = .ok (.istore_n 2, 1) := by decide +kernel
theorem dX7_ask_20 : decode cX7_ask 20 = .ok (.aload_n 0, 1) := by decide +kernel
theorem dX7_ask_21 : decode cX7_ask 21 = .ok (.getfield 256, 3) := by decide +kernel
theorem dX7_ask_24 : decode cX7_ask 24 = .ok (.iconst 1, 1) := by decide +kernel
theorem dX7_ask_25 : decode cX7_ask 25 = .ok (.iadd, 1) := by decide +kernel
theorem dX7_ask_26 : decode cX7_ask 26 = .ok (.istore_n 3, 1) := by decide +kernel
theorem dX7_ask_27 : decode cX7_ask 27 = .ok (.iconst 0, 1) := by decide +kernel
theorem dX7_ask_28 : decode cX7_ask 28 = .ok (.istore 4, 2) := by decide +kernel
theorem dX7_ask_30 : decode cX7_ask 30 = .ok (.iload 4, 2) := by decide +kernel
theorem dX7_ask_32 : decode cX7_ask 32 = .ok (.sipush 640, 3) := by decide +kernel
theorem dX7_ask_35 : decode cX7_ask 35 = .ok (.if_icmp .ge 66, 3) := by decide +kernel
theorem dX7_ask_38 : decode cX7_ask 38 = .ok (.aload_n 0, 1) := by decide +kernel
theorem dX7_ask_39 : decode cX7_ask 39 = .ok (.getfield 256, 3) := by decide +kernel
theorem dX7_ask_42 : decode cX7_ask 42 = .ok (.ifCond .le 59, 3) := by decide +kernel
theorem dX7_ask_45 : decode cX7_ask 45 = .ok (.iload 4, 2) := by decide +kernel
theorem dX7_ask_47 : decode cX7_ask 47 = .ok (.bipush 10, 2) := by decide +kernel
theorem dX7_ask_49 : decode cX7_ask 49 = .ok (.irem, 1) := by decide +kernel
theorem dX7_ask_50 : decode cX7_ask 50 = .ok (.bipush 8, 2) := by decide +kernel
theorem dX7_ask_52 : decode cX7_ask 52 = .ok (.if_icmp .ge 20, 3) := by decide +kernel
theorem dX7_ask_55 : decode cX7_ask 55 = .ok (.aload_n 0, 1) := by decide +kernel
theorem dX7_ask_56 : decode cX7_ask 56 = .ok (.iload 4, 2) := by decide +kernel
theorem dX7_ask_58 : decode cX7_ask 58 = .ok (.bipush 10, 2) := by decide +kernel
theorem dX7_ask_60 : decode cX7_ask 60 = .ok (.idiv, 1) := by decide +kernel
theorem dX7_ask_61 : decode cX7_ask 61 = .ok (.iload 4, 2) := by decide +kernel
theorem dX7_ask_63 : decode cX7_ask 63 = .ok (.bipush 10, 2) := by decide +kernel
theorem dX7_ask_65 : decode cX7_ask 65 = .ok (.irem, 1) := by decide +kernel
theorem dX7_ask_66 : decode cX7_ask 66 = .ok (.invokevirtual 265, 3) := by decide +kernel
theorem dX7_ask_69 : decode cX7_ask 69 = .ok (.goto 4, 3) := by decide +kernel
theorem dX7_ask_72 : decode cX7_ask 72 = .ok (.iload_n 3, 1) := by decide +kernel
theorem dX7_ask_73 : decode cX7_ask 73 = .ok (.istore 5, 2) := by decide +kernel
theorem dX7_ask_75 : decode cX7_ask 75 = .ok (.iload 5, 2) := by decide +kernel
theorem dX7_ask_77 : decode cX7_ask 77 = .ok (.iload_n 3, 1) := by decide +kernel
theorem dX7_ask_78 : decode cX7_ask 78 = .ok (.if_icmp .ge 8, 3) := by decide +kernel
theorem dX7_ask_81 : decode cX7_ask 81 = .ok (.iload 4, 2) := by decide +kernel
theorem dX7_ask_83 : decode cX7_ask 83 = .ok (.goto 4, 3) := by decide +kernel
theorem dX7_ask_86 : decode cX7_ask 86 = .ok (.iload_n 2, 1) := by decide +kernel
theorem dX7_ask_87 : decode cX7_ask 87 = .ok (.istore_n 2, 1) := by decide +kernel
theorem dX7_ask_88 : decode cX7_ask 88 = .ok (.iload_n 3, 1) := by decide +kernel
theorem dX7_ask_89 : decode cX7_ask 89 = .ok (.iload 5, 2) := by decide +kernel
theorem dX7_ask_91 : decode cX7_ask 91 = .ok (.invokestatic 268, 3) := by decide +kernel
theorem dX7_ask_94 : decode cX7_ask 94 = .ok (.istore_n 3, 1) := by decide +kernel
theorem dX7_ask_95 : decode cX7_ask 95 = .ok (.iinc 4 1, 3) := by decide +kernel
theorem dX7_ask_98 : decode cX7_ask 98 = .ok (.goto (-68), 3) := by decide +kernel
theorem dX7_ask_101 : decode cX7_ask 101 = .ok (.iload_n 2, 1) := by decide +kernel
theorem dX7_ask_102 : decode cX7_ask 102 = .ok (.ifCond .lt 7, 3) := by decide +kernel
theorem dX7_ask_105 : decode cX7_ask 105 = .ok (.iload_n 1, 1) := by decide +kernel
theorem dX7_ask_106 : decode cX7_ask 106 = .ok (.ifCond .ne 7, 3) := by decide +kernel
theorem dX7_ask_109 : decode cX7_ask 109 = .ok (.iload_n 2, 1) := by decide +kernel
theorem dX7_ask_110 : decode cX7_ask 110 = .ok (.goto 4, 3) := by decide +kernel
theorem dX7_ask_113 : decode cX7_ask 113 = .ok (.iload_n 3, 1) := by decide +kernel
theorem dX7_ask_114 : decode cX7_ask 114 = .ok (.ireturn, 1) := by decide +kernel
set_option maxRecDepth 20000 in
theorem ggX7_tackTo_X7_beside : GoodIn wsX7_tackTo wsX7_beside := goodIn_r _ [4, 5, 6, 7, 3, 8] (by decide +kernel) (by decide +kernel)
set_option maxRecDepth 20000 in
theorem gX7_tackTo_X7_beside : GoodIn wsX7_tackTo (va_wsS RX7 88 yX7_beside wsX7_beside) := goodIn_app (goodIn_of _ (by decide +kernel)) ggX7_tackTo_X7_beside
theorem dX7_tackTo_0 : decode cX7_tackTo 0 = .ok (.iload_n 1, 1) := by decide +kernel
theorem dX7_tackTo_1 : decode cX7_tackTo 1 = .ok (.tableswitch 51 0 2 #[27, 35, 43], 27) := by decide +kernel
theorem dX7_tackTo_28 : decode cX7_tackTo 28 = .ok (.iload_n 0, 1) := by decide +kernel
theorem dX7_tackTo_29 : decode cX7_tackTo 29 = .ok (.bipush (-2), 2) := by decide +kernel
theorem dX7_tackTo_31 : decode cX7_tackTo 31 = .ok (.iconst 1, 1) := by decide +kernel
theorem dX7_tackTo_32 : decode cX7_tackTo 32 = .ok (.invokestatic 88, 3) := by decide +kernel
theorem dX7_tackTo_35 : decode cX7_tackTo 35 = .ok (.ireturn, 1) := by decide +kernel
theorem dX7_tackTo_36 : decode cX7_tackTo 36 = .ok (.iload_n 0, 1) := by decide +kernel
theorem dX7_tackTo_37 : decode cX7_tackTo 37 = .ok (.bipush (-2), 2) := by decide +kernel
theorem dX7_tackTo_39 : decode cX7_tackTo 39 = .ok (.iconst (-1), 1) := by decide +kernel
theorem dX7_tackTo_40 : decode cX7_tackTo 40 = .ok (.invokestatic 88, 3) := by decide +kernel
theorem dX7_tackTo_43 : decode cX7_tackTo 43 = .ok (.ireturn, 1) := by decide +kernel
theorem dX7_tackTo_44 : decode cX7_tackTo 44 = .ok (.iload_n 0, 1) := by decide +kernel
theorem dX7_tackTo_45 : decode cX7_tackTo 45 = .ok (.iconst 1, 1) := by decide +kernel
theorem dX7_tackTo_46 : decode cX7_tackTo 46 = .ok (.bipush (-2), 2) := by decide +kernel
theorem dX7_tackTo_48 : decode cX7_tackTo 48 = .ok (.invokestatic 88, 3) := by decide +kernel
theorem dX7_tackTo_51 : decode cX7_tackTo 51 = .ok (.ireturn, 1) := by decide +kernel
theorem dX7_tackTo_52 : decode cX7_tackTo 52 = .ok (.iload_n 0, 1) := by decide +kernel
theorem dX7_tackTo_53 : decode cX7_tackTo 53 = .ok (.iconst (-1), 1) := by decide +kernel
theorem dX7_tackTo_54 : decode cX7_tackTo 54 = .ok (.bipush (-2), 2) := by decide +kernel
theorem dX7_tackTo_56 : decode cX7_tackTo 56 = .ok (.invokestatic 88, 3) := by decide +kernel
theorem dX7_tackTo_59 : decode cX7_tackTo 59 = .ok (.ireturn, 1) := by decide +kernel
set_option maxRecDepth 20000 in
theorem ggX7_leastTack_X7_tackTo : GoodIn wsX7_leastTack wsX7_tackTo := goodIn_r _ [5, 6, 7, 4, 8, 9, 10, 11, 12] (by decide +kernel) (by decide +kernel)
set_option maxRecDepth 20000 in
theorem gX7_leastTack_X7_tackTo : GoodIn wsX7_leastTack (va_wsS RX7 271 yX7_tackTo wsX7_tackTo) := goodIn_app (goodIn_of _ (by decide +kernel)) ggX7_leastTack_X7_tackTo
theorem dX7_leastTack_0 : decode cX7_leastTack 0 = .ok (.bipush (-6), 2) := by decide +kernel
theorem dX7_leastTack_2 : decode cX7_leastTack 2 = .ok (.istore_n 2, 1) := by decide +kernel
theorem dX7_leastTack_3 : decode cX7_leastTack 3 = .ok (.iconst 0, 1) := by decide +kernel
theorem dX7_leastTack_4 : decode cX7_leastTack 4 = .ok (.istore_n 3, 1) := by decide +kernel
theorem dX7_leastTack_5 : decode cX7_leastTack 5 = .ok (.iload_n 3, 1) := by decide +kernel
theorem dX7_leastTack_6 : decode cX7_leastTack 6 = .ok (.iconst 4, 1) := by decide +kernel
theorem dX7_leastTack_7 : decode cX7_leastTack 7 = .ok (.if_icmp .ge 60, 3) := by decide +kernel
theorem dX7_leastTack_10 : decode cX7_leastTack 10 = .ok (.iload_n 1, 1) := by decide +kernel
theorem dX7_leastTack_11 : decode cX7_leastTack 11 = .ok (.iload_n 3, 1) := by decide +kernel
theorem dX7_leastTack_12 : decode cX7_leastTack 12 = .ok (.invokestatic 271, 3) := by decide +kernel
theorem dX7_leastTack_15 : decode cX7_leastTack 15 = .ok (.istore 4, 2) := by decide +kernel
theorem dX7_leastTack_17 : decode cX7_leastTack 17 = .ok (.iload 4, 2) := by decide +kernel
theorem dX7_leastTack_19 : decode cX7_leastTack 19 = .ok (.ifCond .lt 17, 3) := by decide +kernel
theorem dX7_leastTack_22 : decode cX7_leastTack 22 = .ok (.aload_n 0, 1) := by decide +kernel
theorem dX7_leastTack_23 : decode cX7_leastTack 23 = .ok (.getfield 49, 3) := by decide +kernel
theorem dX7_leastTack_26 : decode cX7_leastTack 26 = .ok (.iload 4, 2) := by decide +kernel
theorem dX7_leastTack_28 : decode cX7_leastTack 28 = .ok (.baload, 1) := by decide +kernel
theorem dX7_leastTack_29 : decode cX7_leastTack 29 = .ok (.ifCond .ne 7, 3) := by decide +kernel
theorem dX7_leastTack_32 : decode cX7_leastTack 32 = .ok (.iconst 1, 1) := by decide +kernel
theorem dX7_leastTack_33 : decode cX7_leastTack 33 = .ok (.goto 4, 3) := by decide +kernel
theorem dX7_leastTack_36 : decode cX7_leastTack 36 = .ok (.iconst 0, 1) := by decide +kernel
theorem dX7_leastTack_37 : decode cX7_leastTack 37 = .ok (.istore 5, 2) := by decide +kernel
theorem dX7_leastTack_39 : decode cX7_leastTack 39 = .ok (.iload 5, 2) := by decide +kernel
theorem dX7_leastTack_41 : decode cX7_leastTack 41 = .ok (.ifCond .eq 18, 3) := by decide +kernel
theorem dX7_leastTack_44 : decode cX7_leastTack 44 = .ok (.iload_n 2, 1) := by decide +kernel
theorem dX7_leastTack_45 : decode cX7_leastTack 45 = .ok (.ifCond .lt 9, 3) := by decide +kernel
theorem dX7_leastTack_48 : decode cX7_leastTack 48 = .ok (.iload 4, 2) := by decide +kernel
theorem dX7_leastTack_50 : decode cX7_leastTack 50 = .ok (.iload_n 2, 1) := by decide +kernel
theorem dX7_leastTack_51 : decode cX7_leastTack 51 = .ok (.if_icmp .ge 8, 3) := by decide +kernel
theorem dX7_leastTack_54 : decode cX7_leastTack 54 = .ok (.iload 4, 2) := by decide +kernel
theorem dX7_leastTack_56 : decode cX7_leastTack 56 = .ok (.goto 4, 3) := by decide +kernel
theorem dX7_leastTack_59 : decode cX7_leastTack 59 = .ok (.iload_n 2, 1) := by decide +kernel
theorem dX7_leastTack_60 : decode cX7_leastTack 60 = .ok (.istore_n 2, 1) := by decide +kernel
theorem dX7_leastTack_61 : decode cX7_leastTack 61 = .ok (.iinc 3 1, 3) := by decide +kernel
theorem dX7_leastTack_64 : decode cX7_leastTack 64 = .ok (.goto (-59), 3) := by decide +kernel
theorem dX7_leastTack_67 : decode cX7_leastTack 67 = .ok (.iload_n 2, 1) := by decide +kernel
theorem dX7_leastTack_68 : decode cX7_leastTack 68 = .ok (.ireturn, 1) := by decide +kernel
set_option maxRecDepth 20000 in
theorem ggX7_tack_X7_isCell : GoodIn wsX7_tack wsX7_isCell := goodIn_r _ [5, 6, 7, 8, 4, 9] (by decide +kernel) (by decide +kernel)
set_option maxRecDepth 20000 in
theorem gX7_tack_X7_isCell : GoodIn wsX7_tack (va_wsS RX7 92 yX7_isCell wsX7_isCell) := goodIn_app (goodIn_of _ (by decide +kernel)) ggX7_tack_X7_isCell
set_option maxRecDepth 20000 in
theorem ggX7_tack_X7_in : GoodIn wsX7_tack wsX7_in := goodIn_r _ [9] (by decide +kernel) (by decide +kernel)
set_option maxRecDepth 20000 in
theorem gX7_tack_X7_in : GoodIn wsX7_tack (va_wsS RX7 71 yX7_in wsX7_in) := goodIn_app (goodIn_of _ (by decide +kernel)) ggX7_tack_X7_in
set_option maxRecDepth 20000 in
theorem ggX7_tack_X7_leastTack : GoodIn wsX7_tack wsX7_leastTack := goodIn_r _ [13, 1, 14, 15, 4, 16, 17, 18, 19, 20, 7, 8, 9, 21, 22, 23, 24, 25, 26, 27, 28, 29, 30, 31, 32, 33, 34, 35, 36, 37, 38, 39, 40, 41, 42, 43, 44, 45, 46, 47, 48, 49, 50, 51, 52, 53, 54] (by decide +kernel) (by decide +kernel)
set_option maxRecDepth 20000 in
theorem gX7_tack_X7_leastTack : GoodIn wsX7_tack (wsV RX7 274 RX7 yX7_leastTack wsX7_leastTack) := goodIn_app (goodIn_of _ (by decide +kernel)) ggX7_tack_X7_leastTack
theorem dX7_tack_0 : decode cX7_tack 0 = .ok (.iload_n 1, 1) := by decide +kernel
theorem dX7_tack_1 : decode cX7_tack 1 = .ok (.invokestatic 92, 3) := by decide +kernel
theorem dX7_tack_4 : decode cX7_tack 4 = .ok (.ifCond .ne 5, 3) := by decide +kernel
theorem dX7_tack_7 : decode cX7_tack 7 = .ok (.iconst (-1), 1) := by decide +kernel
theorem dX7_tack_8 : decode cX7_tack 8 = .ok (.ireturn, 1) := by decide +kernel
theorem dX7_tack_9 : decode cX7_tack 9 = .ok (.iload_n 2, 1) := by decide +kernel
theorem dX7_tack_10 : decode cX7_tack 10 = .ok (.i2l, 1) := by decide +kernel
theorem dX7_tack_11 : decode cX7_tack 11 = .ok (.lconst 0, 1) := by decide +kernel
theorem dX7_tack_12 : decode cX7_tack 12 = .ok (.lconst 1, 1) := by decide +kernel
theorem dX7_tack_13 : decode cX7_tack 13 = .ok (.invokestatic 71, 3) := by decide +kernel
theorem dX7_tack_16 : decode cX7_tack 16 = .ok (.ifCond .ne 6, 3) := by decide +kernel
theorem dX7_tack_19 : decode cX7_tack 19 = .ok (.bipush (-2), 2) := by decide +kernel
theorem dX7_tack_21 : decode cX7_tack 21 = .ok (.ireturn, 1) := by decide +kernel
theorem dX7_tack_22 : decode cX7_tack 22 = .ok (.iconst 0, 1) := by decide +kernel
theorem dX7_tack_23 : decode cX7_tack 23 = .ok (.istore_n 3, 1) := by decide +kernel
theorem dX7_tack_24 : decode cX7_tack 24 = .ok (.iload_n 3, 1) := by decide +kernel
theorem dX7_tack_25 : decode cX7_tack 25 = .ok (.bipush 15, 2) := by decide +kernel
theorem dX7_tack_27 : decode cX7_tack 27 = .ok (.if_icmp .ge 61, 3) := by decide +kernel
theorem dX7_tack_30 : decode cX7_tack 30 = .ok (.iconst 0, 1) := by decide +kernel
theorem dX7_tack_31 : decode cX7_tack 31 = .ok (.istore 4, 2) := by decide +kernel
theorem dX7_tack_33 : decode cX7_tack 33 = .ok (.iload 4, 2) := by decide +kernel
theorem dX7_tack_35 : decode cX7_tack 35 = .ok (.bipush 64, 2) := by decide +kernel
theorem dX7_tack_37 : decode cX7_tack 37 = .ok (.if_icmp .ge 45, 3) := by decide +kernel
theorem dX7_tack_40 : decode cX7_tack 40 = .ok (.iload 4, 2) := by decide +kernel
theorem dX7_tack_42 : decode cX7_tack 42 = .ok (.bipush 8, 2) := by decide +kernel
theorem dX7_tack_44 : decode cX7_tack 44 = .ok (.idiv, 1) := by decide +kernel
theorem dX7_tack_45 : decode cX7_tack 45 = .ok (.iload 4, 2) := by decide +kernel
theorem dX7_tack_47 : decode cX7_tack 47 = .ok (.bipush 8, 2) := by decide +kernel
theorem dX7_tack_49 : decode cX7_tack 49 = .ok (.irem, 1) := by decide +kernel
theorem dX7_tack_50 : decode cX7_tack 50 = .ok (.iadd, 1) := by decide +kernel
theorem dX7_tack_51 : decode cX7_tack 51 = .ok (.iload_n 3, 1) := by decide +kernel
theorem dX7_tack_52 : decode cX7_tack 52 = .ok (.if_icmp .ne 24, 3) := by decide +kernel
theorem dX7_tack_55 : decode cX7_tack 55 = .ok (.aload_n 0, 1) := by decide +kernel
theorem dX7_tack_56 : decode cX7_tack 56 = .ok (.getfield 49, 3) := by decide +kernel
theorem dX7_tack_59 : decode cX7_tack 59 = .ok (.iload 4, 2) := by decide +kernel
theorem dX7_tack_61 : decode cX7_tack 61 = .ok (.aload_n 0, 1) := by decide +kernel
theorem dX7_tack_62 : decode cX7_tack 62 = .ok (.iload 4, 2) := by decide +kernel
theorem dX7_tack_64 : decode cX7_tack 64 = .ok (.invokevirtual 274, 3) := by decide +kernel
theorem dX7_tack_67 : decode cX7_tack 67 = .ok (.ifCond .lt 7, 3) := by decide +kernel
theorem dX7_tack_70 : decode cX7_tack 70 = .ok (.iconst 1, 1) := by decide +kernel
theorem dX7_tack_71 : decode cX7_tack 71 = .ok (.goto 4, 3) := by decide +kernel
theorem dX7_tack_74 : decode cX7_tack 74 = .ok (.iconst 0, 1) := by decide +kernel
theorem dX7_tack_75 : decode cX7_tack 75 = .ok (.bastore, 1) := by decide +kernel
theorem dX7_tack_76 : decode cX7_tack 76 = .ok (.iinc 4 1, 3) := by decide +kernel
theorem dX7_tack_79 : decode cX7_tack 79 = .ok (.goto (-46), 3) := by decide +kernel
theorem dX7_tack_82 : decode cX7_tack 82 = .ok (.iinc 3 1, 3) := by decide +kernel
theorem dX7_tack_85 : decode cX7_tack 85 = .ok (.goto (-61), 3) := by decide +kernel
theorem dX7_tack_88 : decode cX7_tack 88 = .ok (.iload_n 2, 1) := by decide +kernel
theorem dX7_tack_89 : decode cX7_tack 89 = .ok (.iconst 1, 1) := by decide +kernel
theorem dX7_tack_90 : decode cX7_tack 90 = .ok (.if_icmp .ne 11, 3) := by decide +kernel
theorem dX7_tack_93 : decode cX7_tack 93 = .ok (.aload_n 0, 1) := by decide +kernel
theorem dX7_tack_94 : decode cX7_tack 94 = .ok (.iload_n 1, 1) := by decide +kernel
theorem dX7_tack_95 : decode cX7_tack 95 = .ok (.invokevirtual 274, 3) := by decide +kernel
theorem dX7_tack_98 : decode cX7_tack 98 = .ok (.goto 17, 3) := by decide +kernel
theorem dX7_tack_101 : decode cX7_tack 101 = .ok (.aload_n 0, 1) := by decide +kernel
theorem dX7_tack_102 : decode cX7_tack 102 = .ok (.getfield 49, 3) := by decide +kernel
theorem dX7_tack_105 : decode cX7_tack 105 = .ok (.iload_n 1, 1) := by decide +kernel
theorem dX7_tack_106 : decode cX7_tack 106 = .ok (.baload, 1) := by decide +kernel
theorem dX7_tack_107 : decode cX7_tack 107 = .ok (.ifCond .eq 7, 3) := by decide +kernel
theorem dX7_tack_110 : decode cX7_tack 110 = .ok (.iconst 1, 1) := by decide +kernel
theorem dX7_tack_111 : decode cX7_tack 111 = .ok (.goto 4, 3) := by decide +kernel
theorem dX7_tack_114 : decode cX7_tack 114 = .ok (.iconst 0, 1) := by decide +kernel
theorem dX7_tack_115 : decode cX7_tack 115 = .ok (.ireturn, 1) := by decide +kernel
theorem dX7_lowest_0 : decode cX7_lowest 0 = .ok (.lload_n 2, 1) := by decide +kernel
theorem dX7_lowest_1 : decode cX7_lowest 1 = .ok (.lstore 5, 2) := by decide +kernel
theorem dX7_lowest_3 : decode cX7_lowest 3 = .ok (.lload_n 0, 1) := by decide +kernel
theorem dX7_lowest_4 : decode cX7_lowest 4 = .ok (.lstore 7, 2) := by decide +kernel
theorem dX7_lowest_6 : decode cX7_lowest 6 = .ok (.lload 7, 2) := by decide +kernel
theorem dX7_lowest_8 : decode cX7_lowest 8 = .ok (.lconst 0, 1) := by decide +kernel
theorem dX7_lowest_9 : decode cX7_lowest 9 = .ok (.lcmp, 1) := by decide +kernel
theorem dX7_lowest_10 : decode cX7_lowest 10 = .ok (.ifCond .eq 21, 3) := by decide +kernel
theorem dX7_lowest_13 : decode cX7_lowest 13 = .ok (.lload 5, 2) := by decide +kernel
theorem dX7_lowest_15 : decode cX7_lowest 15 = .ok (.lload 7, 2) := by decide +kernel
theorem dX7_lowest_17 : decode cX7_lowest 17 = .ok (.lrem, 1) := by decide +kernel
theorem dX7_lowest_18 : decode cX7_lowest 18 = .ok (.lstore 9, 2) := by decide +kernel
theorem dX7_lowest_20 : decode cX7_lowest 20 = .ok (.lload 7, 2) := by decide +kernel
theorem dX7_lowest_22 : decode cX7_lowest 22 = .ok (.lstore 5, 2) := by decide +kernel
theorem dX7_lowest_24 : decode cX7_lowest 24 = .ok (.lload 9, 2) := by decide +kernel
theorem dX7_lowest_26 : decode cX7_lowest 26 = .ok (.lstore 7, 2) := by decide +kernel
theorem dX7_lowest_28 : decode cX7_lowest 28 = .ok (.goto (-22), 3) := by decide +kernel
theorem dX7_lowest_31 : decode cX7_lowest 31 = .ok (.iload 4, 2) := by decide +kernel
theorem dX7_lowest_33 : decode cX7_lowest 33 = .ok (.ifCond .ne 10, 3) := by decide +kernel
theorem dX7_lowest_36 : decode cX7_lowest 36 = .ok (.lload_n 0, 1) := by decide +kernel
theorem dX7_lowest_37 : decode cX7_lowest 37 = .ok (.lload 5, 2) := by decide +kernel
theorem dX7_lowest_39 : decode cX7_lowest 39 = .ok (.ldiv, 1) := by decide +kernel
theorem dX7_lowest_40 : decode cX7_lowest 40 = .ok (.goto 7, 3) := by decide +kernel
theorem dX7_lowest_43 : decode cX7_lowest 43 = .ok (.lload_n 2, 1) := by decide +kernel
theorem dX7_lowest_44 : decode cX7_lowest 44 = .ok (.lload 5, 2) := by decide +kernel
theorem dX7_lowest_46 : decode cX7_lowest 46 = .ok (.ldiv, 1) := by decide +kernel
theorem dX7_lowest_47 : decode cX7_lowest 47 = .ok (.lreturn, 1) := by decide +kernel
set_option maxRecDepth 20000 in
theorem ggX7_first_X7_in : GoodIn wsX7_first wsX7_in := goodIn_r _ [8] (by decide +kernel) (by decide +kernel)
set_option maxRecDepth 20000 in
theorem gX7_first_X7_in : GoodIn wsX7_first (va_wsS RX7 71 yX7_in wsX7_in) := goodIn_app (goodIn_of _ (by decide +kernel)) ggX7_first_X7_in
set_option maxRecDepth 20000 in
theorem ggX7_first_X7_lowest : GoodIn wsX7_first wsX7_lowest := goodIn_r _ [11] (by decide +kernel) (by decide +kernel)
set_option maxRecDepth 20000 in
theorem gX7_first_X7_lowest : GoodIn wsX7_first (va_wsS RX7 283 yX7_lowest wsX7_lowest) := goodIn_app (goodIn_of _ (by decide +kernel)) ggX7_first_X7_lowest
theorem dX7_first_0 : decode cX7_first 0 = .ok (.iload_n 1, 1) := by decide +kernel
theorem dX7_first_1 : decode cX7_first 1 = .ok (.i2l, 1) := by decide +kernel
theorem dX7_first_2 : decode cX7_first 2 = .ok (.lconst 0, 1) := by decide +kernel
theorem dX7_first_3 : decode cX7_first 3 = .ok (.ldc2_w 277, 3) := by decide +kernel
theorem dX7_first_6 : decode cX7_first 6 = .ok (.invokestatic 71, 3) := by decide +kernel
theorem dX7_first_9 : decode cX7_first 9 = .ok (.ifCond .eq 51, 3) := by decide +kernel
theorem dX7_first_12 : decode cX7_first 12 = .ok (.iload_n 2, 1) := by decide +kernel
theorem dX7_first_13 : decode cX7_first 13 = .ok (.i2l, 1) := by decide +kernel
theorem dX7_first_14 : decode cX7_first 14 = .ok (.lconst 0, 1) := by decide +kernel
theorem dX7_first_15 : decode cX7_first 15 = .ok (.ldc2_w 277, 3) := by decide +kernel
theorem dX7_first_18 : decode cX7_first 18 = .ok (.invokestatic 71, 3) := by decide +kernel
theorem dX7_first_21 : decode cX7_first 21 = .ok (.ifCond .eq 39, 3) := by decide +kernel
theorem dX7_first_24 : decode cX7_first 24 = .ok (.iload_n 3, 1) := by decide +kernel
theorem dX7_first_25 : decode cX7_first 25 = .ok (.i2l, 1) := by decide +kernel
theorem dX7_first_26 : decode cX7_first 26 = .ok (.lconst 0, 1) := by decide +kernel
theorem dX7_first_27 : decode cX7_first 27 = .ok (.ldc2_w 279, 3) := by decide +kernel
theorem dX7_first_30 : decode cX7_first 30 = .ok (.invokestatic 71, 3) := by decide +kernel
theorem dX7_first_33 : decode cX7_first 33 = .ok (.ifCond .eq 27, 3) := by decide +kernel
theorem dX7_first_36 : decode cX7_first 36 = .ok (.iload 4, 2) := by decide +kernel
theorem dX7_first_38 : decode cX7_first 38 = .ok (.i2l, 1) := by decide +kernel
theorem dX7_first_39 : decode cX7_first 39 = .ok (.lconst 0, 1) := by decide +kernel
theorem dX7_first_40 : decode cX7_first 40 = .ok (.ldc2_w 208, 3) := by decide +kernel
theorem dX7_first_43 : decode cX7_first 43 = .ok (.invokestatic 71, 3) := by decide +kernel
theorem dX7_first_46 : decode cX7_first 46 = .ok (.ifCond .eq 14, 3) := by decide +kernel
theorem dX7_first_49 : decode cX7_first 49 = .ok (.iload 5, 2) := by decide +kernel
theorem dX7_first_51 : decode cX7_first 51 = .ok (.i2l, 1) := by decide +kernel
theorem dX7_first_52 : decode cX7_first 52 = .ok (.lconst 0, 1) := by decide +kernel
theorem dX7_first_53 : decode cX7_first 53 = .ok (.lconst 1, 1) := by decide +kernel
theorem dX7_first_54 : decode cX7_first 54 = .ok (.invokestatic 71, 3) := by decide +kernel
theorem dX7_first_57 : decode cX7_first 57 = .ok (.ifCond .ne 7, 3) := by decide +kernel
theorem dX7_first_60 : decode cX7_first 60 = .ok (.ldc2_w 281, 3) := by decide +kernel
theorem dX7_first_63 : decode cX7_first 63 = .ok (.lreturn, 1) := by decide +kernel
theorem dX7_first_64 : decode cX7_first 64 = .ok (.lconst 0, 1) := by decide +kernel
theorem dX7_first_65 : decode cX7_first 65 = .ok (.lstore 6, 2) := by decide +kernel
theorem dX7_first_67 : decode cX7_first 67 = .ok (.lconst 0, 1) := by decide +kernel
theorem dX7_first_68 : decode cX7_first 68 = .ok (.lstore 8, 2) := by decide +kernel
theorem dX7_first_70 : decode cX7_first 70 = .ok (.lconst 1, 1) := by decide +kernel
theorem dX7_first_71 : decode cX7_first 71 = .ok (.lstore 10, 2) := by decide +kernel
theorem dX7_first_73 : decode cX7_first 73 = .ok (.iconst 0, 1) := by decide +kernel
theorem dX7_first_74 : decode cX7_first 74 = .ok (.istore 12, 2) := by decide +kernel
theorem dX7_first_76 : decode cX7_first 76 = .ok (.iload 12, 2) := by decide +kernel
theorem dX7_first_78 : decode cX7_first 78 = .ok (.iload_n 3, 1) := by decide +kernel
theorem dX7_first_79 : decode cX7_first 79 = .ok (.if_icmp .ge 80, 3) := by decide +kernel
theorem dX7_first_82 : decode cX7_first 82 = .ok (.ldc2_w 277, 3) := by decide +kernel
theorem dX7_first_85 : decode cX7_first 85 = .ok (.lload 6, 2) := by decide +kernel
theorem dX7_first_87 : decode cX7_first 87 = .ok (.lmul, 1) := by decide +kernel
theorem dX7_first_88 : decode cX7_first 88 = .ok (.iload 12, 2) := by decide +kernel
theorem dX7_first_90 : decode cX7_first 90 = .ok (.iconst 2, 1) := by decide +kernel
theorem dX7_first_91 : decode cX7_first 91 = .ok (.irem, 1) := by decide +kernel
theorem dX7_first_92 : decode cX7_first 92 = .ok (.ifCond .ne 11, 3) := by decide +kernel
theorem dX7_first_95 : decode cX7_first 95 = .ok (.iload_n 1, 1) := by decide +kernel
theorem dX7_first_96 : decode cX7_first 96 = .ok (.i2l, 1) := by decide +kernel
theorem dX7_first_97 : decode cX7_first 97 = .ok (.lload 10, 2) := by decide +kernel
theorem dX7_first_99 : decode cX7_first 99 = .ok (.lmul, 1) := by decide +kernel
theorem dX7_first_100 : decode cX7_first 100 = .ok (.goto 4, 3) := by decide +kernel
theorem dX7_first_103 : decode cX7_first 103 = .ok (.lconst 0, 1) := by decide +kernel
theorem dX7_first_104 : decode cX7_first 104 = .ok (.ladd, 1) := by decide +kernel
theorem dX7_first_105 : decode cX7_first 105 = .ok (.lstore 6, 2) := by decide +kernel
theorem dX7_first_107 : decode cX7_first 107 = .ok (.ldc2_w 277, 3) := by decide +kernel
theorem dX7_first_110 : decode cX7_first 110 = .ok (.lload 8, 2) := by decide +kernel
theorem dX7_first_112 : decode cX7_first 112 = .ok (.lmul, 1) := by decide +kernel
theorem dX7_first_113 : decode cX7_first 113 = .ok (.iload 12, 2) := by decide +kernel
theorem dX7_first_115 : decode cX7_first 115 = .ok (.iconst 2, 1) := by decide +kernel
theorem dX7_first_116 : decode cX7_first 116 = .ok (.irem, 1) := by decide +kernel
theorem dX7_first_117 : decode cX7_first 117 = .ok (.ifCond .ne 7, 3) := by decide +kernel
theorem dX7_first_120 : decode cX7_first 120 = .ok (.lconst 0, 1) := by decide +kernel
theorem dX7_first_121 : decode cX7_first 121 = .ok (.goto 8, 3) := by decide +kernel
theorem dX7_first_124 : decode cX7_first 124 = .ok (.iload_n 2, 1) := by decide +kernel
theorem dX7_first_125 : decode cX7_first 125 = .ok (.i2l, 1) := by decide +kernel
theorem dX7_first_126 : decode cX7_first 126 = .ok (.lload 10, 2) := by decide +kernel
theorem dX7_first_128 : decode cX7_first 128 = .ok (.lmul, 1) := by decide +kernel
theorem dX7_first_129 : decode cX7_first 129 = .ok (.ladd, 1) := by decide +kernel
theorem dX7_first_130 : decode cX7_first 130 = .ok (.lstore 8, 2) := by decide +kernel
theorem dX7_first_132 : decode cX7_first 132 = .ok (.lload 10, 2) := by decide +kernel
theorem dX7_first_134 : decode cX7_first 134 = .ok (.bipush 10, 2) := by decide +kernel
theorem dX7_first_136 : decode cX7_first 136 = .ok (.iload 12, 2) := by decide +kernel
theorem dX7_first_138 : decode cX7_first 138 = .ok (.iconst 2, 1) := by decide +kernel
theorem dX7_first_139 : decode cX7_first 139 = .ok (.irem, 1) := by decide +kernel
theorem dX7_first_140 : decode cX7_first 140 = .ok (.ifCond .ne 7, 3) := by decide +kernel
theorem dX7_first_143 : decode cX7_first 143 = .ok (.iload_n 1, 1) := by decide +kernel
theorem dX7_first_144 : decode cX7_first 144 = .ok (.goto 4, 3) := by decide +kernel
theorem dX7_first_147 : decode cX7_first 147 = .ok (.iload_n 2, 1) := by decide +kernel
theorem dX7_first_148 : decode cX7_first 148 = .ok (.isub, 1) := by decide +kernel
theorem dX7_first_149 : decode cX7_first 149 = .ok (.i2l, 1) := by decide +kernel
theorem dX7_first_150 : decode cX7_first 150 = .ok (.lmul, 1) := by decide +kernel
theorem dX7_first_151 : decode cX7_first 151 = .ok (.lstore 10, 2) := by decide +kernel
theorem dX7_first_153 : decode cX7_first 153 = .ok (.iinc 12 1, 3) := by decide +kernel
theorem dX7_first_156 : decode cX7_first 156 = .ok (.goto (-80), 3) := by decide +kernel
theorem dX7_first_159 : decode cX7_first 159 = .ok (.iload 4, 2) := by decide +kernel
theorem dX7_first_161 : decode cX7_first 161 = .ok (.ifCond .ne 8, 3) := by decide +kernel
theorem dX7_first_164 : decode cX7_first 164 = .ok (.lload 6, 2) := by decide +kernel
theorem dX7_first_166 : decode cX7_first 166 = .ok (.goto 16, 3) := by decide +kernel
theorem dX7_first_169 : decode cX7_first 169 = .ok (.iload 4, 2) := by decide +kernel
theorem dX7_first_171 : decode cX7_first 171 = .ok (.iconst 1, 1) := by decide +kernel
theorem dX7_first_172 : decode cX7_first 172 = .ok (.if_icmp .ne 8, 3) := by decide +kernel
theorem dX7_first_175 : decode cX7_first 175 = .ok (.lload 8, 2) := by decide +kernel
theorem dX7_first_177 : decode cX7_first 177 = .ok (.goto 5, 3) := by decide +kernel
theorem dX7_first_180 : decode cX7_first 180 = .ok (.lload 10, 2) := by decide +kernel
theorem dX7_first_182 : decode cX7_first 182 = .ok (.lstore 12, 2) := by decide +kernel
theorem dX7_first_184 : decode cX7_first 184 = .ok (.lload 12, 2) := by decide +kernel
theorem dX7_first_186 : decode cX7_first 186 = .ok (.lload 6, 2) := by decide +kernel
theorem dX7_first_188 : decode cX7_first 188 = .ok (.lload 8, 2) := by decide +kernel
theorem dX7_first_190 : decode cX7_first 190 = .ok (.ladd, 1) := by decide +kernel
theorem dX7_first_191 : decode cX7_first 191 = .ok (.lload 10, 2) := by decide +kernel
theorem dX7_first_193 : decode cX7_first 193 = .ok (.ladd, 1) := by decide +kernel
theorem dX7_first_194 : decode cX7_first 194 = .ok (.iload 5, 2) := by decide +kernel
theorem dX7_first_196 : decode cX7_first 196 = .ok (.invokestatic 283, 3) := by decide +kernel
theorem dX7_first_199 : decode cX7_first 199 = .ok (.lreturn, 1) := by decide +kernel
theorem dX7_actBy_0 : decode cX7_actBy 0 = .ok (.iload_n 0, 1) := by decide +kernel
theorem dX7_actBy_1 : decode cX7_actBy 1 = .ok (.tableswitch 55 0 7 #[47, 55, 55, 55, 55, 49, 51, 53], 47) := by decide +kernel
theorem dX7_actBy_48 : decode cX7_actBy 48 = .ok (.iconst 0, 1) := by decide +kernel
theorem dX7_actBy_49 : decode cX7_actBy 49 = .ok (.ireturn, 1) := by decide +kernel
theorem dX7_actBy_50 : decode cX7_actBy 50 = .ok (.iconst 3, 1) := by decide +kernel
theorem dX7_actBy_51 : decode cX7_actBy 51 = .ok (.ireturn, 1) := by decide +kernel
theorem dX7_actBy_52 : decode cX7_actBy 52 = .ok (.iconst 4, 1) := by decide +kernel
theorem dX7_actBy_53 : decode cX7_actBy 53 = .ok (.ireturn, 1) := by decide +kernel
theorem dX7_actBy_54 : decode cX7_actBy 54 = .ok (.iconst 5, 1) := by decide +kernel
theorem dX7_actBy_55 : decode cX7_actBy 55 = .ok (.ireturn, 1) := by decide +kernel
theorem dX7_actBy_56 : decode cX7_actBy 56 = .ok (.iconst 2, 1) := by decide +kernel
theorem dX7_actBy_57 : decode cX7_actBy 57 = .ok (.ireturn, 1) := by decide +kernel
set_option maxRecDepth 20000 in
theorem ggX7_year_X7_in : GoodIn wsX7_year wsX7_in := goodIn_r _ [13] (by decide +kernel) (by decide +kernel)
set_option maxRecDepth 20000 in
theorem gX7_year_X7_in : GoodIn wsX7_year (va_wsS RX7 71 yX7_in wsX7_in) := goodIn_app (goodIn_of _ (by decide +kernel)) ggX7_year_X7_in
set_option maxRecDepth 20000 in
theorem ggX7_year_X7_keepNow : GoodIn wsX7_year wsX7_keepNow := goodIn_r _ [17, 18, 8, 9, 19, 20, 21, 22, 93, 94, 95, 96, 97, 98, 99, 100, 101, 102, 103, 104, 105, 106, 107, 108, 109, 110, 111, 112, 113, 114, 115, 116, 117, 118, 119, 120, 121, 122, 123, 124, 125, 126] (by decide +kernel) (by decide +kernel)
set_option maxRecDepth 20000 in
theorem gX7_year_X7_keepNow : GoodIn wsX7_year (wsV RX7 199 RX7 yX7_keepNow wsX7_keepNow) := goodIn_app (goodIn_of _ (by decide +kernel)) ggX7_year_X7_keepNow
set_option maxRecDepth 20000 in
theorem ggX7_year_X7_actBy : GoodIn wsX7_year wsX7_actBy := goodIn_r _ [25] (by decide +kernel) (by decide +kernel)
set_option maxRecDepth 20000 in
theorem gX7_year_X7_actBy : GoodIn wsX7_year (va_wsS RX7 297 yX7_actBy wsX7_actBy) := goodIn_app (goodIn_of _ (by decide +kernel)) ggX7_year_X7_actBy
set_option maxRecDepth 20000 in
theorem ggX7_year_X7_whyNot : GoodIn wsX7_year wsX7_whyNot := goodIn_r _ [29, 19, 21, 22, 30, 31, 32, 12, 33, 9, 8, 34, 35, 36, 37, 38, 39, 40, 41, 42, 43, 44, 45, 46, 10, 11, 13, 93, 94, 95, 96, 97, 98, 99, 100, 101, 102, 103, 104, 105, 106, 107, 108, 109, 110, 111, 112, 113, 114, 115, 116, 117, 118, 119, 120, 121, 122, 123, 124, 125, 126] (by decide +kernel) (by decide +kernel)
set_option maxRecDepth 20000 in
theorem gX7_year_X7_whyNot : GoodIn wsX7_year (wsV RX7 192 RX7 yX7_whyNot wsX7_whyNot) := goodIn_app (goodIn_of _ (by decide +kernel)) ggX7_year_X7_whyNot
set_option maxRecDepth 20000 in
theorem ggX7_year_X7_happen : GoodIn wsX7_year wsX7_happen := goodIn_r _ [50, 21, 51, 52, 53, 12, 54, 19, 20, 55, 56, 57, 58, 8, 59, 9, 60, 34, 35, 36, 37, 38, 39, 40, 41, 42, 43, 44, 45, 46, 10, 11, 13, 61, 62, 63, 64, 65, 4, 66, 67, 68, 69, 70, 71, 72, 73, 74, 75, 76, 77, 78, 79, 80, 81, 82, 83, 84, 85, 86, 87, 88, 22, 93, 94, 95, 96, 97, 98, 99, 100, 101, 102, 103, 104, 105, 106, 107, 108, 109, 110, 111, 112, 113, 114, 115, 116, 117, 118, 119, 120, 121, 122, 123, 124, 125, 126] (by decide +kernel) (by decide +kernel)
set_option maxRecDepth 20000 in
theorem gX7_year_X7_happen : GoodIn wsX7_year (wsV RX7 195 RX7 yX7_happen wsX7_happen) := goodIn_app (goodIn_of _ (by decide +kernel)) ggX7_year_X7_happen
set_option maxRecDepth 20000 in
theorem ggX7_year_X7_back : GoodIn wsX7_year wsX7_back := goodIn_r _ [92, 18, 8, 9, 19, 20, 21, 22, 93, 94, 95, 96, 97, 98, 99, 100, 101, 102, 103, 104, 105, 106, 107, 108, 109, 110, 111, 112, 113, 114, 115, 116, 117, 118, 119, 120, 121, 122, 123, 124, 125, 126] (by decide +kernel) (by decide +kernel)
set_option maxRecDepth 20000 in
theorem gX7_year_X7_back : GoodIn wsX7_year (wsV RX7 213 RX7 yX7_back wsX7_back) := goodIn_app (goodIn_of _ (by decide +kernel)) ggX7_year_X7_back
theorem dX7_year_0 : decode cX7_year 0 = .ok (.iload_n 1, 1) := by decide +kernel
theorem dX7_year_1 : decode cX7_year 1 = .ok (.i2l, 1) := by decide +kernel
theorem dX7_year_2 : decode cX7_year 2 = .ok (.lconst 0, 1) := by decide +kernel
theorem dX7_year_3 : decode cX7_year 3 = .ok (.ldc2_w 287, 3) := by decide +kernel
theorem dX7_year_6 : decode cX7_year 6 = .ok (.invokestatic 71, 3) := by decide +kernel
theorem dX7_year_9 : decode cX7_year 9 = .ok (.ifCond .eq 27, 3) := by decide +kernel
theorem dX7_year_12 : decode cX7_year 12 = .ok (.iload_n 2, 1) := by decide +kernel
theorem dX7_year_13 : decode cX7_year 13 = .ok (.i2l, 1) := by decide +kernel
theorem dX7_year_14 : decode cX7_year 14 = .ok (.lconst 1, 1) := by decide +kernel
theorem dX7_year_15 : decode cX7_year 15 = .ok (.ldc2_w 289, 3) := by decide +kernel
theorem dX7_year_18 : decode cX7_year 18 = .ok (.invokestatic 71, 3) := by decide +kernel
theorem dX7_year_21 : decode cX7_year 21 = .ok (.ifCond .eq 15, 3) := by decide +kernel
theorem dX7_year_24 : decode cX7_year 24 = .ok (.iload_n 3, 1) := by decide +kernel
theorem dX7_year_25 : decode cX7_year 25 = .ok (.i2l, 1) := by decide +kernel
theorem dX7_year_26 : decode cX7_year 26 = .ok (.lconst 0, 1) := by decide +kernel
theorem dX7_year_27 : decode cX7_year 27 = .ok (.ldc2_w 208, 3) := by decide +kernel
theorem dX7_year_30 : decode cX7_year 30 = .ok (.invokestatic 71, 3) := by decide +kernel
theorem dX7_year_33 : decode cX7_year 33 = .ok (.ifCond .ne 6, 3) := by decide +kernel
theorem dX7_year_36 : decode cX7_year 36 = .ok (.bipush (-2), 2) := by decide +kernel
theorem dX7_year_38 : decode cX7_year 38 = .ok (.ireturn, 1) := by decide +kernel
theorem dX7_year_39 : decode cX7_year 39 = .ok (.aload_n 0, 1) := by decide +kernel
theorem dX7_year_40 : decode cX7_year 40 = .ok (.invokevirtual 199, 3) := by decide +kernel
theorem dX7_year_43 : decode cX7_year 43 = .ok (.aload_n 0, 1) := by decide +kernel
theorem dX7_year_44 : decode cX7_year 44 = .ok (.iconst 0, 1) := by decide +kernel
theorem dX7_year_45 : decode cX7_year 45 = .ok (.putfield 164, 3) := by decide +kernel
theorem dX7_year_48 : decode cX7_year 48 = .ok (.iload_n 1, 1) := by decide +kernel
theorem dX7_year_49 : decode cX7_year 49 = .ok (.istore 4, 2) := by decide +kernel
theorem dX7_year_51 : decode cX7_year 51 = .ok (.iconst 0, 1) := by decide +kernel
theorem dX7_year_52 : decode cX7_year 52 = .ok (.istore 5, 2) := by decide +kernel
theorem dX7_year_54 : decode cX7_year 54 = .ok (.iload 5, 2) := by decide +kernel
theorem dX7_year_56 : decode cX7_year 56 = .ok (.iload_n 2, 1) := by decide +kernel
theorem dX7_year_57 : decode cX7_year 57 = .ok (.if_icmp .ge 76, 3) := by decide +kernel
theorem dX7_year_60 : decode cX7_year 60 = .ok (.ldc2_w 291, 3) := by decide +kernel
theorem dX7_year_63 : decode cX7_year 63 = .ok (.iload 4, 2) := by decide +kernel
theorem dX7_year_65 : decode cX7_year 65 = .ok (.i2l, 1) := by decide +kernel
theorem dX7_year_66 : decode cX7_year 66 = .ok (.lmul, 1) := by decide +kernel
theorem dX7_year_67 : decode cX7_year 67 = .ok (.ldc2_w 293, 3) := by decide +kernel
theorem dX7_year_70 : decode cX7_year 70 = .ok (.ladd, 1) := by decide +kernel
theorem dX7_year_71 : decode cX7_year 71 = .ok (.ldc2_w 295, 3) := by decide +kernel
theorem dX7_year_74 : decode cX7_year 74 = .ok (.lrem, 1) := by decide +kernel
theorem dX7_year_75 : decode cX7_year 75 = .ok (.l2i, 1) := by decide +kernel
theorem dX7_year_76 : decode cX7_year 76 = .ok (.istore 4, 2) := by decide +kernel
theorem dX7_year_78 : decode cX7_year 78 = .ok (.iload 4, 2) := by decide +kernel
theorem dX7_year_80 : decode cX7_year 80 = .ok (.bipush 8, 2) := by decide +kernel
theorem dX7_year_82 : decode cX7_year 82 = .ok (.irem, 1) := by decide +kernel
theorem dX7_year_83 : decode cX7_year 83 = .ok (.invokestatic 297, 3) := by decide +kernel
theorem dX7_year_86 : decode cX7_year 86 = .ok (.istore 6, 2) := by decide +kernel
theorem dX7_year_88 : decode cX7_year 88 = .ok (.iload 4, 2) := by decide +kernel
theorem dX7_year_90 : decode cX7_year 90 = .ok (.bipush 8, 2) := by decide +kernel
theorem dX7_year_92 : decode cX7_year 92 = .ok (.idiv, 1) := by decide +kernel
theorem dX7_year_93 : decode cX7_year 93 = .ok (.iload 6, 2) := by decide +kernel
theorem dX7_year_95 : decode cX7_year 95 = .ok (.ifCond .ne 8, 3) := by decide +kernel
theorem dX7_year_98 : decode cX7_year 98 = .ok (.bipush 6, 2) := by decide +kernel
theorem dX7_year_100 : decode cX7_year 100 = .ok (.goto 5, 3) := by decide +kernel
theorem dX7_year_103 : decode cX7_year 103 = .ok (.bipush 8, 2) := by decide +kernel
theorem dX7_year_105 : decode cX7_year 105 = .ok (.irem, 1) := by decide +kernel
theorem dX7_year_106 : decode cX7_year 106 = .ok (.istore 7, 2) := by decide +kernel
theorem dX7_year_108 : decode cX7_year 108 = .ok (.aload_n 0, 1) := by decide +kernel
theorem dX7_year_109 : decode cX7_year 109 = .ok (.iload 6, 2) := by decide +kernel
theorem dX7_year_111 : decode cX7_year 111 = .ok (.iload 7, 2) := by decide +kernel
theorem dX7_year_113 : decode cX7_year 113 = .ok (.invokevirtual 192, 3) := by decide +kernel
theorem dX7_year_116 : decode cX7_year 116 = .ok (.ifCond .ne 11, 3) := by decide +kernel
theorem dX7_year_119 : decode cX7_year 119 = .ok (.aload_n 0, 1) := by decide +kernel
theorem dX7_year_120 : decode cX7_year 120 = .ok (.iload 6, 2) := by decide +kernel
theorem dX7_year_122 : decode cX7_year 122 = .ok (.iload 7, 2) := by decide +kernel
theorem dX7_year_124 : decode cX7_year 124 = .ok (.invokevirtual 195, 3) := by decide +kernel
theorem dX7_year_127 : decode cX7_year 127 = .ok (.iinc 5 1, 3) := by decide +kernel
theorem dX7_year_130 : decode cX7_year 130 = .ok (.goto (-76), 3) := by decide +kernel
theorem dX7_year_133 : decode cX7_year 133 = .ok (.aload_n 0, 1) := by decide +kernel
theorem dX7_year_134 : decode cX7_year 134 = .ok (.iload_n 3, 1) := by decide +kernel
theorem dX7_year_135 : decode cX7_year 135 = .ok (.ifCond .ne 10, 3) := by decide +kernel
theorem dX7_year_138 : decode cX7_year 138 = .ok (.aload_n 0, 1) := by decide +kernel
theorem dX7_year_139 : decode cX7_year 139 = .ok (.getfield 59, 3) := by decide +kernel
theorem dX7_year_142 : decode cX7_year 142 = .ok (.goto 19, 3) := by decide +kernel
theorem dX7_year_145 : decode cX7_year 145 = .ok (.iload_n 3, 1) := by decide +kernel
theorem dX7_year_146 : decode cX7_year 146 = .ok (.iconst 1, 1) := by decide +kernel
theorem dX7_year_147 : decode cX7_year 147 = .ok (.if_icmp .ne 10, 3) := by decide +kernel
theorem dX7_year_150 : decode cX7_year 150 = .ok (.aload_n 0, 1) := by decide +kernel
theorem dX7_year_151 : decode cX7_year 151 = .ok (.getfield 63, 3) := by decide +kernel
theorem dX7_year_154 : decode cX7_year 154 = .ok (.goto 7, 3) := by decide +kernel
theorem dX7_year_157 : decode cX7_year 157 = .ok (.aload_n 0, 1) := by decide +kernel
theorem dX7_year_158 : decode cX7_year 158 = .ok (.getfield 164, 3) := by decide +kernel
theorem dX7_year_161 : decode cX7_year 161 = .ok (.invokevirtual 213, 3) := by decide +kernel
theorem dX7_year_164 : decode cX7_year 164 = .ok (.ireturn, 1) := by decide +kernel
theorem dX7_pass_0 : decode cX7_pass 0 = .ok (.aload_n 0, 1) := by decide +kernel
theorem dX7_pass_1 : decode cX7_pass 1 = .ok (.getfield 300, 3) := by decide +kernel
theorem dX7_pass_4 : decode cX7_pass 4 = .ok (.ifCond .eq 7, 3) := by decide +kernel
theorem dX7_pass_7 : decode cX7_pass 7 = .ok (.iload_n 1, 1) := by decide +kernel
theorem dX7_pass_8 : decode cX7_pass 8 = .ok (.goto 12, 3) := by decide +kernel
theorem dX7_pass_11 : decode cX7_pass 11 = .ok (.aload_n 0, 1) := by decide +kernel
theorem dX7_pass_12 : decode cX7_pass 12 = .ok (.getfield 53, 3) := by decide +kernel
theorem dX7_pass_15 : decode cX7_pass 15 = .ok (.aload_n 0, 1) := by decide +kernel
theorem dX7_pass_16 : decode cX7_pass 16 = .ok (.getfield 304, 3) := by decide +kernel
theorem dX7_pass_19 : decode cX7_pass 19 = .ok (.iaload, 1) := by decide +kernel
theorem dX7_pass_20 : decode cX7_pass 20 = .ok (.istore_n 2, 1) := by decide +kernel
theorem dX7_pass_21 : decode cX7_pass 21 = .ok (.aload_n 0, 1) := by decide +kernel
theorem dX7_pass_22 : decode cX7_pass 22 = .ok (.getfield 53, 3) := by decide +kernel
theorem dX7_pass_25 : decode cX7_pass 25 = .ok (.aload_n 0, 1) := by decide +kernel
theorem dX7_pass_26 : decode cX7_pass 26 = .ok (.getfield 304, 3) := by decide +kernel
theorem dX7_pass_29 : decode cX7_pass 29 = .ok (.iload_n 2, 1) := by decide +kernel
theorem dX7_pass_30 : decode cX7_pass 30 = .ok (.iastore, 1) := by decide +kernel
theorem dX7_pass_31 : decode cX7_pass 31 = .ok (.aload_n 0, 1) := by decide +kernel
theorem dX7_pass_32 : decode cX7_pass 32 = .ok (.dup, 1) := by decide +kernel
theorem dX7_pass_33 : decode cX7_pass 33 = .ok (.getfield 304, 3) := by decide +kernel
theorem dX7_pass_36 : decode cX7_pass 36 = .ok (.iconst 1, 1) := by decide +kernel
theorem dX7_pass_37 : decode cX7_pass 37 = .ok (.iadd, 1) := by decide +kernel
theorem dX7_pass_38 : decode cX7_pass 38 = .ok (.putfield 304, 3) := by decide +kernel
theorem dX7_pass_41 : decode cX7_pass 41 = .ok (.iload_n 2, 1) := by decide +kernel
theorem dX7_pass_42 : decode cX7_pass 42 = .ok (.ireturn, 1) := by decide +kernel
set_option maxRecDepth 20000 in
theorem ggX7_passRow_X7_pass : GoodIn wsX7_passRow wsX7_pass := goodIn_r _ [5, 6, 7, 8, 9, 10, 11, 12, 13, 14, 15, 16, 17, 18, 19, 20, 21, 22, 23, 24, 25, 26, 27, 28, 29, 30, 31, 32, 33, 34, 35, 36, 37, 38, 39, 40, 41, 42] (by decide +kernel) (by decide +kernel)
set_option maxRecDepth 20000 in
theorem gX7_passRow_X7_pass : GoodIn wsX7_passRow (wsV RX7 307 RX7 yX7_pass wsX7_pass) := goodIn_app (goodIn_of _ (by decide +kernel)) ggX7_passRow_X7_pass
theorem dX7_passRow_0 : decode cX7_passRow 0 = .ok (.iconst 0, 1) := by decide +kernel
theorem dX7_passRow_1 : decode cX7_passRow 1 = .ok (.istore_n 3, 1) := by decide +kernel
theorem dX7_passRow_2 : decode cX7_passRow 2 = .ok (.iload_n 3, 1) := by decide +kernel
theorem dX7_passRow_3 : decode cX7_passRow 3 = .ok (.iload_n 2, 1) := by decide +kernel
theorem dX7_passRow_4 : decode cX7_passRow 4 = .ok (.if_icmp .ge 19, 3) := by decide +kernel
theorem dX7_passRow_7 : decode cX7_passRow 7 = .ok (.aload_n 1, 1) := by decide +kernel
theorem dX7_passRow_8 : decode cX7_passRow 8 = .ok (.iload_n 3, 1) := by decide +kernel
theorem dX7_passRow_9 : decode cX7_passRow 9 = .ok (.aload_n 0, 1) := by decide +kernel
theorem dX7_passRow_10 : decode cX7_passRow 10 = .ok (.aload_n 1, 1) := by decide +kernel
theorem dX7_passRow_11 : decode cX7_passRow 11 = .ok (.iload_n 3, 1) := by decide +kernel
theorem dX7_passRow_12 : decode cX7_passRow 12 = .ok (.iaload, 1) := by decide +kernel
theorem dX7_passRow_13 : decode cX7_passRow 13 = .ok (.invokevirtual 307, 3) := by decide +kernel
theorem dX7_passRow_16 : decode cX7_passRow 16 = .ok (.iastore, 1) := by decide +kernel
theorem dX7_passRow_17 : decode cX7_passRow 17 = .ok (.iinc 3 1, 3) := by decide +kernel
theorem dX7_passRow_20 : decode cX7_passRow 20 = .ok (.goto (-18), 3) := by decide +kernel
theorem dX7_passRow_23 : decode cX7_passRow 23 = .ok (.return_, 1) := by decide +kernel
set_option maxRecDepth 20000 in
theorem ggX7_passAll_X7_pass : GoodIn wsX7_passAll wsX7_pass := goodIn_r _ [17, 18, 19, 20, 25, 26, 27, 28, 29, 30, 31, 32, 33, 34, 35, 36, 37, 38, 39, 40, 41, 42, 43, 44, 45, 46, 47, 48, 49, 50, 51, 52, 53, 54, 55, 56, 57, 58] (by decide +kernel) (by decide +kernel)
set_option maxRecDepth 20000 in
theorem gX7_passAll_X7_pass : GoodIn wsX7_passAll (wsV RX7 307 RX7 yX7_pass wsX7_pass) := goodIn_app (goodIn_of _ (by decide +kernel)) ggX7_passAll_X7_pass
set_option maxRecDepth 20000 in
theorem ggX7_passAll_X7_passRow : GoodIn wsX7_passAll wsX7_passRow := goodIn_r _ [24, 13, 14, 15, 16, 17, 18, 19, 20, 25, 26, 27, 28, 29, 30, 31, 32, 33, 34, 35, 36, 37, 38, 39, 40, 41, 42, 43, 44, 45, 46, 47, 48, 49, 50, 51, 52, 53, 54, 55, 56, 57, 58] (by decide +kernel) (by decide +kernel)
set_option maxRecDepth 20000 in
theorem gX7_passAll_X7_passRow : GoodIn wsX7_passAll (wsV RX7 310 RX7 yX7_passRow wsX7_passRow) := goodIn_app (goodIn_of _ (by decide +kernel)) ggX7_passAll_X7_passRow
theorem dX7_passAll_0 : decode cX7_passAll 0 = .ok (.aload_n 0, 1) := by decide +kernel
theorem dX7_passAll_1 : decode cX7_passAll 1 = .ok (.aload_n 0, 1) := by decide +kernel
theorem dX7_passAll_2 : decode cX7_passAll 2 = .ok (.aload_n 0, 1) := by decide +kernel
theorem dX7_passAll_3 : decode cX7_passAll 3 = .ok (.getfield 59, 3) := by decide +kernel
theorem dX7_passAll_6 : decode cX7_passAll 6 = .ok (.invokevirtual 307, 3) := by decide +kernel
theorem dX7_passAll_9 : decode cX7_passAll 9 = .ok (.putfield 59, 3) := by decide +kernel
theorem dX7_passAll_12 : decode cX7_passAll 12 = .ok (.aload_n 0, 1) := by decide +kernel
theorem dX7_passAll_13 : decode cX7_passAll 13 = .ok (.aload_n 0, 1) := by decide +kernel
theorem dX7_passAll_14 : decode cX7_passAll 14 = .ok (.aload_n 0, 1) := by decide +kernel
theorem dX7_passAll_15 : decode cX7_passAll 15 = .ok (.getfield 63, 3) := by decide +kernel
theorem dX7_passAll_18 : decode cX7_passAll 18 = .ok (.invokevirtual 307, 3) := by decide +kernel
theorem dX7_passAll_21 : decode cX7_passAll 21 = .ok (.putfield 63, 3) := by decide +kernel
theorem dX7_passAll_24 : decode cX7_passAll 24 = .ok (.aload_n 0, 1) := by decide +kernel
theorem dX7_passAll_25 : decode cX7_passAll 25 = .ok (.aload_n 0, 1) := by decide +kernel
theorem dX7_passAll_26 : decode cX7_passAll 26 = .ok (.aload_n 0, 1) := by decide +kernel
theorem dX7_passAll_27 : decode cX7_passAll 27 = .ok (.getfield 66, 3) := by decide +kernel
theorem dX7_passAll_30 : decode cX7_passAll 30 = .ok (.invokevirtual 307, 3) := by decide +kernel
theorem dX7_passAll_33 : decode cX7_passAll 33 = .ok (.putfield 66, 3) := by decide +kernel
theorem dX7_passAll_36 : decode cX7_passAll 36 = .ok (.aload_n 0, 1) := by decide +kernel
theorem dX7_passAll_37 : decode cX7_passAll 37 = .ok (.aload_n 0, 1) := by decide +kernel
theorem dX7_passAll_38 : decode cX7_passAll 38 = .ok (.aload_n 0, 1) := by decide +kernel
theorem dX7_passAll_39 : decode cX7_passAll 39 = .ok (.getfield 146, 3) := by decide +kernel
theorem dX7_passAll_42 : decode cX7_passAll 42 = .ok (.invokevirtual 307, 3) := by decide +kernel
theorem dX7_passAll_45 : decode cX7_passAll 45 = .ok (.putfield 146, 3) := by decide +kernel
theorem dX7_passAll_48 : decode cX7_passAll 48 = .ok (.aload_n 0, 1) := by decide +kernel
theorem dX7_passAll_49 : decode cX7_passAll 49 = .ok (.aload_n 0, 1) := by decide +kernel
theorem dX7_passAll_50 : decode cX7_passAll 50 = .ok (.aload_n 0, 1) := by decide +kernel
theorem dX7_passAll_51 : decode cX7_passAll 51 = .ok (.getfield 104, 3) := by decide +kernel
theorem dX7_passAll_54 : decode cX7_passAll 54 = .ok (.invokevirtual 307, 3) := by decide +kernel
theorem dX7_passAll_57 : decode cX7_passAll 57 = .ok (.putfield 104, 3) := by decide +kernel
theorem dX7_passAll_60 : decode cX7_passAll 60 = .ok (.aload_n 0, 1) := by decide +kernel
theorem dX7_passAll_61 : decode cX7_passAll 61 = .ok (.aload_n 0, 1) := by decide +kernel
theorem dX7_passAll_62 : decode cX7_passAll 62 = .ok (.aload_n 0, 1) := by decide +kernel
theorem dX7_passAll_63 : decode cX7_passAll 63 = .ok (.getfield 143, 3) := by decide +kernel
theorem dX7_passAll_66 : decode cX7_passAll 66 = .ok (.invokevirtual 307, 3) := by decide +kernel
theorem dX7_passAll_69 : decode cX7_passAll 69 = .ok (.putfield 143, 3) := by decide +kernel
theorem dX7_passAll_72 : decode cX7_passAll 72 = .ok (.aload_n 0, 1) := by decide +kernel
theorem dX7_passAll_73 : decode cX7_passAll 73 = .ok (.aload_n 0, 1) := by decide +kernel
theorem dX7_passAll_74 : decode cX7_passAll 74 = .ok (.aload_n 0, 1) := by decide +kernel
theorem dX7_passAll_75 : decode cX7_passAll 75 = .ok (.getfield 253, 3) := by decide +kernel
theorem dX7_passAll_78 : decode cX7_passAll 78 = .ok (.invokevirtual 307, 3) := by decide +kernel
theorem dX7_passAll_81 : decode cX7_passAll 81 = .ok (.putfield 253, 3) := by decide +kernel
theorem dX7_passAll_84 : decode cX7_passAll 84 = .ok (.aload_n 0, 1) := by decide +kernel
theorem dX7_passAll_85 : decode cX7_passAll 85 = .ok (.aload_n 0, 1) := by decide +kernel
theorem dX7_passAll_86 : decode cX7_passAll 86 = .ok (.getfield 7, 3) := by decide +kernel
theorem dX7_passAll_89 : decode cX7_passAll 89 = .ok (.bipush 64, 2) := by decide +kernel
theorem dX7_passAll_91 : decode cX7_passAll 91 = .ok (.invokevirtual 310, 3) := by decide +kernel
theorem dX7_passAll_94 : decode cX7_passAll 94 = .ok (.aload_n 0, 1) := by decide +kernel
theorem dX7_passAll_95 : decode cX7_passAll 95 = .ok (.aload_n 0, 1) := by decide +kernel
theorem dX7_passAll_96 : decode cX7_passAll 96 = .ok (.getfield 13, 3) := by decide +kernel
theorem dX7_passAll_99 : decode cX7_passAll 99 = .ok (.bipush 6, 2) := by decide +kernel
theorem dX7_passAll_101 : decode cX7_passAll 101 = .ok (.invokevirtual 310, 3) := by decide +kernel
theorem dX7_passAll_104 : decode cX7_passAll 104 = .ok (.aload_n 0, 1) := by decide +kernel
theorem dX7_passAll_105 : decode cX7_passAll 105 = .ok (.aload_n 0, 1) := by decide +kernel
theorem dX7_passAll_106 : decode cX7_passAll 106 = .ok (.getfield 16, 3) := by decide +kernel
theorem dX7_passAll_109 : decode cX7_passAll 109 = .ok (.bipush 8, 2) := by decide +kernel
theorem dX7_passAll_111 : decode cX7_passAll 111 = .ok (.invokevirtual 310, 3) := by decide +kernel
theorem dX7_passAll_114 : decode cX7_passAll 114 = .ok (.aload_n 0, 1) := by decide +kernel
theorem dX7_passAll_115 : decode cX7_passAll 115 = .ok (.aload_n 0, 1) := by decide +kernel
theorem dX7_passAll_116 : decode cX7_passAll 116 = .ok (.getfield 19, 3) := by decide +kernel
theorem dX7_passAll_119 : decode cX7_passAll 119 = .ok (.bipush 8, 2) := by decide +kernel
theorem dX7_passAll_121 : decode cX7_passAll 121 = .ok (.invokevirtual 310, 3) := by decide +kernel
theorem dX7_passAll_124 : decode cX7_passAll 124 = .ok (.aload_n 0, 1) := by decide +kernel
theorem dX7_passAll_125 : decode cX7_passAll 125 = .ok (.aload_n 0, 1) := by decide +kernel
theorem dX7_passAll_126 : decode cX7_passAll 126 = .ok (.getfield 22, 3) := by decide +kernel
theorem dX7_passAll_129 : decode cX7_passAll 129 = .ok (.bipush 8, 2) := by decide +kernel
theorem dX7_passAll_131 : decode cX7_passAll 131 = .ok (.invokevirtual 310, 3) := by decide +kernel
theorem dX7_passAll_134 : decode cX7_passAll 134 = .ok (.return_, 1) := by decide +kernel
set_option maxRecDepth 20000 in
theorem ggX7_image_X7_in : GoodIn wsX7_image wsX7_in := goodIn_r _ [7] (by decide +kernel) (by decide +kernel)
set_option maxRecDepth 20000 in
theorem gX7_image_X7_in : GoodIn wsX7_image (va_wsS RX7 71 yX7_in wsX7_in) := goodIn_app (goodIn_of _ (by decide +kernel)) ggX7_image_X7_in
set_option maxRecDepth 20000 in
theorem ggX7_image_X7_passAll : GoodIn wsX7_image wsX7_passAll := goodIn_r _ [11, 12, 13, 14, 15, 16, 17, 18, 19, 20, 21, 22, 23, 24, 25, 26, 6, 27, 2, 28, 1, 29, 30, 31, 32, 33, 34, 35, 36, 37, 38, 39, 40, 41, 42, 43, 44, 45, 46, 47, 48, 49, 50, 51, 52, 53, 54, 55, 56, 57, 58, 59, 60, 61, 62, 63, 64, 65, 66] (by decide +kernel) (by decide +kernel)
set_option maxRecDepth 20000 in
theorem gX7_image_X7_passAll : GoodIn wsX7_image (wsV RX7 314 RX7 yX7_passAll wsX7_passAll) := goodIn_app (goodIn_of _ (by decide +kernel)) ggX7_image_X7_passAll
theorem dX7_image_0 : decode cX7_image 0 = .ok (.iload_n 1, 1) := by decide +kernel
theorem dX7_image_1 : decode cX7_image 1 = .ok (.i2l, 1) := by decide +kernel
theorem dX7_image_2 : decode cX7_image 2 = .ok (.lconst 0, 1) := by decide +kernel
theorem dX7_image_3 : decode cX7_image 3 = .ok (.lconst 1, 1) := by decide +kernel
theorem dX7_image_4 : decode cX7_image 4 = .ok (.invokestatic 71, 3) := by decide +kernel
theorem dX7_image_7 : decode cX7_image 7 = .ok (.ifCond .ne 6, 3) := by decide +kernel
theorem dX7_image_10 : decode cX7_image 10 = .ok (.bipush (-2), 2) := by decide +kernel
theorem dX7_image_12 : decode cX7_image 12 = .ok (.ireturn, 1) := by decide +kernel
theorem dX7_image_13 : decode cX7_image 13 = .ok (.aload_n 0, 1) := by decide +kernel
theorem dX7_image_14 : decode cX7_image 14 = .ok (.bipush 110, 2) := by decide +kernel
theorem dX7_image_16 : decode cX7_image 16 = .ok (.iload_n 1, 1) := by decide +kernel
theorem dX7_image_17 : decode cX7_image 17 = .ok (.imul, 1) := by decide +kernel
theorem dX7_image_18 : decode cX7_image 18 = .ok (.putfield 304, 3) := by decide +kernel
theorem dX7_image_21 : decode cX7_image 21 = .ok (.aload_n 0, 1) := by decide +kernel
theorem dX7_image_22 : decode cX7_image 22 = .ok (.iconst 1, 1) := by decide +kernel
theorem dX7_image_23 : decode cX7_image 23 = .ok (.putfield 300, 3) := by decide +kernel
theorem dX7_image_26 : decode cX7_image 26 = .ok (.aload_n 0, 1) := by decide +kernel
theorem dX7_image_27 : decode cX7_image 27 = .ok (.invokevirtual 314, 3) := by decide +kernel
theorem dX7_image_30 : decode cX7_image 30 = .ok (.aload_n 0, 1) := by decide +kernel
theorem dX7_image_31 : decode cX7_image 31 = .ok (.getfield 56, 3) := by decide +kernel
theorem dX7_image_34 : decode cX7_image 34 = .ok (.iload_n 1, 1) := by decide +kernel
theorem dX7_image_35 : decode cX7_image 35 = .ok (.iconst 1, 1) := by decide +kernel
theorem dX7_image_36 : decode cX7_image 36 = .ok (.bastore, 1) := by decide +kernel
theorem dX7_image_37 : decode cX7_image 37 = .ok (.iconst 1, 1) := by decide +kernel
theorem dX7_image_38 : decode cX7_image 38 = .ok (.ireturn, 1) := by decide +kernel
set_option maxRecDepth 20000 in
theorem ggX7_restore_X7_in : GoodIn wsX7_restore wsX7_in := goodIn_r _ [7] (by decide +kernel) (by decide +kernel)
set_option maxRecDepth 20000 in
theorem gX7_restore_X7_in : GoodIn wsX7_restore (va_wsS RX7 71 yX7_in wsX7_in) := goodIn_app (goodIn_of _ (by decide +kernel)) ggX7_restore_X7_in
set_option maxRecDepth 20000 in
theorem ggX7_restore_X7_passAll : GoodIn wsX7_restore wsX7_passAll := goodIn_r _ [11, 12, 13, 14, 15, 16, 17, 18, 19, 20, 21, 22, 23, 24, 25, 26, 6, 27, 3, 28, 2, 29, 30, 31, 32, 33, 34, 35, 36, 37, 38, 39, 40, 41, 42, 43, 44, 45, 46, 47, 48, 49, 50, 51, 52, 53, 54, 55, 56, 57, 58, 59, 60, 61, 62, 63, 64, 65, 66] (by decide +kernel) (by decide +kernel)
set_option maxRecDepth 20000 in
theorem gX7_restore_X7_passAll : GoodIn wsX7_restore (wsV RX7 314 RX7 yX7_passAll wsX7_passAll) := goodIn_app (goodIn_of _ (by decide +kernel)) ggX7_restore_X7_passAll
theorem dX7_restore_0 : decode cX7_restore 0 = .ok (.iload_n 1, 1) := by decide +kernel
theorem dX7_restore_1 : decode cX7_restore 1 = .ok (.i2l, 1) := by decide +kernel
theorem dX7_restore_2 : decode cX7_restore 2 = .ok (.lconst 0, 1) := by decide +kernel
theorem dX7_restore_3 : decode cX7_restore 3 = .ok (.lconst 1, 1) := by decide +kernel
theorem dX7_restore_4 : decode cX7_restore 4 = .ok (.invokestatic 71, 3) := by decide +kernel
theorem dX7_restore_7 : decode cX7_restore 7 = .ok (.ifCond .ne 6, 3) := by decide +kernel
theorem dX7_restore_10 : decode cX7_restore 10 = .ok (.bipush (-2), 2) := by decide +kernel
theorem dX7_restore_12 : decode cX7_restore 12 = .ok (.ireturn, 1) := by decide +kernel
theorem dX7_restore_13 : decode cX7_restore 13 = .ok (.aload_n 0, 1) := by decide +kernel
theorem dX7_restore_14 : decode cX7_restore 14 = .ok (.getfield 56, 3) := by decide +kernel
theorem dX7_restore_17 : decode cX7_restore 17 = .ok (.iload_n 1, 1) := by decide +kernel
theorem dX7_restore_18 : decode cX7_restore 18 = .ok (.baload, 1) := by decide +kernel
theorem dX7_restore_19 : decode cX7_restore 19 = .ok (.ifCond .ne 6, 3) := by decide +kernel
theorem dX7_restore_22 : decode cX7_restore 22 = .ok (.bipush (-3), 2) := by decide +kernel
theorem dX7_restore_24 : decode cX7_restore 24 = .ok (.ireturn, 1) := by decide +kernel
theorem dX7_restore_25 : decode cX7_restore 25 = .ok (.aload_n 0, 1) := by decide +kernel
theorem dX7_restore_26 : decode cX7_restore 26 = .ok (.bipush 110, 2) := by decide +kernel
theorem dX7_restore_28 : decode cX7_restore 28 = .ok (.iload_n 1, 1) := by decide +kernel
theorem dX7_restore_29 : decode cX7_restore 29 = .ok (.imul, 1) := by decide +kernel
theorem dX7_restore_30 : decode cX7_restore 30 = .ok (.putfield 304, 3) := by decide +kernel
theorem dX7_restore_33 : decode cX7_restore 33 = .ok (.aload_n 0, 1) := by decide +kernel
theorem dX7_restore_34 : decode cX7_restore 34 = .ok (.iconst 0, 1) := by decide +kernel
theorem dX7_restore_35 : decode cX7_restore 35 = .ok (.putfield 300, 3) := by decide +kernel
theorem dX7_restore_38 : decode cX7_restore 38 = .ok (.aload_n 0, 1) := by decide +kernel
theorem dX7_restore_39 : decode cX7_restore 39 = .ok (.invokevirtual 314, 3) := by decide +kernel
theorem dX7_restore_42 : decode cX7_restore 42 = .ok (.iconst 1, 1) := by decide +kernel
theorem dX7_restore_43 : decode cX7_restore 43 = .ok (.ireturn, 1) := by decide +kernel
set_option maxRecDepth 20000 in
theorem ggX7_told_X7_in : GoodIn wsX7_told wsX7_in := goodIn_r _ [15] (by decide +kernel) (by decide +kernel)
set_option maxRecDepth 20000 in
theorem gX7_told_X7_in : GoodIn wsX7_told (va_wsS RX7 71 yX7_in wsX7_in) := goodIn_app (goodIn_of _ (by decide +kernel)) ggX7_told_X7_in
set_option maxRecDepth 20000 in
theorem ggX7_told_X7_landMany : GoodIn wsX7_told wsX7_landMany := goodIn_r _ [19, 3, 29, 30, 31, 32, 33, 34, 35, 36, 37, 38, 39, 40, 41, 42, 43, 44, 45, 46, 47, 48, 49, 50, 51, 52, 53, 54, 55, 56, 57, 58, 59, 60, 61, 62] (by decide +kernel) (by decide +kernel)
set_option maxRecDepth 20000 in
theorem gX7_told_X7_landMany : GoodIn wsX7_told (wsV RX7 96 RX7 yX7_landMany wsX7_landMany) := goodIn_app (goodIn_of _ (by decide +kernel)) ggX7_told_X7_landMany
set_option maxRecDepth 20000 in
theorem ggX7_told_X7_ofShip : GoodIn wsX7_told wsX7_ofShip := goodIn_r _ [23, 24, 25, 26, 27, 28, 8, 29, 30, 31, 32, 33, 34, 35, 36, 37, 38, 39, 40, 41, 42, 43, 44, 45, 46, 47, 48, 49, 50, 51, 52, 53, 54, 55, 56, 57, 58, 59, 60, 61, 62] (by decide +kernel) (by decide +kernel)
set_option maxRecDepth 20000 in
theorem gX7_told_X7_ofShip : GoodIn wsX7_told (wsV RX7 216 RX7 yX7_ofShip wsX7_ofShip) := goodIn_app (goodIn_of _ (by decide +kernel)) ggX7_told_X7_ofShip
theorem dX7_told_0 : decode cX7_told 0 = .ok (.iload_n 1, 1) := by decide +kernel
theorem dX7_told_1 : decode cX7_told 1 = .ok (.i2l, 1) := by decide +kernel
theorem dX7_told_2 : decode cX7_told 2 = .ok (.ldc2_w 317, 3) := by decide +kernel
theorem dX7_told_5 : decode cX7_told 5 = .ok (.ldc2_w 319, 3) := by decide +kernel
theorem dX7_told_8 : decode cX7_told 8 = .ok (.invokestatic 71, 3) := by decide +kernel
theorem dX7_told_11 : decode cX7_told 11 = .ok (.ifCond .eq 13, 3) := by decide +kernel
theorem dX7_told_14 : decode cX7_told 14 = .ok (.aload_n 0, 1) := by decide +kernel
theorem dX7_told_15 : decode cX7_told 15 = .ok (.getfield 7, 3) := by decide +kernel
theorem dX7_told_18 : decode cX7_told 18 = .ok (.iload_n 1, 1) := by decide +kernel
theorem dX7_told_19 : decode cX7_told 19 = .ok (.bipush 100, 2) := by decide +kernel
theorem dX7_told_21 : decode cX7_told 21 = .ok (.isub, 1) := by decide +kernel
theorem dX7_told_22 : decode cX7_told 22 = .ok (.iaload, 1) := by decide +kernel
theorem dX7_told_23 : decode cX7_told 23 = .ok (.ireturn, 1) := by decide +kernel
theorem dX7_told_24 : decode cX7_told 24 = .ok (.iload_n 1, 1) := by decide +kernel
theorem dX7_told_25 : decode cX7_told 25 = .ok (.i2l, 1) := by decide +kernel
theorem dX7_told_26 : decode cX7_told 26 = .ok (.ldc2_w 277, 3) := by decide +kernel
theorem dX7_told_29 : decode cX7_told 29 = .ok (.ldc2_w 321, 3) := by decide +kernel
theorem dX7_told_32 : decode cX7_told 32 = .ok (.invokestatic 71, 3) := by decide +kernel
theorem dX7_told_35 : decode cX7_told 35 = .ok (.ifCond .eq 13, 3) := by decide +kernel
theorem dX7_told_38 : decode cX7_told 38 = .ok (.aload_n 0, 1) := by decide +kernel
theorem dX7_told_39 : decode cX7_told 39 = .ok (.getfield 13, 3) := by decide +kernel
theorem dX7_told_42 : decode cX7_told 42 = .ok (.iload_n 1, 1) := by decide +kernel
theorem dX7_told_43 : decode cX7_told 43 = .ok (.bipush 10, 2) := by decide +kernel
theorem dX7_told_45 : decode cX7_told 45 = .ok (.isub, 1) := by decide +kernel
theorem dX7_told_46 : decode cX7_told 46 = .ok (.iaload, 1) := by decide +kernel
theorem dX7_told_47 : decode cX7_told 47 = .ok (.ireturn, 1) := by decide +kernel
theorem dX7_told_48 : decode cX7_told 48 = .ok (.iload_n 1, 1) := by decide +kernel
theorem dX7_told_49 : decode cX7_told 49 = .ok (.tableswitch 71 0 8 #[51, 56, 71, 71, 71, 71, 71, 61, 66], 51) := by decide +kernel
theorem dX7_told_100 : decode cX7_told 100 = .ok (.aload_n 0, 1) := by decide +kernel
theorem dX7_told_101 : decode cX7_told 101 = .ok (.getfield 111, 3) := by decide +kernel
theorem dX7_told_104 : decode cX7_told 104 = .ok (.ireturn, 1) := by decide +kernel
theorem dX7_told_105 : decode cX7_told 105 = .ok (.aload_n 0, 1) := by decide +kernel
theorem dX7_told_106 : decode cX7_told 106 = .ok (.invokevirtual 96, 3) := by decide +kernel
theorem dX7_told_109 : decode cX7_told 109 = .ok (.ireturn, 1) := by decide +kernel
theorem dX7_told_110 : decode cX7_told 110 = .ok (.aload_n 0, 1) := by decide +kernel
theorem dX7_told_111 : decode cX7_told 111 = .ok (.getfield 143, 3) := by decide +kernel
theorem dX7_told_114 : decode cX7_told 114 = .ok (.ireturn, 1) := by decide +kernel
theorem dX7_told_115 : decode cX7_told 115 = .ok (.aload_n 0, 1) := by decide +kernel
theorem dX7_told_116 : decode cX7_told 116 = .ok (.getfield 253, 3) := by decide +kernel
theorem dX7_told_119 : decode cX7_told 119 = .ok (.ireturn, 1) := by decide +kernel
theorem dX7_told_120 : decode cX7_told 120 = .ok (.iload_n 1, 1) := by decide +kernel
theorem dX7_told_121 : decode cX7_told 121 = .ok (.i2l, 1) := by decide +kernel
theorem dX7_told_122 : decode cX7_told 122 = .ok (.ldc2_w 208, 3) := by decide +kernel
theorem dX7_told_125 : decode cX7_told 125 = .ok (.ldc2_w 323, 3) := by decide +kernel
theorem dX7_told_128 : decode cX7_told 128 = .ok (.invokestatic 71, 3) := by decide +kernel
theorem dX7_told_131 : decode cX7_told 131 = .ok (.ifCond .eq 13, 3) := by decide +kernel
theorem dX7_told_134 : decode cX7_told 134 = .ok (.aload_n 0, 1) := by decide +kernel
theorem dX7_told_135 : decode cX7_told 135 = .ok (.iload_n 1, 1) := by decide +kernel
theorem dX7_told_136 : decode cX7_told 136 = .ok (.iconst 2, 1) := by decide +kernel
theorem dX7_told_137 : decode cX7_told 137 = .ok (.isub, 1) := by decide +kernel
theorem dX7_told_138 : decode cX7_told 138 = .ok (.invokevirtual 216, 3) := by decide +kernel
theorem dX7_told_141 : decode cX7_told 141 = .ok (.goto 5, 3) := by decide +kernel
theorem dX7_told_144 : decode cX7_told 144 = .ok (.bipush (-2), 2) := by decide +kernel
theorem dX7_told_146 : decode cX7_told 146 = .ok (.ireturn, 1) := by decide +kernel
theorem dJ13_bitCount_95d88_0 : decode cJ13_bitCount_95d88 0 = .ok (.lload_n 0, 1) := by decide +kernel
theorem dJ13_bitCount_95d88_1 : decode cJ13_bitCount_95d88 1 = .ok (.lload_n 0, 1) := by decide +kernel
theorem dJ13_bitCount_95d88_2 : decode cJ13_bitCount_95d88 2 = .ok (.iconst 1, 1) := by decide +kernel
theorem dJ13_bitCount_95d88_3 : decode cJ13_bitCount_95d88 3 = .ok (.lushr, 1) := by decide +kernel
theorem dJ13_bitCount_95d88_4 : decode cJ13_bitCount_95d88 4 = .ok (.ldc2_w 314, 3) := by decide +kernel
theorem dJ13_bitCount_95d88_7 : decode cJ13_bitCount_95d88 7 = .ok (.land, 1) := by decide +kernel
theorem dJ13_bitCount_95d88_8 : decode cJ13_bitCount_95d88 8 = .ok (.lsub, 1) := by decide +kernel
theorem dJ13_bitCount_95d88_9 : decode cJ13_bitCount_95d88 9 = .ok (.lstore_n 0, 1) := by decide +kernel
theorem dJ13_bitCount_95d88_10 : decode cJ13_bitCount_95d88 10 = .ok (.lload_n 0, 1) := by decide +kernel
theorem dJ13_bitCount_95d88_11 : decode cJ13_bitCount_95d88 11 = .ok (.ldc2_w 316, 3) := by decide +kernel
theorem dJ13_bitCount_95d88_14 : decode cJ13_bitCount_95d88 14 = .ok (.land, 1) := by decide +kernel
theorem dJ13_bitCount_95d88_15 : decode cJ13_bitCount_95d88 15 = .ok (.lload_n 0, 1) := by decide +kernel
theorem dJ13_bitCount_95d88_16 : decode cJ13_bitCount_95d88 16 = .ok (.iconst 2, 1) := by decide +kernel
theorem dJ13_bitCount_95d88_17 : decode cJ13_bitCount_95d88 17 = .ok (.lushr, 1) := by decide +kernel
theorem dJ13_bitCount_95d88_18 : decode cJ13_bitCount_95d88 18 = .ok (.ldc2_w 316, 3) := by decide +kernel
theorem dJ13_bitCount_95d88_21 : decode cJ13_bitCount_95d88 21 = .ok (.land, 1) := by decide +kernel
theorem dJ13_bitCount_95d88_22 : decode cJ13_bitCount_95d88 22 = .ok (.ladd, 1) := by decide +kernel
theorem dJ13_bitCount_95d88_23 : decode cJ13_bitCount_95d88 23 = .ok (.lstore_n 0, 1) := by decide +kernel
theorem dJ13_bitCount_95d88_24 : decode cJ13_bitCount_95d88 24 = .ok (.lload_n 0, 1) := by decide +kernel
theorem dJ13_bitCount_95d88_25 : decode cJ13_bitCount_95d88 25 = .ok (.lload_n 0, 1) := by decide +kernel
theorem dJ13_bitCount_95d88_26 : decode cJ13_bitCount_95d88 26 = .ok (.iconst 4, 1) := by decide +kernel
theorem dJ13_bitCount_95d88_27 : decode cJ13_bitCount_95d88 27 = .ok (.lushr, 1) := by decide +kernel
theorem dJ13_bitCount_95d88_28 : decode cJ13_bitCount_95d88 28 = .ok (.ladd, 1) := by decide +kernel
theorem dJ13_bitCount_95d88_29 : decode cJ13_bitCount_95d88 29 = .ok (.ldc2_w 318, 3) := by decide +kernel
theorem dJ13_bitCount_95d88_32 : decode cJ13_bitCount_95d88 32 = .ok (.land, 1) := by decide +kernel
theorem dJ13_bitCount_95d88_33 : decode cJ13_bitCount_95d88 33 = .ok (.lstore_n 0, 1) := by decide +kernel
theorem dJ13_bitCount_95d88_34 : decode cJ13_bitCount_95d88 34 = .ok (.lload_n 0, 1) := by decide +kernel
theorem dJ13_bitCount_95d88_35 : decode cJ13_bitCount_95d88 35 = .ok (.lload_n 0, 1) := by decide +kernel
theorem dJ13_bitCount_95d88_36 : decode cJ13_bitCount_95d88 36 = .ok (.bipush 8, 2) := by decide +kernel
theorem dJ13_bitCount_95d88_38 : decode cJ13_bitCount_95d88 38 = .ok (.lushr, 1) := by decide +kernel
theorem dJ13_bitCount_95d88_39 : decode cJ13_bitCount_95d88 39 = .ok (.ladd, 1) := by decide +kernel
theorem dJ13_bitCount_95d88_40 : decode cJ13_bitCount_95d88 40 = .ok (.lstore_n 0, 1) := by decide +kernel
theorem dJ13_bitCount_95d88_41 : decode cJ13_bitCount_95d88 41 = .ok (.lload_n 0, 1) := by decide +kernel
theorem dJ13_bitCount_95d88_42 : decode cJ13_bitCount_95d88 42 = .ok (.lload_n 0, 1) := by decide +kernel
theorem dJ13_bitCount_95d88_43 : decode cJ13_bitCount_95d88 43 = .ok (.bipush 16, 2) := by decide +kernel
theorem dJ13_bitCount_95d88_45 : decode cJ13_bitCount_95d88 45 = .ok (.lushr, 1) := by decide +kernel
theorem dJ13_bitCount_95d88_46 : decode cJ13_bitCount_95d88 46 = .ok (.ladd, 1) := by decide +kernel
theorem dJ13_bitCount_95d88_47 : decode cJ13_bitCount_95d88 47 = .ok (.lstore_n 0, 1) := by decide +kernel
theorem dJ13_bitCount_95d88_48 : decode cJ13_bitCount_95d88 48 = .ok (.lload_n 0, 1) := by decide +kernel
theorem dJ13_bitCount_95d88_49 : decode cJ13_bitCount_95d88 49 = .ok (.lload_n 0, 1) := by decide +kernel
theorem dJ13_bitCount_95d88_50 : decode cJ13_bitCount_95d88 50 = .ok (.bipush 32, 2) := by decide +kernel
theorem dJ13_bitCount_95d88_52 : decode cJ13_bitCount_95d88 52 = .ok (.lushr, 1) := by decide +kernel
theorem dJ13_bitCount_95d88_53 : decode cJ13_bitCount_95d88 53 = .ok (.ladd, 1) := by decide +kernel
theorem dJ13_bitCount_95d88_54 : decode cJ13_bitCount_95d88 54 = .ok (.lstore_n 0, 1) := by decide +kernel
theorem dJ13_bitCount_95d88_55 : decode cJ13_bitCount_95d88 55 = .ok (.lload_n 0, 1) := by decide +kernel
theorem dJ13_bitCount_95d88_56 : decode cJ13_bitCount_95d88 56 = .ok (.l2i, 1) := by decide +kernel
theorem dJ13_bitCount_95d88_57 : decode cJ13_bitCount_95d88 57 = .ok (.bipush 127, 2) := by decide +kernel
theorem dJ13_bitCount_95d88_59 : decode cJ13_bitCount_95d88 59 = .ok (.iand, 1) := by decide +kernel
theorem dJ13_bitCount_95d88_60 : decode cJ13_bitCount_95d88 60 = .ok (.ireturn, 1) := by decide +kernel
theorem dJ9_max_7cf53_0 : decode cJ9_max_7cf53 0 = .ok (.iload_n 0, 1) := by decide +kernel
theorem dJ9_max_7cf53_1 : decode cJ9_max_7cf53 1 = .ok (.iload_n 1, 1) := by decide +kernel
theorem dJ9_max_7cf53_2 : decode cJ9_max_7cf53 2 = .ok (.if_icmp .lt 7, 3) := by decide +kernel
theorem dJ9_max_7cf53_5 : decode cJ9_max_7cf53 5 = .ok (.iload_n 0, 1) := by decide +kernel
theorem dJ9_max_7cf53_6 : decode cJ9_max_7cf53 6 = .ok (.goto 4, 3) := by decide +kernel
theorem dJ9_max_7cf53_9 : decode cJ9_max_7cf53 9 = .ok (.iload_n 1, 1) := by decide +kernel
theorem dJ9_max_7cf53_10 : decode cJ9_max_7cf53 10 = .ok (.ireturn, 1) := by decide +kernel
theorem dJ9_min_7cf53_0 : decode cJ9_min_7cf53 0 = .ok (.iload_n 0, 1) := by decide +kernel
theorem dJ9_min_7cf53_1 : decode cJ9_min_7cf53 1 = .ok (.iload_n 1, 1) := by decide +kernel
theorem dJ9_min_7cf53_2 : decode cJ9_min_7cf53 2 = .ok (.if_icmp .gt 7, 3) := by decide +kernel
theorem dJ9_min_7cf53_5 : decode cJ9_min_7cf53 5 = .ok (.iload_n 0, 1) := by decide +kernel
theorem dJ9_min_7cf53_6 : decode cJ9_min_7cf53 6 = .ok (.goto 4, 3) := by decide +kernel
theorem dJ9_min_7cf53_9 : decode cJ9_min_7cf53 9 = .ok (.iload_n 1, 1) := by decide +kernel
theorem dJ9_min_7cf53_10 : decode cJ9_min_7cf53 10 = .ok (.ireturn, 1) := by decide +kernel
