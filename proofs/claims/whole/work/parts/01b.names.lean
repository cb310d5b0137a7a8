theorem dX0_isCell_0 : decode cX0_isCell 0 = .ok (.iload_n 0, 1) := by decide +kernel
theorem dX0_isCell_1 : decode cX0_isCell 1 = .ok (.ifCond .lt 13, 3) := by decide +kernel
theorem dX0_isCell_4 : decode cX0_isCell 4 = .ok (.iload_n 0, 1) := by decide +kernel
theorem dX0_isCell_5 : decode cX0_isCell 5 = .ok (.bipush 64, 2) := by decide +kernel
theorem dX0_isCell_7 : decode cX0_isCell 7 = .ok (.if_icmp .ge 7, 3) := by decide +kernel
theorem dX0_isCell_10 : decode cX0_isCell 10 = .ok (.iconst 1, 1) := by decide +kernel
theorem dX0_isCell_11 : decode cX0_isCell 11 = .ok (.goto 4, 3) := by decide +kernel
theorem dX0_isCell_14 : decode cX0_isCell 14 = .ok (.iconst 0, 1) := by decide +kernel
theorem dX0_isCell_15 : decode cX0_isCell 15 = .ok (.ireturn, 1) := by decide +kernel
theorem dX0_isWay_0 : decode cX0_isWay 0 = .ok (.iload_n 0, 1) := by decide +kernel
theorem dX0_isWay_1 : decode cX0_isWay 1 = .ok (.ifCond .lt 13, 3) := by decide +kernel
theorem dX0_isWay_4 : decode cX0_isWay 4 = .ok (.iload_n 0, 1) := by decide +kernel
theorem dX0_isWay_5 : decode cX0_isWay 5 = .ok (.bipush 8, 2) := by decide +kernel
theorem dX0_isWay_7 : decode cX0_isWay 7 = .ok (.if_icmp .ge 7, 3) := by decide +kernel
theorem dX0_isWay_10 : decode cX0_isWay 10 = .ok (.iconst 1, 1) := by decide +kernel
theorem dX0_isWay_11 : decode cX0_isWay 11 = .ok (.goto 4, 3) := by decide +kernel
theorem dX0_isWay_14 : decode cX0_isWay 14 = .ok (.iconst 0, 1) := by decide +kernel
theorem dX0_isWay_15 : decode cX0_isWay 15 = .ok (.ireturn, 1) := by decide +kernel
theorem dX0_only_0 : decode cX0_only 0 = .ok (.iload_n 0, 1) := by decide +kernel
theorem dX0_only_1 : decode cX0_only 1 = .ok (.ifCond .lt 15, 3) := by decide +kernel
theorem dX0_only_4 : decode cX0_only 4 = .ok (.iload_n 0, 1) := by decide +kernel
theorem dX0_only_5 : decode cX0_only 5 = .ok (.bipush 64, 2) := by decide +kernel
theorem dX0_only_7 : decode cX0_only 7 = .ok (.if_icmp .ge 9, 3) := by decide +kernel
theorem dX0_only_10 : decode cX0_only 10 = .ok (.lconst 1, 1) := by decide +kernel
theorem dX0_only_11 : decode cX0_only 11 = .ok (.iload_n 0, 1) := by decide +kernel
theorem dX0_only_12 : decode cX0_only 12 = .ok (.lshl, 1) := by decide +kernel
theorem dX0_only_13 : decode cX0_only 13 = .ok (.goto 4, 3) := by decide +kernel
theorem dX0_only_16 : decode cX0_only 16 = .ok (.lconst 0, 1) := by decide +kernel
theorem dX0_only_17 : decode cX0_only 17 = .ok (.lreturn, 1) := by decide +kernel
theorem dX0_holds_0 : decode cX0_holds 0 = .ok (.iload_n 2, 1) := by decide +kernel
theorem dX0_holds_1 : decode cX0_holds 1 = .ok (.ifCond .lt 23, 3) := by decide +kernel
theorem dX0_holds_4 : decode cX0_holds 4 = .ok (.iload_n 2, 1) := by decide +kernel
theorem dX0_holds_5 : decode cX0_holds 5 = .ok (.bipush 64, 2) := by decide +kernel
theorem dX0_holds_7 : decode cX0_holds 7 = .ok (.if_icmp .ge 17, 3) := by decide +kernel
theorem dX0_holds_10 : decode cX0_holds 10 = .ok (.lload_n 0, 1) := by decide +kernel
theorem dX0_holds_11 : decode cX0_holds 11 = .ok (.iload_n 2, 1) := by decide +kernel
theorem dX0_holds_12 : decode cX0_holds 12 = .ok (.lushr, 1) := by decide +kernel
theorem dX0_holds_13 : decode cX0_holds 13 = .ok (.lconst 1, 1) := by decide +kernel
theorem dX0_holds_14 : decode cX0_holds 14 = .ok (.land, 1) := by decide +kernel
theorem dX0_holds_15 : decode cX0_holds 15 = .ok (.lconst 0, 1) := by decide +kernel
theorem dX0_holds_16 : decode cX0_holds 16 = .ok (.lcmp, 1) := by decide +kernel
theorem dX0_holds_17 : decode cX0_holds 17 = .ok (.ifCond .eq 7, 3) := by decide +kernel
theorem dX0_holds_20 : decode cX0_holds 20 = .ok (.iconst 1, 1) := by decide +kernel
theorem dX0_holds_21 : decode cX0_holds 21 = .ok (.goto 4, 3) := by decide +kernel
theorem dX0_holds_24 : decode cX0_holds 24 = .ok (.iconst 0, 1) := by decide +kernel
theorem dX0_holds_25 : decode cX0_holds 25 = .ok (.ireturn, 1) := by decide +kernel
set_option maxRecDepth 20000 in
theorem ggX0_least_J13_bitCount_95d88 : GoodIn wsX0_least wsJ13_bitCount_95d88 := goodIn_r _ [4, 5, 6, 7] (by decide +kernel) (by decide +kernel)
set_option maxRecDepth 20000 in
theorem gX0_least_J13_bitCount_95d88 : GoodIn wsX0_least (va_wsS RX0 11 yJ13_bitCount_95d88 wsJ13_bitCount_95d88) := goodIn_app (goodIn_of _ (by decide +kernel)) ggX0_least_J13_bitCount_95d88
theorem dX0_least_0 : decode cX0_least 0 = .ok (.lload_n 0, 1) := by decide +kernel
theorem dX0_least_1 : decode cX0_least 1 = .ok (.lconst 0, 1) := by decide +kernel
theorem dX0_least_2 : decode cX0_least 2 = .ok (.lcmp, 1) := by decide +kernel
theorem dX0_least_3 : decode cX0_least 3 = .ok (.ifCond .ne 8, 3) := by decide +kernel
theorem dX0_least_6 : decode cX0_least 6 = .ok (.bipush (-6), 2) := by decide +kernel
theorem dX0_least_8 : decode cX0_least 8 = .ok (.goto 12, 3) := by decide +kernel
theorem dX0_least_11 : decode cX0_least 11 = .ok (.lload_n 0, 1) := by decide +kernel
theorem dX0_least_12 : decode cX0_least 12 = .ok (.lload_n 0, 1) := by decide +kernel
theorem dX0_least_13 : decode cX0_least 13 = .ok (.lneg, 1) := by decide +kernel
theorem dX0_least_14 : decode cX0_least 14 = .ok (.land, 1) := by decide +kernel
theorem dX0_least_15 : decode cX0_least 15 = .ok (.lconst 1, 1) := by decide +kernel
theorem dX0_least_16 : decode cX0_least 16 = .ok (.lsub, 1) := by decide +kernel
theorem dX0_least_17 : decode cX0_least 17 = .ok (.invokestatic 11, 3) := by decide +kernel
theorem dX0_least_20 : decode cX0_least 20 = .ok (.ireturn, 1) := by decide +kernel
theorem dX0_moved_0 : decode cX0_moved 0 = .ok (.iload_n 0, 1) := by decide +kernel
theorem dX0_moved_1 : decode cX0_moved 1 = .ok (.bipush 8, 2) := by decide +kernel
theorem dX0_moved_3 : decode cX0_moved 3 = .ok (.idiv, 1) := by decide +kernel
theorem dX0_moved_4 : decode cX0_moved 4 = .ok (.iload_n 1, 1) := by decide +kernel
theorem dX0_moved_5 : decode cX0_moved 5 = .ok (.iadd, 1) := by decide +kernel
theorem dX0_moved_6 : decode cX0_moved 6 = .ok (.istore_n 3, 1) := by decide +kernel
theorem dX0_moved_7 : decode cX0_moved 7 = .ok (.iload_n 0, 1) := by decide +kernel
theorem dX0_moved_8 : decode cX0_moved 8 = .ok (.bipush 8, 2) := by decide +kernel
theorem dX0_moved_10 : decode cX0_moved 10 = .ok (.irem, 1) := by decide +kernel
theorem dX0_moved_11 : decode cX0_moved 11 = .ok (.iload_n 2, 1) := by decide +kernel
theorem dX0_moved_12 : decode cX0_moved 12 = .ok (.iadd, 1) := by decide +kernel
theorem dX0_moved_13 : decode cX0_moved 13 = .ok (.istore 4, 2) := by decide +kernel
theorem dX0_moved_15 : decode cX0_moved 15 = .ok (.iload_n 3, 1) := by decide +kernel
theorem dX0_moved_16 : decode cX0_moved 16 = .ok (.ifCond .lt 25, 3) := by decide +kernel
theorem dX0_moved_19 : decode cX0_moved 19 = .ok (.iload_n 3, 1) := by decide +kernel
theorem dX0_moved_20 : decode cX0_moved 20 = .ok (.bipush 8, 2) := by decide +kernel
theorem dX0_moved_22 : decode cX0_moved 22 = .ok (.if_icmp .ge 19, 3) := by decide +kernel
theorem dX0_moved_25 : decode cX0_moved 25 = .ok (.iload 4, 2) := by decide +kernel
theorem dX0_moved_27 : decode cX0_moved 27 = .ok (.ifCond .lt 14, 3) := by decide +kernel
theorem dX0_moved_30 : decode cX0_moved 30 = .ok (.iload 4, 2) := by decide +kernel
theorem dX0_moved_32 : decode cX0_moved 32 = .ok (.bipush 8, 2) := by decide +kernel
theorem dX0_moved_34 : decode cX0_moved 34 = .ok (.if_icmp .ge 7, 3) := by decide +kernel
theorem dX0_moved_37 : decode cX0_moved 37 = .ok (.iconst 1, 1) := by decide +kernel
theorem dX0_moved_38 : decode cX0_moved 38 = .ok (.goto 4, 3) := by decide +kernel
theorem dX0_moved_41 : decode cX0_moved 41 = .ok (.iconst 0, 1) := by decide +kernel
theorem dX0_moved_42 : decode cX0_moved 42 = .ok (.istore 5, 2) := by decide +kernel
theorem dX0_moved_44 : decode cX0_moved 44 = .ok (.iload 5, 2) := by decide +kernel
theorem dX0_moved_46 : decode cX0_moved 46 = .ok (.ifCond .eq 13, 3) := by decide +kernel
theorem dX0_moved_49 : decode cX0_moved 49 = .ok (.bipush 8, 2) := by decide +kernel
theorem dX0_moved_51 : decode cX0_moved 51 = .ok (.iload_n 3, 1) := by decide +kernel
theorem dX0_moved_52 : decode cX0_moved 52 = .ok (.imul, 1) := by decide +kernel
theorem dX0_moved_53 : decode cX0_moved 53 = .ok (.iload 4, 2) := by decide +kernel
theorem dX0_moved_55 : decode cX0_moved 55 = .ok (.iadd, 1) := by decide +kernel
theorem dX0_moved_56 : decode cX0_moved 56 = .ok (.goto 5, 3) := by decide +kernel
theorem dX0_moved_59 : decode cX0_moved 59 = .ok (.bipush (-6), 2) := by decide +kernel
theorem dX0_moved_61 : decode cX0_moved 61 = .ok (.ireturn, 1) := by decide +kernel
set_option maxRecDepth 20000 in
theorem ggX0_next_X0_isCell : GoodIn wsX0_next wsX0_isCell := goodIn_r _ [6] (by decide +kernel) (by decide +kernel)
set_option maxRecDepth 20000 in
theorem gX0_next_X0_isCell : GoodIn wsX0_next (va_wsS RX0 17 yX0_isCell wsX0_isCell) := goodIn_app (goodIn_of _ (by decide +kernel)) ggX0_next_X0_isCell
set_option maxRecDepth 20000 in
theorem ggX0_next_X0_moved : GoodIn wsX0_next wsX0_moved := goodIn_r _ [9] (by decide +kernel) (by decide +kernel)
set_option maxRecDepth 20000 in
theorem gX0_next_X0_moved : GoodIn wsX0_next (va_wsS RX0 28 yX0_moved wsX0_moved) := goodIn_app (goodIn_of _ (by decide +kernel)) ggX0_next_X0_moved
theorem dX0_next_0 : decode cX0_next 0 = .ok (.iload_n 0, 1) := by decide +kernel
theorem dX0_next_1 : decode cX0_next 1 = .ok (.invokestatic 17, 3) := by decide +kernel
theorem dX0_next_4 : decode cX0_next 4 = .ok (.ifCond .eq 23, 3) := by decide +kernel
theorem dX0_next_7 : decode cX0_next 7 = .ok (.iload_n 1, 1) := by decide +kernel
theorem dX0_next_8 : decode cX0_next 8 = .ok (.ifCond .lt 19, 3) := by decide +kernel
theorem dX0_next_11 : decode cX0_next 11 = .ok (.iload_n 1, 1) := by decide +kernel
theorem dX0_next_12 : decode cX0_next 12 = .ok (.getstatic 21, 3) := by decide +kernel
theorem dX0_next_15 : decode cX0_next 15 = .ok (.arraylength, 1) := by decide +kernel
theorem dX0_next_16 : decode cX0_next 16 = .ok (.if_icmp .ge 11, 3) := by decide +kernel
theorem dX0_next_19 : decode cX0_next 19 = .ok (.iload_n 1, 1) := by decide +kernel
theorem dX0_next_20 : decode cX0_next 20 = .ok (.getstatic 25, 3) := by decide +kernel
theorem dX0_next_23 : decode cX0_next 23 = .ok (.arraylength, 1) := by decide +kernel
theorem dX0_next_24 : decode cX0_next 24 = .ok (.if_icmp .lt 6, 3) := by decide +kernel
theorem dX0_next_27 : decode cX0_next 27 = .ok (.bipush (-6), 2) := by decide +kernel
theorem dX0_next_29 : decode cX0_next 29 = .ok (.ireturn, 1) := by decide +kernel
theorem dX0_next_30 : decode cX0_next 30 = .ok (.iload_n 0, 1) := by decide +kernel
theorem dX0_next_31 : decode cX0_next 31 = .ok (.getstatic 21, 3) := by decide +kernel
theorem dX0_next_34 : decode cX0_next 34 = .ok (.iload_n 1, 1) := by decide +kernel
theorem dX0_next_35 : decode cX0_next 35 = .ok (.iaload, 1) := by decide +kernel
theorem dX0_next_36 : decode cX0_next 36 = .ok (.getstatic 25, 3) := by decide +kernel
theorem dX0_next_39 : decode cX0_next 39 = .ok (.iload_n 1, 1) := by decide +kernel
theorem dX0_next_40 : decode cX0_next 40 = .ok (.iaload, 1) := by decide +kernel
theorem dX0_next_41 : decode cX0_next 41 = .ok (.invokestatic 28, 3) := by decide +kernel
theorem dX0_next_44 : decode cX0_next 44 = .ok (.ireturn, 1) := by decide +kernel
set_option maxRecDepth 20000 in
theorem ggX0_ray_X0_next : GoodIn wsX0_ray wsX0_next := goodIn_r _ [4, 5, 6, 7, 8, 3, 9, 10, 11, 12] (by decide +kernel) (by decide +kernel)
set_option maxRecDepth 20000 in
theorem gX0_ray_X0_next : GoodIn wsX0_ray (va_wsS RX0 32 yX0_next wsX0_next) := goodIn_app (goodIn_of _ (by decide +kernel)) ggX0_ray_X0_next
set_option maxRecDepth 20000 in
theorem ggX0_ray_X0_only : GoodIn wsX0_ray wsX0_only := goodIn_r _ [15] (by decide +kernel) (by decide +kernel)
set_option maxRecDepth 20000 in
theorem gX0_ray_X0_only : GoodIn wsX0_ray (va_wsS RX0 36 yX0_only wsX0_only) := goodIn_app (goodIn_of _ (by decide +kernel)) ggX0_ray_X0_only
theorem dX0_ray_0 : decode cX0_ray 0 = .ok (.lconst 0, 1) := by decide +kernel
theorem dX0_ray_1 : decode cX0_ray 1 = .ok (.lstore_n 2, 1) := by decide +kernel
theorem dX0_ray_2 : decode cX0_ray 2 = .ok (.iload_n 0, 1) := by decide +kernel
theorem dX0_ray_3 : decode cX0_ray 3 = .ok (.iload_n 1, 1) := by decide +kernel
theorem dX0_ray_4 : decode cX0_ray 4 = .ok (.invokestatic 32, 3) := by decide +kernel
theorem dX0_ray_7 : decode cX0_ray 7 = .ok (.istore 4, 2) := by decide +kernel
theorem dX0_ray_9 : decode cX0_ray 9 = .ok (.iconst 1, 1) := by decide +kernel
theorem dX0_ray_10 : decode cX0_ray 10 = .ok (.istore 5, 2) := by decide +kernel
theorem dX0_ray_12 : decode cX0_ray 12 = .ok (.iload 5, 2) := by decide +kernel
theorem dX0_ray_14 : decode cX0_ray 14 = .ok (.bipush 8, 2) := by decide +kernel
theorem dX0_ray_16 : decode cX0_ray 16 = .ok (.if_icmp .ge 32, 3) := by decide +kernel
theorem dX0_ray_19 : decode cX0_ray 19 = .ok (.iload 4, 2) := by decide +kernel
theorem dX0_ray_21 : decode cX0_ray 21 = .ok (.bipush (-6), 2) := by decide +kernel
theorem dX0_ray_23 : decode cX0_ray 23 = .ok (.if_icmp .eq 25, 3) := by decide +kernel
theorem dX0_ray_26 : decode cX0_ray 26 = .ok (.lload_n 2, 1) := by decide +kernel
theorem dX0_ray_27 : decode cX0_ray 27 = .ok (.iload 4, 2) := by decide +kernel
theorem dX0_ray_29 : decode cX0_ray 29 = .ok (.invokestatic 36, 3) := by decide +kernel
theorem dX0_ray_32 : decode cX0_ray 32 = .ok (.lor, 1) := by decide +kernel
theorem dX0_ray_33 : decode cX0_ray 33 = .ok (.lstore_n 2, 1) := by decide +kernel
theorem dX0_ray_34 : decode cX0_ray 34 = .ok (.iload 4, 2) := by decide +kernel
theorem dX0_ray_36 : decode cX0_ray 36 = .ok (.iload_n 1, 1) := by decide +kernel
theorem dX0_ray_37 : decode cX0_ray 37 = .ok (.invokestatic 32, 3) := by decide +kernel
theorem dX0_ray_40 : decode cX0_ray 40 = .ok (.istore 4, 2) := by decide +kernel
theorem dX0_ray_42 : decode cX0_ray 42 = .ok (.iinc 5 1, 3) := by decide +kernel
theorem dX0_ray_45 : decode cX0_ray 45 = .ok (.goto (-33), 3) := by decide +kernel
theorem dX0_ray_48 : decode cX0_ray 48 = .ok (.lload_n 2, 1) := by decide +kernel
theorem dX0_ray_49 : decode cX0_ray 49 = .ok (.lreturn, 1) := by decide +kernel
theorem dX0_around_0 : decode cX0_around 0 = .ok (.iload_n 0, 1) := by decide +kernel
theorem dX0_around_1 : decode cX0_around 1 = .ok (.bipush 8, 2) := by decide +kernel
theorem dX0_around_3 : decode cX0_around 3 = .ok (.idiv, 1) := by decide +kernel
theorem dX0_around_4 : decode cX0_around 4 = .ok (.istore_n 2, 1) := by decide +kernel
theorem dX0_around_5 : decode cX0_around 5 = .ok (.iload_n 0, 1) := by decide +kernel
theorem dX0_around_6 : decode cX0_around 6 = .ok (.bipush 8, 2) := by decide +kernel
theorem dX0_around_8 : decode cX0_around 8 = .ok (.irem, 1) := by decide +kernel
theorem dX0_around_9 : decode cX0_around 9 = .ok (.istore_n 3, 1) := by decide +kernel
theorem dX0_around_10 : decode cX0_around 10 = .ok (.iconst 0, 1) := by decide +kernel
theorem dX0_around_11 : decode cX0_around 11 = .ok (.iload_n 2, 1) := by decide +kernel
theorem dX0_around_12 : decode cX0_around 12 = .ok (.iload_n 1, 1) := by decide +kernel
theorem dX0_around_13 : decode cX0_around 13 = .ok (.isub, 1) := by decide +kernel
theorem dX0_around_14 : decode cX0_around 14 = .ok (.invokestatic 40, 3) := by decide +kernel
theorem dX0_around_17 : decode cX0_around 17 = .ok (.istore 4, 2) := by decide +kernel
theorem dX0_around_19 : decode cX0_around 19 = .ok (.bipush 7, 2) := by decide +kernel
theorem dX0_around_21 : decode cX0_around 21 = .ok (.iload_n 2, 1) := by decide +kernel
theorem dX0_around_22 : decode cX0_around 22 = .ok (.iload_n 1, 1) := by decide +kernel
theorem dX0_around_23 : decode cX0_around 23 = .ok (.iadd, 1) := by decide +kernel
theorem dX0_around_24 : decode cX0_around 24 = .ok (.invokestatic 45, 3) := by decide +kernel
theorem dX0_around_27 : decode cX0_around 27 = .ok (.istore 5, 2) := by decide +kernel
theorem dX0_around_29 : decode cX0_around 29 = .ok (.iconst 0, 1) := by decide +kernel
theorem dX0_around_30 : decode cX0_around 30 = .ok (.iload_n 3, 1) := by decide +kernel
theorem dX0_around_31 : decode cX0_around 31 = .ok (.iload_n 1, 1) := by decide +kernel
theorem dX0_around_32 : decode cX0_around 32 = .ok (.isub, 1) := by decide +kernel
theorem dX0_around_33 : decode cX0_around 33 = .ok (.invokestatic 40, 3) := by decide +kernel
theorem dX0_around_36 : decode cX0_around 36 = .ok (.istore 6, 2) := by decide +kernel
theorem dX0_around_38 : decode cX0_around 38 = .ok (.bipush 7, 2) := by decide +kernel
theorem dX0_around_40 : decode cX0_around 40 = .ok (.iload_n 3, 1) := by decide +kernel
theorem dX0_around_41 : decode cX0_around 41 = .ok (.iload_n 1, 1) := by decide +kernel
theorem dX0_around_42 : decode cX0_around 42 = .ok (.iadd, 1) := by decide +kernel
theorem dX0_around_43 : decode cX0_around 43 = .ok (.invokestatic 45, 3) := by decide +kernel
theorem dX0_around_46 : decode cX0_around 46 = .ok (.istore 7, 2) := by decide +kernel
theorem dX0_around_48 : decode cX0_around 48 = .ok (.ldc2_w 48, 3) := by decide +kernel
theorem dX0_around_51 : decode cX0_around 51 = .ok (.bipush 8, 2) := by decide +kernel
theorem dX0_around_53 : decode cX0_around 53 = .ok (.iload 4, 2) := by decide +kernel
theorem dX0_around_55 : decode cX0_around 55 = .ok (.imul, 1) := by decide +kernel
theorem dX0_around_56 : decode cX0_around 56 = .ok (.lshl, 1) := by decide +kernel
theorem dX0_around_57 : decode cX0_around 57 = .ok (.ldc2_w 48, 3) := by decide +kernel
theorem dX0_around_60 : decode cX0_around 60 = .ok (.bipush 8, 2) := by decide +kernel
theorem dX0_around_62 : decode cX0_around 62 = .ok (.bipush 7, 2) := by decide +kernel
theorem dX0_around_64 : decode cX0_around 64 = .ok (.iload 5, 2) := by decide +kernel
theorem dX0_around_66 : decode cX0_around 66 = .ok (.isub, 1) := by decide +kernel
theorem dX0_around_67 : decode cX0_around 67 = .ok (.imul, 1) := by decide +kernel
theorem dX0_around_68 : decode cX0_around 68 = .ok (.lushr, 1) := by decide +kernel
theorem dX0_around_69 : decode cX0_around 69 = .ok (.land, 1) := by decide +kernel
theorem dX0_around_70 : decode cX0_around 70 = .ok (.lstore 8, 2) := by decide +kernel
theorem dX0_around_72 : decode cX0_around 72 = .ok (.ldc2_w 50, 3) := by decide +kernel
theorem dX0_around_75 : decode cX0_around 75 = .ok (.iload 6, 2) := by decide +kernel
theorem dX0_around_77 : decode cX0_around 77 = .ok (.lshl, 1) := by decide +kernel
theorem dX0_around_78 : decode cX0_around 78 = .ok (.ldc2_w 50, 3) := by decide +kernel
theorem dX0_around_81 : decode cX0_around 81 = .ok (.bipush 7, 2) := by decide +kernel
theorem dX0_around_83 : decode cX0_around 83 = .ok (.iload 7, 2) := by decide +kernel
theorem dX0_around_85 : decode cX0_around 85 = .ok (.isub, 1) := by decide +kernel
theorem dX0_around_86 : decode cX0_around 86 = .ok (.lushr, 1) := by decide +kernel
theorem dX0_around_87 : decode cX0_around 87 = .ok (.land, 1) := by decide +kernel
theorem dX0_around_88 : decode cX0_around 88 = .ok (.lstore 10, 2) := by decide +kernel
theorem dX0_around_90 : decode cX0_around 90 = .ok (.lload 8, 2) := by decide +kernel
theorem dX0_around_92 : decode cX0_around 92 = .ok (.lload 10, 2) := by decide +kernel
theorem dX0_around_94 : decode cX0_around 94 = .ok (.ldc2_w 52, 3) := by decide +kernel
theorem dX0_around_97 : decode cX0_around 97 = .ok (.lmul, 1) := by decide +kernel
theorem dX0_around_98 : decode cX0_around 98 = .ok (.land, 1) := by decide +kernel
theorem dX0_around_99 : decode cX0_around 99 = .ok (.lreturn, 1) := by decide +kernel
theorem dX0_spread_0 : decode cX0_spread 0 = .ok (.lload_n 0, 1) := by decide +kernel
theorem dX0_spread_1 : decode cX0_spread 1 = .ok (.ldc2_w 54, 3) := by decide +kernel
theorem dX0_spread_4 : decode cX0_spread 4 = .ok (.land, 1) := by decide +kernel
theorem dX0_spread_5 : decode cX0_spread 5 = .ok (.iconst 1, 1) := by decide +kernel
theorem dX0_spread_6 : decode cX0_spread 6 = .ok (.lushr, 1) := by decide +kernel
theorem dX0_spread_7 : decode cX0_spread 7 = .ok (.lstore_n 2, 1) := by decide +kernel
theorem dX0_spread_8 : decode cX0_spread 8 = .ok (.lload_n 0, 1) := by decide +kernel
theorem dX0_spread_9 : decode cX0_spread 9 = .ok (.iconst 1, 1) := by decide +kernel
theorem dX0_spread_10 : decode cX0_spread 10 = .ok (.lshl, 1) := by decide +kernel
theorem dX0_spread_11 : decode cX0_spread 11 = .ok (.ldc2_w 54, 3) := by decide +kernel
theorem dX0_spread_14 : decode cX0_spread 14 = .ok (.land, 1) := by decide +kernel
theorem dX0_spread_15 : decode cX0_spread 15 = .ok (.lstore 4, 2) := by decide +kernel
theorem dX0_spread_17 : decode cX0_spread 17 = .ok (.lload_n 0, 1) := by decide +kernel
theorem dX0_spread_18 : decode cX0_spread 18 = .ok (.lload_n 2, 1) := by decide +kernel
theorem dX0_spread_19 : decode cX0_spread 19 = .ok (.lor, 1) := by decide +kernel
theorem dX0_spread_20 : decode cX0_spread 20 = .ok (.lload 4, 2) := by decide +kernel
theorem dX0_spread_22 : decode cX0_spread 22 = .ok (.lor, 1) := by decide +kernel
theorem dX0_spread_23 : decode cX0_spread 23 = .ok (.lstore 6, 2) := by decide +kernel
theorem dX0_spread_25 : decode cX0_spread 25 = .ok (.lload 6, 2) := by decide +kernel
theorem dX0_spread_27 : decode cX0_spread 27 = .ok (.lload 6, 2) := by decide +kernel
theorem dX0_spread_29 : decode cX0_spread 29 = .ok (.bipush 8, 2) := by decide +kernel
theorem dX0_spread_31 : decode cX0_spread 31 = .ok (.lshl, 1) := by decide +kernel
theorem dX0_spread_32 : decode cX0_spread 32 = .ok (.lor, 1) := by decide +kernel
theorem dX0_spread_33 : decode cX0_spread 33 = .ok (.lload 6, 2) := by decide +kernel
theorem dX0_spread_35 : decode cX0_spread 35 = .ok (.bipush 8, 2) := by decide +kernel
theorem dX0_spread_37 : decode cX0_spread 37 = .ok (.lushr, 1) := by decide +kernel
theorem dX0_spread_38 : decode cX0_spread 38 = .ok (.lor, 1) := by decide +kernel
theorem dX0_spread_39 : decode cX0_spread 39 = .ok (.lreturn, 1) := by decide +kernel
set_option maxRecDepth 20000 in
theorem ggX0_leastWayInto_X0_next : GoodIn wsX0_leastWayInto wsX0_next := goodIn_r _ [4, 5, 6, 7, 8, 3, 9, 10, 11, 12] (by decide +kernel) (by decide +kernel)
set_option maxRecDepth 20000 in
theorem gX0_leastWayInto_X0_next : GoodIn wsX0_leastWayInto (va_wsS RX0 32 yX0_next wsX0_next) := goodIn_app (goodIn_of _ (by decide +kernel)) ggX0_leastWayInto_X0_next
set_option maxRecDepth 20000 in
theorem ggX0_leastWayInto_X0_holds : GoodIn wsX0_leastWayInto wsX0_holds := goodIn_r _ [15] (by decide +kernel) (by decide +kernel)
set_option maxRecDepth 20000 in
theorem gX0_leastWayInto_X0_holds : GoodIn wsX0_leastWayInto (va_wsS RX0 56 yX0_holds wsX0_holds) := goodIn_app (goodIn_of _ (by decide +kernel)) ggX0_leastWayInto_X0_holds
theorem dX0_leastWayInto_0 : decode cX0_leastWayInto 0 = .ok (.iconst 0, 1) := by decide +kernel
theorem dX0_leastWayInto_1 : decode cX0_leastWayInto 1 = .ok (.istore_n 3, 1) := by decide +kernel
theorem dX0_leastWayInto_2 : decode cX0_leastWayInto 2 = .ok (.iload_n 3, 1) := by decide +kernel
theorem dX0_leastWayInto_3 : decode cX0_leastWayInto 3 = .ok (.bipush 8, 2) := by decide +kernel
theorem dX0_leastWayInto_5 : decode cX0_leastWayInto 5 = .ok (.if_icmp .ge 23, 3) := by decide +kernel
theorem dX0_leastWayInto_8 : decode cX0_leastWayInto 8 = .ok (.lload_n 1, 1) := by decide +kernel
theorem dX0_leastWayInto_9 : decode cX0_leastWayInto 9 = .ok (.iload_n 0, 1) := by decide +kernel
theorem dX0_leastWayInto_10 : decode cX0_leastWayInto 10 = .ok (.iload_n 3, 1) := by decide +kernel
theorem dX0_leastWayInto_11 : decode cX0_leastWayInto 11 = .ok (.invokestatic 32, 3) := by decide +kernel
theorem dX0_leastWayInto_14 : decode cX0_leastWayInto 14 = .ok (.invokestatic 56, 3) := by decide +kernel
theorem dX0_leastWayInto_17 : decode cX0_leastWayInto 17 = .ok (.ifCond .eq 5, 3) := by decide +kernel
theorem dX0_leastWayInto_20 : decode cX0_leastWayInto 20 = .ok (.iload_n 3, 1) := by decide +kernel
theorem dX0_leastWayInto_21 : decode cX0_leastWayInto 21 = .ok (.ireturn, 1) := by decide +kernel
theorem dX0_leastWayInto_22 : decode cX0_leastWayInto 22 = .ok (.iinc 3 1, 3) := by decide +kernel
theorem dX0_leastWayInto_25 : decode cX0_leastWayInto 25 = .ok (.goto (-23), 3) := by decide +kernel
theorem dX0_leastWayInto_28 : decode cX0_leastWayInto 28 = .ok (.bipush (-6), 2) := by decide +kernel
theorem dX0_leastWayInto_30 : decode cX0_leastWayInto 30 = .ok (.ireturn, 1) := by decide +kernel
set_option maxRecDepth 20000 in
theorem ggX0_tacksFrom_X0_moved : GoodIn wsX0_tacksFrom wsX0_moved := goodIn_r _ [4] (by decide +kernel) (by decide +kernel)
set_option maxRecDepth 20000 in
theorem gX0_tacksFrom_X0_moved : GoodIn wsX0_tacksFrom (va_wsS RX0 28 yX0_moved wsX0_moved) := goodIn_app (goodIn_of _ (by decide +kernel)) ggX0_tacksFrom_X0_moved
set_option maxRecDepth 20000 in
theorem ggX0_tacksFrom_X0_only : GoodIn wsX0_tacksFrom wsX0_only := goodIn_r _ [7] (by decide +kernel) (by decide +kernel)
set_option maxRecDepth 20000 in
theorem gX0_tacksFrom_X0_only : GoodIn wsX0_tacksFrom (va_wsS RX0 36 yX0_only wsX0_only) := goodIn_app (goodIn_of _ (by decide +kernel)) ggX0_tacksFrom_X0_only
theorem dX0_tacksFrom_0 : decode cX0_tacksFrom 0 = .ok (.iload_n 0, 1) := by decide +kernel
theorem dX0_tacksFrom_1 : decode cX0_tacksFrom 1 = .ok (.bipush (-2), 2) := by decide +kernel
theorem dX0_tacksFrom_3 : decode cX0_tacksFrom 3 = .ok (.iconst 1, 1) := by decide +kernel
theorem dX0_tacksFrom_4 : decode cX0_tacksFrom 4 = .ok (.invokestatic 28, 3) := by decide +kernel
theorem dX0_tacksFrom_7 : decode cX0_tacksFrom 7 = .ok (.invokestatic 36, 3) := by decide +kernel
theorem dX0_tacksFrom_10 : decode cX0_tacksFrom 10 = .ok (.iload_n 0, 1) := by decide +kernel
theorem dX0_tacksFrom_11 : decode cX0_tacksFrom 11 = .ok (.bipush (-2), 2) := by decide +kernel
theorem dX0_tacksFrom_13 : decode cX0_tacksFrom 13 = .ok (.iconst (-1), 1) := by decide +kernel
theorem dX0_tacksFrom_14 : decode cX0_tacksFrom 14 = .ok (.invokestatic 28, 3) := by decide +kernel
theorem dX0_tacksFrom_17 : decode cX0_tacksFrom 17 = .ok (.invokestatic 36, 3) := by decide +kernel
theorem dX0_tacksFrom_20 : decode cX0_tacksFrom 20 = .ok (.lor, 1) := by decide +kernel
theorem dX0_tacksFrom_21 : decode cX0_tacksFrom 21 = .ok (.iload_n 0, 1) := by decide +kernel
theorem dX0_tacksFrom_22 : decode cX0_tacksFrom 22 = .ok (.iconst 1, 1) := by decide +kernel
theorem dX0_tacksFrom_23 : decode cX0_tacksFrom 23 = .ok (.bipush (-2), 2) := by decide +kernel
theorem dX0_tacksFrom_25 : decode cX0_tacksFrom 25 = .ok (.invokestatic 28, 3) := by decide +kernel
theorem dX0_tacksFrom_28 : decode cX0_tacksFrom 28 = .ok (.invokestatic 36, 3) := by decide +kernel
theorem dX0_tacksFrom_31 : decode cX0_tacksFrom 31 = .ok (.lor, 1) := by decide +kernel
theorem dX0_tacksFrom_32 : decode cX0_tacksFrom 32 = .ok (.iload_n 0, 1) := by decide +kernel
theorem dX0_tacksFrom_33 : decode cX0_tacksFrom 33 = .ok (.iconst (-1), 1) := by decide +kernel
theorem dX0_tacksFrom_34 : decode cX0_tacksFrom 34 = .ok (.bipush (-2), 2) := by decide +kernel
theorem dX0_tacksFrom_36 : decode cX0_tacksFrom 36 = .ok (.invokestatic 28, 3) := by decide +kernel
theorem dX0_tacksFrom_39 : decode cX0_tacksFrom 39 = .ok (.invokestatic 36, 3) := by decide +kernel
theorem dX0_tacksFrom_42 : decode cX0_tacksFrom 42 = .ok (.lor, 1) := by decide +kernel
theorem dX0_tacksFrom_43 : decode cX0_tacksFrom 43 = .ok (.lreturn, 1) := by decide +kernel
set_option maxRecDepth 20000 in
theorem ggX0_cellsWhereTackingLoses_X0_tacksFrom : GoodIn wsX0_cellsWhereTackingLoses wsX0_tacksFrom := goodIn_r _ [11, 12, 13, 10, 14, 15, 16, 17] (by decide +kernel) (by decide +kernel)
set_option maxRecDepth 20000 in
theorem gX0_cellsWhereTackingLoses_X0_tacksFrom : GoodIn wsX0_cellsWhereTackingLoses (va_wsS RX0 60 yX0_tacksFrom wsX0_tacksFrom) := goodIn_app (goodIn_of _ (by decide +kernel)) ggX0_cellsWhereTackingLoses_X0_tacksFrom
set_option maxRecDepth 20000 in
theorem ggX0_cellsWhereTackingLoses_X0_only : GoodIn wsX0_cellsWhereTackingLoses wsX0_only := goodIn_r _ [17] (by decide +kernel) (by decide +kernel)
set_option maxRecDepth 20000 in
theorem gX0_cellsWhereTackingLoses_X0_only : GoodIn wsX0_cellsWhereTackingLoses (va_wsS RX0 36 yX0_only wsX0_only) := goodIn_app (goodIn_of _ (by decide +kernel)) ggX0_cellsWhereTackingLoses_X0_only
theorem dX0_cellsWhereTackingLoses_0 : decode cX0_cellsWhereTackingLoses 0 = .ok (.lconst 0, 1) := by decide +kernel
theorem dX0_cellsWhereTackingLoses_1 : decode cX0_cellsWhereTackingLoses 1 = .ok (.lstore_n 0, 1) := by decide +kernel
theorem dX0_cellsWhereTackingLoses_2 : decode cX0_cellsWhereTackingLoses 2 = .ok (.iconst 0, 1) := by decide +kernel
theorem dX0_cellsWhereTackingLoses_3 : decode cX0_cellsWhereTackingLoses 3 = .ok (.istore_n 2, 1) := by decide +kernel
theorem dX0_cellsWhereTackingLoses_4 : decode cX0_cellsWhereTackingLoses 4 = .ok (.iload_n 2, 1) := by decide +kernel
theorem dX0_cellsWhereTackingLoses_5 : decode cX0_cellsWhereTackingLoses 5 = .ok (.bipush 14, 2) := by decide +kernel
theorem dX0_cellsWhereTackingLoses_7 : decode cX0_cellsWhereTackingLoses 7 = .ok (.if_icmp .gt 66, 3) := by decide +kernel
theorem dX0_cellsWhereTackingLoses_10 : decode cX0_cellsWhereTackingLoses 10 = .ok (.iconst 0, 1) := by decide +kernel
theorem dX0_cellsWhereTackingLoses_11 : decode cX0_cellsWhereTackingLoses 11 = .ok (.iload_n 2, 1) := by decide +kernel
theorem dX0_cellsWhereTackingLoses_12 : decode cX0_cellsWhereTackingLoses 12 = .ok (.bipush 8, 2) := by decide +kernel
theorem dX0_cellsWhereTackingLoses_14 : decode cX0_cellsWhereTackingLoses 14 = .ok (.isub, 1) := by decide +kernel
theorem dX0_cellsWhereTackingLoses_15 : decode cX0_cellsWhereTackingLoses 15 = .ok (.iconst 1, 1) := by decide +kernel
theorem dX0_cellsWhereTackingLoses_16 : decode cX0_cellsWhereTackingLoses 16 = .ok (.iadd, 1) := by decide +kernel
theorem dX0_cellsWhereTackingLoses_17 : decode cX0_cellsWhereTackingLoses 17 = .ok (.invokestatic 40, 3) := by decide +kernel
theorem dX0_cellsWhereTackingLoses_20 : decode cX0_cellsWhereTackingLoses 20 = .ok (.istore_n 3, 1) := by decide +kernel
theorem dX0_cellsWhereTackingLoses_21 : decode cX0_cellsWhereTackingLoses 21 = .ok (.iload_n 3, 1) := by decide +kernel
theorem dX0_cellsWhereTackingLoses_22 : decode cX0_cellsWhereTackingLoses 22 = .ok (.iload_n 2, 1) := by decide +kernel
theorem dX0_cellsWhereTackingLoses_23 : decode cX0_cellsWhereTackingLoses 23 = .ok (.bipush 7, 2) := by decide +kernel
theorem dX0_cellsWhereTackingLoses_25 : decode cX0_cellsWhereTackingLoses 25 = .ok (.invokestatic 45, 3) := by decide +kernel
theorem dX0_cellsWhereTackingLoses_28 : decode cX0_cellsWhereTackingLoses 28 = .ok (.if_icmp .gt 39, 3) := by decide +kernel
theorem dX0_cellsWhereTackingLoses_31 : decode cX0_cellsWhereTackingLoses 31 = .ok (.bipush 8, 2) := by decide +kernel
theorem dX0_cellsWhereTackingLoses_33 : decode cX0_cellsWhereTackingLoses 33 = .ok (.iload_n 3, 1) := by decide +kernel
theorem dX0_cellsWhereTackingLoses_34 : decode cX0_cellsWhereTackingLoses 34 = .ok (.imul, 1) := by decide +kernel
theorem dX0_cellsWhereTackingLoses_35 : decode cX0_cellsWhereTackingLoses 35 = .ok (.iload_n 2, 1) := by decide +kernel
theorem dX0_cellsWhereTackingLoses_36 : decode cX0_cellsWhereTackingLoses 36 = .ok (.iadd, 1) := by decide +kernel
theorem dX0_cellsWhereTackingLoses_37 : decode cX0_cellsWhereTackingLoses 37 = .ok (.iload_n 3, 1) := by decide +kernel
theorem dX0_cellsWhereTackingLoses_38 : decode cX0_cellsWhereTackingLoses 38 = .ok (.isub, 1) := by decide +kernel
theorem dX0_cellsWhereTackingLoses_39 : decode cX0_cellsWhereTackingLoses 39 = .ok (.istore 4, 2) := by decide +kernel
theorem dX0_cellsWhereTackingLoses_41 : decode cX0_cellsWhereTackingLoses 41 = .ok (.iload 4, 2) := by decide +kernel
theorem dX0_cellsWhereTackingLoses_43 : decode cX0_cellsWhereTackingLoses 43 = .ok (.invokestatic 60, 3) := by decide +kernel
theorem dX0_cellsWhereTackingLoses_46 : decode cX0_cellsWhereTackingLoses 46 = .ok (.lload_n 0, 1) := by decide +kernel
theorem dX0_cellsWhereTackingLoses_47 : decode cX0_cellsWhereTackingLoses 47 = .ok (.land, 1) := by decide +kernel
theorem dX0_cellsWhereTackingLoses_48 : decode cX0_cellsWhereTackingLoses 48 = .ok (.lconst 0, 1) := by decide +kernel
theorem dX0_cellsWhereTackingLoses_49 : decode cX0_cellsWhereTackingLoses 49 = .ok (.lcmp, 1) := by decide +kernel
theorem dX0_cellsWhereTackingLoses_50 : decode cX0_cellsWhereTackingLoses 50 = .ok (.ifCond .ne 11, 3) := by decide +kernel
theorem dX0_cellsWhereTackingLoses_53 : decode cX0_cellsWhereTackingLoses 53 = .ok (.lload_n 0, 1) := by decide +kernel
theorem dX0_cellsWhereTackingLoses_54 : decode cX0_cellsWhereTackingLoses 54 = .ok (.iload 4, 2) := by decide +kernel
theorem dX0_cellsWhereTackingLoses_56 : decode cX0_cellsWhereTackingLoses 56 = .ok (.invokestatic 36, 3) := by decide +kernel
theorem dX0_cellsWhereTackingLoses_59 : decode cX0_cellsWhereTackingLoses 59 = .ok (.lor, 1) := by decide +kernel
theorem dX0_cellsWhereTackingLoses_60 : decode cX0_cellsWhereTackingLoses 60 = .ok (.lstore_n 0, 1) := by decide +kernel
theorem dX0_cellsWhereTackingLoses_61 : decode cX0_cellsWhereTackingLoses 61 = .ok (.iinc 3 1, 3) := by decide +kernel
theorem dX0_cellsWhereTackingLoses_64 : decode cX0_cellsWhereTackingLoses 64 = .ok (.goto (-43), 3) := by decide +kernel
theorem dX0_cellsWhereTackingLoses_67 : decode cX0_cellsWhereTackingLoses 67 = .ok (.iinc 2 1, 3) := by decide +kernel
theorem dX0_cellsWhereTackingLoses_70 : decode cX0_cellsWhereTackingLoses 70 = .ok (.goto (-66), 3) := by decide +kernel
theorem dX0_cellsWhereTackingLoses_73 : decode cX0_cellsWhereTackingLoses 73 = .ok (.lload_n 0, 1) := by decide +kernel
theorem dX0_cellsWhereTackingLoses_74 : decode cX0_cellsWhereTackingLoses 74 = .ok (.lreturn, 1) := by decide +kernel
theorem dX1_init_0 : decode cX1_init 0 = .ok (.aload_n 0, 1) := by decide +kernel
theorem dX1_init_1 : decode cX1_init 1 = .ok (.invokespecial 1, 3) := by decide +kernel
theorem dX1_init_4 : decode cX1_init 4 = .ok (.return_, 1) := by decide +kernel
theorem dX1_watchByTurns_0 : decode cX1_watchByTurns 0 = .ok (.aload_n 0, 1) := by decide +kernel
theorem dX1_watchByTurns_1 : decode cX1_watchByTurns 1 = .ok (.lconst 0, 1) := by decide +kernel
theorem dX1_watchByTurns_2 : decode cX1_watchByTurns 2 = .ok (.putfield 7, 3) := by decide +kernel
theorem dX1_watchByTurns_5 : decode cX1_watchByTurns 5 = .ok (.aload_n 0, 1) := by decide +kernel
theorem dX1_watchByTurns_6 : decode cX1_watchByTurns 6 = .ok (.lconst 0, 1) := by decide +kernel
theorem dX1_watchByTurns_7 : decode cX1_watchByTurns 7 = .ok (.putfield 13, 3) := by decide +kernel
theorem dX1_watchByTurns_10 : decode cX1_watchByTurns 10 = .ok (.aload_n 0, 1) := by decide +kernel
theorem dX1_watchByTurns_11 : decode cX1_watchByTurns 11 = .ok (.lconst 1, 1) := by decide +kernel
theorem dX1_watchByTurns_12 : decode cX1_watchByTurns 12 = .ok (.putfield 16, 3) := by decide +kernel
theorem dX1_watchByTurns_15 : decode cX1_watchByTurns 15 = .ok (.aload_n 0, 1) := by decide +kernel
theorem dX1_watchByTurns_16 : decode cX1_watchByTurns 16 = .ok (.lconst 1, 1) := by decide +kernel
theorem dX1_watchByTurns_17 : decode cX1_watchByTurns 17 = .ok (.putfield 19, 3) := by decide +kernel
theorem dX1_watchByTurns_20 : decode cX1_watchByTurns 20 = .ok (.iconst 0, 1) := by decide +kernel
theorem dX1_watchByTurns_21 : decode cX1_watchByTurns 21 = .ok (.istore 4, 2) := by decide +kernel
theorem dX1_watchByTurns_23 : decode cX1_watchByTurns 23 = .ok (.iload 4, 2) := by decide +kernel
theorem dX1_watchByTurns_25 : decode cX1_watchByTurns 25 = .ok (.iload_n 3, 1) := by decide +kernel
theorem dX1_watchByTurns_26 : decode cX1_watchByTurns 26 = .ok (.if_icmp .ge 122, 3) := by decide +kernel
theorem dX1_watchByTurns_29 : decode cX1_watchByTurns 29 = .ok (.iload 4, 2) := by decide +kernel
theorem dX1_watchByTurns_31 : decode cX1_watchByTurns 31 = .ok (.iconst 2, 1) := by decide +kernel
theorem dX1_watchByTurns_32 : decode cX1_watchByTurns 32 = .ok (.irem, 1) := by decide +kernel
theorem dX1_watchByTurns_33 : decode cX1_watchByTurns 33 = .ok (.ifCond .ne 7, 3) := by decide +kernel
theorem dX1_watchByTurns_36 : decode cX1_watchByTurns 36 = .ok (.iconst 1, 1) := by decide +kernel
theorem dX1_watchByTurns_37 : decode cX1_watchByTurns 37 = .ok (.goto 4, 3) := by decide +kernel
theorem dX1_watchByTurns_40 : decode cX1_watchByTurns 40 = .ok (.iconst 0, 1) := by decide +kernel
theorem dX1_watchByTurns_41 : decode cX1_watchByTurns 41 = .ok (.istore 5, 2) := by decide +kernel
theorem dX1_watchByTurns_43 : decode cX1_watchByTurns 43 = .ok (.iload 5, 2) := by decide +kernel
theorem dX1_watchByTurns_45 : decode cX1_watchByTurns 45 = .ok (.ifCond .eq 7, 3) := by decide +kernel
theorem dX1_watchByTurns_48 : decode cX1_watchByTurns 48 = .ok (.iload_n 1, 1) := by decide +kernel
theorem dX1_watchByTurns_49 : decode cX1_watchByTurns 49 = .ok (.goto 4, 3) := by decide +kernel
theorem dX1_watchByTurns_52 : decode cX1_watchByTurns 52 = .ok (.iload_n 2, 1) := by decide +kernel
theorem dX1_watchByTurns_53 : decode cX1_watchByTurns 53 = .ok (.istore 6, 2) := by decide +kernel
theorem dX1_watchByTurns_55 : decode cX1_watchByTurns 55 = .ok (.aload_n 0, 1) := by decide +kernel
theorem dX1_watchByTurns_56 : decode cX1_watchByTurns 56 = .ok (.aload_n 0, 1) := by decide +kernel
theorem dX1_watchByTurns_57 : decode cX1_watchByTurns 57 = .ok (.getfield 7, 3) := by decide +kernel
theorem dX1_watchByTurns_60 : decode cX1_watchByTurns 60 = .ok (.ldc2_w 22, 3) := by decide +kernel
theorem dX1_watchByTurns_63 : decode cX1_watchByTurns 63 = .ok (.lmul, 1) := by decide +kernel
theorem dX1_watchByTurns_64 : decode cX1_watchByTurns 64 = .ok (.iload 5, 2) := by decide +kernel
theorem dX1_watchByTurns_66 : decode cX1_watchByTurns 66 = .ok (.ifCond .eq 14, 3) := by decide +kernel
theorem dX1_watchByTurns_69 : decode cX1_watchByTurns 69 = .ok (.aload_n 0, 1) := by decide +kernel
theorem dX1_watchByTurns_70 : decode cX1_watchByTurns 70 = .ok (.getfield 16, 3) := by decide +kernel
theorem dX1_watchByTurns_73 : decode cX1_watchByTurns 73 = .ok (.iload 6, 2) := by decide +kernel
theorem dX1_watchByTurns_75 : decode cX1_watchByTurns 75 = .ok (.i2l, 1) := by decide +kernel
theorem dX1_watchByTurns_76 : decode cX1_watchByTurns 76 = .ok (.lmul, 1) := by decide +kernel
theorem dX1_watchByTurns_77 : decode cX1_watchByTurns 77 = .ok (.goto 4, 3) := by decide +kernel
theorem dX1_watchByTurns_80 : decode cX1_watchByTurns 80 = .ok (.lconst 0, 1) := by decide +kernel
theorem dX1_watchByTurns_81 : decode cX1_watchByTurns 81 = .ok (.ladd, 1) := by decide +kernel
theorem dX1_watchByTurns_82 : decode cX1_watchByTurns 82 = .ok (.putfield 7, 3) := by decide +kernel
theorem dX1_watchByTurns_85 : decode cX1_watchByTurns 85 = .ok (.aload_n 0, 1) := by decide +kernel
theorem dX1_watchByTurns_86 : decode cX1_watchByTurns 86 = .ok (.aload_n 0, 1) := by decide +kernel
theorem dX1_watchByTurns_87 : decode cX1_watchByTurns 87 = .ok (.getfield 13, 3) := by decide +kernel
theorem dX1_watchByTurns_90 : decode cX1_watchByTurns 90 = .ok (.ldc2_w 22, 3) := by decide +kernel
theorem dX1_watchByTurns_93 : decode cX1_watchByTurns 93 = .ok (.lmul, 1) := by decide +kernel
theorem dX1_watchByTurns_94 : decode cX1_watchByTurns 94 = .ok (.iload 5, 2) := by decide +kernel
theorem dX1_watchByTurns_96 : decode cX1_watchByTurns 96 = .ok (.ifCond .eq 7, 3) := by decide +kernel
theorem dX1_watchByTurns_99 : decode cX1_watchByTurns 99 = .ok (.lconst 0, 1) := by decide +kernel
theorem dX1_watchByTurns_100 : decode cX1_watchByTurns 100 = .ok (.goto 11, 3) := by decide +kernel
theorem dX1_watchByTurns_103 : decode cX1_watchByTurns 103 = .ok (.aload_n 0, 1) := by decide +kernel
theorem dX1_watchByTurns_104 : decode cX1_watchByTurns 104 = .ok (.getfield 16, 3) := by decide +kernel
theorem dX1_watchByTurns_107 : decode cX1_watchByTurns 107 = .ok (.iload 6, 2) := by decide +kernel
theorem dX1_watchByTurns_109 : decode cX1_watchByTurns 109 = .ok (.i2l, 1) := by decide +kernel
theorem dX1_watchByTurns_110 : decode cX1_watchByTurns 110 = .ok (.lmul, 1) := by decide +kernel
theorem dX1_watchByTurns_111 : decode cX1_watchByTurns 111 = .ok (.ladd, 1) := by decide +kernel
theorem dX1_watchByTurns_112 : decode cX1_watchByTurns 112 = .ok (.putfield 13, 3) := by decide +kernel
theorem dX1_watchByTurns_115 : decode cX1_watchByTurns 115 = .ok (.aload_n 0, 1) := by decide +kernel
theorem dX1_watchByTurns_116 : decode cX1_watchByTurns 116 = .ok (.dup, 1) := by decide +kernel
theorem dX1_watchByTurns_117 : decode cX1_watchByTurns 117 = .ok (.getfield 16, 3) := by decide +kernel
theorem dX1_watchByTurns_120 : decode cX1_watchByTurns 120 = .ok (.bipush 10, 2) := by decide +kernel
theorem dX1_watchByTurns_122 : decode cX1_watchByTurns 122 = .ok (.iload 6, 2) := by decide +kernel
theorem dX1_watchByTurns_124 : decode cX1_watchByTurns 124 = .ok (.isub, 1) := by decide +kernel
theorem dX1_watchByTurns_125 : decode cX1_watchByTurns 125 = .ok (.i2l, 1) := by decide +kernel
theorem dX1_watchByTurns_126 : decode cX1_watchByTurns 126 = .ok (.lmul, 1) := by decide +kernel
theorem dX1_watchByTurns_127 : decode cX1_watchByTurns 127 = .ok (.putfield 16, 3) := by decide +kernel
theorem dX1_watchByTurns_130 : decode cX1_watchByTurns 130 = .ok (.aload_n 0, 1) := by decide +kernel
theorem dX1_watchByTurns_131 : decode cX1_watchByTurns 131 = .ok (.dup, 1) := by decide +kernel
theorem dX1_watchByTurns_132 : decode cX1_watchByTurns 132 = .ok (.getfield 19, 3) := by decide +kernel
theorem dX1_watchByTurns_135 : decode cX1_watchByTurns 135 = .ok (.ldc2_w 22, 3) := by decide +kernel
theorem dX1_watchByTurns_138 : decode cX1_watchByTurns 138 = .ok (.lmul, 1) := by decide +kernel
theorem dX1_watchByTurns_139 : decode cX1_watchByTurns 139 = .ok (.putfield 19, 3) := by decide +kernel
theorem dX1_watchByTurns_142 : decode cX1_watchByTurns 142 = .ok (.iinc 4 1, 3) := by decide +kernel
theorem dX1_watchByTurns_145 : decode cX1_watchByTurns 145 = .ok (.goto (-122), 3) := by decide +kernel
theorem dX1_watchByTurns_148 : decode cX1_watchByTurns 148 = .ok (.return_, 1) := by decide +kernel
set_option maxRecDepth 20000 in
theorem ggX1_chance_X1_partOf : GoodIn wsX1_chance wsX1_partOf := goodIn_r _ [8, 9, 10, 11, 12, 13, 14, 15] (by decide +kernel) (by decide +kernel)
set_option maxRecDepth 20000 in
theorem gX1_chance_X1_partOf : GoodIn wsX1_chance (wsV RX1 24 RX1 yX1_partOf wsX1_partOf) := goodIn_app (goodIn_of _ (by decide +kernel)) ggX1_chance_X1_partOf
theorem dX1_chance_0 : decode cX1_chance 0 = .ok (.iload_n 1, 1) := by decide +kernel
theorem dX1_chance_1 : decode cX1_chance 1 = .ok (.ifCond .ne 13, 3) := by decide +kernel
theorem dX1_chance_4 : decode cX1_chance 4 = .ok (.aload_n 0, 1) := by decide +kernel
theorem dX1_chance_5 : decode cX1_chance 5 = .ok (.aload_n 0, 1) := by decide +kernel
theorem dX1_chance_6 : decode cX1_chance 6 = .ok (.getfield 7, 3) := by decide +kernel
theorem dX1_chance_9 : decode cX1_chance 9 = .ok (.iload_n 2, 1) := by decide +kernel
theorem dX1_chance_10 : decode cX1_chance 10 = .ok (.invokevirtual 24, 3) := by decide +kernel
theorem dX1_chance_13 : decode cX1_chance 13 = .ok (.lreturn, 1) := by decide +kernel
theorem dX1_chance_14 : decode cX1_chance 14 = .ok (.aload_n 0, 1) := by decide +kernel
theorem dX1_chance_15 : decode cX1_chance 15 = .ok (.iload_n 1, 1) := by decide +kernel
theorem dX1_chance_16 : decode cX1_chance 16 = .ok (.iconst 1, 1) := by decide +kernel
theorem dX1_chance_17 : decode cX1_chance 17 = .ok (.if_icmp .ne 10, 3) := by decide +kernel
theorem dX1_chance_20 : decode cX1_chance 20 = .ok (.aload_n 0, 1) := by decide +kernel
theorem dX1_chance_21 : decode cX1_chance 21 = .ok (.getfield 13, 3) := by decide +kernel
theorem dX1_chance_24 : decode cX1_chance 24 = .ok (.goto 7, 3) := by decide +kernel
theorem dX1_chance_27 : decode cX1_chance 27 = .ok (.aload_n 0, 1) := by decide +kernel
theorem dX1_chance_28 : decode cX1_chance 28 = .ok (.getfield 16, 3) := by decide +kernel
theorem dX1_chance_31 : decode cX1_chance 31 = .ok (.iload_n 2, 1) := by decide +kernel
theorem dX1_chance_32 : decode cX1_chance 32 = .ok (.invokevirtual 24, 3) := by decide +kernel
theorem dX1_chance_35 : decode cX1_chance 35 = .ok (.lreturn, 1) := by decide +kernel
theorem dX1_partOf_0 : decode cX1_partOf 0 = .ok (.lload_n 1, 1) := by decide +kernel
theorem dX1_partOf_1 : decode cX1_partOf 1 = .ok (.lstore 4, 2) := by decide +kernel
theorem dX1_partOf_3 : decode cX1_partOf 3 = .ok (.aload_n 0, 1) := by decide +kernel
theorem dX1_partOf_4 : decode cX1_partOf 4 = .ok (.getfield 19, 3) := by decide +kernel
theorem dX1_partOf_7 : decode cX1_partOf 7 = .ok (.lstore 6, 2) := by decide +kernel
theorem dX1_partOf_9 : decode cX1_partOf 9 = .ok (.iconst 0, 1) := by decide +kernel
theorem dX1_partOf_10 : decode cX1_partOf 10 = .ok (.istore 8, 2) := by decide +kernel
theorem dX1_partOf_12 : decode cX1_partOf 12 = .ok (.iload 8, 2) := by decide +kernel
theorem dX1_partOf_14 : decode cX1_partOf 14 = .ok (.bipush 16, 2) := by decide +kernel
theorem dX1_partOf_16 : decode cX1_partOf 16 = .ok (.if_icmp .ge 85, 3) := by decide +kernel
theorem dX1_partOf_19 : decode cX1_partOf 19 = .ok (.lload 4, 2) := by decide +kernel
theorem dX1_partOf_21 : decode cX1_partOf 21 = .ok (.ldc2_w 28, 3) := by decide +kernel
theorem dX1_partOf_24 : decode cX1_partOf 24 = .ok (.lrem, 1) := by decide +kernel
theorem dX1_partOf_25 : decode cX1_partOf 25 = .ok (.lconst 0, 1) := by decide +kernel
theorem dX1_partOf_26 : decode cX1_partOf 26 = .ok (.lcmp, 1) := by decide +kernel
theorem dX1_partOf_27 : decode cX1_partOf 27 = .ok (.ifCond .ne 30, 3) := by decide +kernel
theorem dX1_partOf_30 : decode cX1_partOf 30 = .ok (.lload 6, 2) := by decide +kernel
theorem dX1_partOf_32 : decode cX1_partOf 32 = .ok (.ldc2_w 28, 3) := by decide +kernel
theorem dX1_partOf_35 : decode cX1_partOf 35 = .ok (.lrem, 1) := by decide +kernel
theorem dX1_partOf_36 : decode cX1_partOf 36 = .ok (.lconst 0, 1) := by decide +kernel
theorem dX1_partOf_37 : decode cX1_partOf 37 = .ok (.lcmp, 1) := by decide +kernel
theorem dX1_partOf_38 : decode cX1_partOf 38 = .ok (.ifCond .ne 19, 3) := by decide +kernel
theorem dX1_partOf_41 : decode cX1_partOf 41 = .ok (.lload 4, 2) := by decide +kernel
theorem dX1_partOf_43 : decode cX1_partOf 43 = .ok (.ldc2_w 28, 3) := by decide +kernel
theorem dX1_partOf_46 : decode cX1_partOf 46 = .ok (.ldiv, 1) := by decide +kernel
theorem dX1_partOf_47 : decode cX1_partOf 47 = .ok (.lstore 4, 2) := by decide +kernel
theorem dX1_partOf_49 : decode cX1_partOf 49 = .ok (.lload 6, 2) := by decide +kernel
theorem dX1_partOf_51 : decode cX1_partOf 51 = .ok (.ldc2_w 28, 3) := by decide +kernel
theorem dX1_partOf_54 : decode cX1_partOf 54 = .ok (.ldiv, 1) := by decide +kernel
theorem dX1_partOf_55 : decode cX1_partOf 55 = .ok (.lstore 6, 2) := by decide +kernel
theorem dX1_partOf_57 : decode cX1_partOf 57 = .ok (.lload 4, 2) := by decide +kernel
theorem dX1_partOf_59 : decode cX1_partOf 59 = .ok (.ldc2_w 30, 3) := by decide +kernel
theorem dX1_partOf_62 : decode cX1_partOf 62 = .ok (.lrem, 1) := by decide +kernel
theorem dX1_partOf_63 : decode cX1_partOf 63 = .ok (.lconst 0, 1) := by decide +kernel
theorem dX1_partOf_64 : decode cX1_partOf 64 = .ok (.lcmp, 1) := by decide +kernel
theorem dX1_partOf_65 : decode cX1_partOf 65 = .ok (.ifCond .ne 30, 3) := by decide +kernel
theorem dX1_partOf_68 : decode cX1_partOf 68 = .ok (.lload 6, 2) := by decide +kernel
theorem dX1_partOf_70 : decode cX1_partOf 70 = .ok (.ldc2_w 30, 3) := by decide +kernel
theorem dX1_partOf_73 : decode cX1_partOf 73 = .ok (.lrem, 1) := by decide +kernel
theorem dX1_partOf_74 : decode cX1_partOf 74 = .ok (.lconst 0, 1) := by decide +kernel
theorem dX1_partOf_75 : decode cX1_partOf 75 = .ok (.lcmp, 1) := by decide +kernel
theorem dX1_partOf_76 : decode cX1_partOf 76 = .ok (.ifCond .ne 19, 3) := by decide +kernel
theorem dX1_partOf_79 : decode cX1_partOf 79 = .ok (.lload 4, 2) := by decide +kernel
theorem dX1_partOf_81 : decode cX1_partOf 81 = .ok (.ldc2_w 30, 3) := by decide +kernel
theorem dX1_partOf_84 : decode cX1_partOf 84 = .ok (.ldiv, 1) := by decide +kernel
theorem dX1_partOf_85 : decode cX1_partOf 85 = .ok (.lstore 4, 2) := by decide +kernel
theorem dX1_partOf_87 : decode cX1_partOf 87 = .ok (.lload 6, 2) := by decide +kernel
theorem dX1_partOf_89 : decode cX1_partOf 89 = .ok (.ldc2_w 30, 3) := by decide +kernel
theorem dX1_partOf_92 : decode cX1_partOf 92 = .ok (.ldiv, 1) := by decide +kernel
theorem dX1_partOf_93 : decode cX1_partOf 93 = .ok (.lstore 6, 2) := by decide +kernel
theorem dX1_partOf_95 : decode cX1_partOf 95 = .ok (.iinc 8 1, 3) := by decide +kernel
theorem dX1_partOf_98 : decode cX1_partOf 98 = .ok (.goto (-86), 3) := by decide +kernel
theorem dX1_partOf_101 : decode cX1_partOf 101 = .ok (.iload_n 3, 1) := by decide +kernel
theorem dX1_partOf_102 : decode cX1_partOf 102 = .ok (.ifCond .ne 8, 3) := by decide +kernel
theorem dX1_partOf_105 : decode cX1_partOf 105 = .ok (.lload 4, 2) := by decide +kernel
theorem dX1_partOf_107 : decode cX1_partOf 107 = .ok (.goto 5, 3) := by decide +kernel
theorem dX1_partOf_110 : decode cX1_partOf 110 = .ok (.lload 6, 2) := by decide +kernel
theorem dX1_partOf_112 : decode cX1_partOf 112 = .ok (.lreturn, 1) := by decide +kernel
theorem dX2_init_0 : decode cX2_init 0 = .ok (.aload_n 0, 1) := by decide +kernel
theorem dX2_init_1 : decode cX2_init 1 = .ok (.invokespecial 3, 3) := by decide +kernel
theorem dX2_init_4 : decode cX2_init 4 = .ok (.aload_n 0, 1) := by decide +kernel
theorem dX2_init_5 : decode cX2_init 5 = .ok (.bipush 60, 2) := by decide +kernel
theorem dX2_init_7 : decode cX2_init 7 = .ok (.newarray .int, 2) := by decide +kernel
theorem dX2_init_9 : decode cX2_init 9 = .ok (.putfield 9, 3) := by decide +kernel
theorem dX2_init_12 : decode cX2_init 12 = .ok (.aload_n 0, 1) := by decide +kernel
theorem dX2_init_13 : decode cX2_init 13 = .ok (.iconst 0, 1) := by decide +kernel
theorem dX2_init_14 : decode cX2_init 14 = .ok (.putfield 15, 3) := by decide +kernel
theorem dX2_init_17 : decode cX2_init 17 = .ok (.return_, 1) := by decide +kernel
theorem dX2_write_0 : decode cX2_write 0 = .ok (.aload_n 0, 1) := by decide +kernel
theorem dX2_write_1 : decode cX2_write 1 = .ok (.getfield 15, 3) := by decide +kernel
theorem dX2_write_4 : decode cX2_write 4 = .ok (.ifCond .lt 15, 3) := by decide +kernel
theorem dX2_write_7 : decode cX2_write 7 = .ok (.aload_n 0, 1) := by decide +kernel
theorem dX2_write_8 : decode cX2_write 8 = .ok (.getfield 15, 3) := by decide +kernel
theorem dX2_write_11 : decode cX2_write 11 = .ok (.aload_n 0, 1) := by decide +kernel
theorem dX2_write_12 : decode cX2_write 12 = .ok (.getfield 9, 3) := by decide +kernel
theorem dX2_write_15 : decode cX2_write 15 = .ok (.arraylength, 1) := by decide +kernel
theorem dX2_write_16 : decode cX2_write 16 = .ok (.if_icmp .lt 5, 3) := by decide +kernel
theorem dX2_write_19 : decode cX2_write 19 = .ok (.iconst 0, 1) := by decide +kernel
theorem dX2_write_20 : decode cX2_write 20 = .ok (.ireturn, 1) := by decide +kernel
theorem dX2_write_21 : decode cX2_write 21 = .ok (.aload_n 0, 1) := by decide +kernel
theorem dX2_write_22 : decode cX2_write 22 = .ok (.getfield 9, 3) := by decide +kernel
theorem dX2_write_25 : decode cX2_write 25 = .ok (.aload_n 0, 1) := by decide +kernel
theorem dX2_write_26 : decode cX2_write 26 = .ok (.getfield 15, 3) := by decide +kernel
theorem dX2_write_29 : decode cX2_write 29 = .ok (.iload_n 1, 1) := by decide +kernel
theorem dX2_write_30 : decode cX2_write 30 = .ok (.iastore, 1) := by decide +kernel
theorem dX2_write_31 : decode cX2_write 31 = .ok (.aload_n 0, 1) := by decide +kernel
theorem dX2_write_32 : decode cX2_write 32 = .ok (.dup, 1) := by decide +kernel
theorem dX2_write_33 : decode cX2_write 33 = .ok (.getfield 15, 3) := by decide +kernel
theorem dX2_write_36 : decode cX2_write 36 = .ok (.iconst 1, 1) := by decide +kernel
theorem dX2_write_37 : decode cX2_write 37 = .ok (.iadd, 1) := by decide +kernel
theorem dX2_write_38 : decode cX2_write 38 = .ok (.putfield 15, 3) := by decide +kernel
theorem dX2_write_41 : decode cX2_write 41 = .ok (.iconst 1, 1) := by decide +kernel
theorem dX2_write_42 : decode cX2_write 42 = .ok (.ireturn, 1) := by decide +kernel
theorem dX2_signAt_0 : decode cX2_signAt 0 = .ok (.iload_n 1, 1) := by decide +kernel
theorem dX2_signAt_1 : decode cX2_signAt 1 = .ok (.ifCond .lt 29, 3) := by decide +kernel
theorem dX2_signAt_4 : decode cX2_signAt 4 = .ok (.iload_n 1, 1) := by decide +kernel
theorem dX2_signAt_5 : decode cX2_signAt 5 = .ok (.aload_n 0, 1) := by decide +kernel
theorem dX2_signAt_6 : decode cX2_signAt 6 = .ok (.getfield 15, 3) := by decide +kernel
theorem dX2_signAt_9 : decode cX2_signAt 9 = .ok (.if_icmp .ge 21, 3) := by decide +kernel
theorem dX2_signAt_12 : decode cX2_signAt 12 = .ok (.iload_n 1, 1) := by decide +kernel
theorem dX2_signAt_13 : decode cX2_signAt 13 = .ok (.aload_n 0, 1) := by decide +kernel
theorem dX2_signAt_14 : decode cX2_signAt 14 = .ok (.getfield 9, 3) := by decide +kernel
theorem dX2_signAt_17 : decode cX2_signAt 17 = .ok (.arraylength, 1) := by decide +kernel
theorem dX2_signAt_18 : decode cX2_signAt 18 = .ok (.if_icmp .ge 12, 3) := by decide +kernel
theorem dX2_signAt_21 : decode cX2_signAt 21 = .ok (.aload_n 0, 1) := by decide +kernel
theorem dX2_signAt_22 : decode cX2_signAt 22 = .ok (.getfield 9, 3) := by decide +kernel
theorem dX2_signAt_25 : decode cX2_signAt 25 = .ok (.iload_n 1, 1) := by decide +kernel
theorem dX2_signAt_26 : decode cX2_signAt 26 = .ok (.iaload, 1) := by decide +kernel
theorem dX2_signAt_27 : decode cX2_signAt 27 = .ok (.goto 5, 3) := by decide +kernel
theorem dX2_signAt_30 : decode cX2_signAt 30 = .ok (.bipush (-6), 2) := by decide +kernel
theorem dX2_signAt_32 : decode cX2_signAt 32 = .ok (.ireturn, 1) := by decide +kernel
theorem dX2_isLetter_0 : decode cX2_isLetter 0 = .ok (.iload_n 0, 1) := by decide +kernel
theorem dX2_isLetter_1 : decode cX2_isLetter 1 = .ok (.bipush 65, 2) := by decide +kernel
theorem dX2_isLetter_3 : decode cX2_isLetter 3 = .ok (.if_icmp .lt 13, 3) := by decide +kernel
theorem dX2_isLetter_6 : decode cX2_isLetter 6 = .ok (.iload_n 0, 1) := by decide +kernel
theorem dX2_isLetter_7 : decode cX2_isLetter 7 = .ok (.bipush 70, 2) := by decide +kernel
theorem dX2_isLetter_9 : decode cX2_isLetter 9 = .ok (.if_icmp .gt 7, 3) := by decide +kernel
theorem dX2_isLetter_12 : decode cX2_isLetter 12 = .ok (.iconst 1, 1) := by decide +kernel
theorem dX2_isLetter_13 : decode cX2_isLetter 13 = .ok (.goto 4, 3) := by decide +kernel
theorem dX2_isLetter_16 : decode cX2_isLetter 16 = .ok (.iconst 0, 1) := by decide +kernel
theorem dX2_isLetter_17 : decode cX2_isLetter 17 = .ok (.ireturn, 1) := by decide +kernel
theorem dX2_isDigit_0 : decode cX2_isDigit 0 = .ok (.iload_n 0, 1) := by decide +kernel
theorem dX2_isDigit_1 : decode cX2_isDigit 1 = .ok (.bipush 48, 2) := by decide +kernel
theorem dX2_isDigit_3 : decode cX2_isDigit 3 = .ok (.if_icmp .lt 13, 3) := by decide +kernel
theorem dX2_isDigit_6 : decode cX2_isDigit 6 = .ok (.iload_n 0, 1) := by decide +kernel
theorem dX2_isDigit_7 : decode cX2_isDigit 7 = .ok (.bipush 55, 2) := by decide +kernel
theorem dX2_isDigit_9 : decode cX2_isDigit 9 = .ok (.if_icmp .gt 7, 3) := by decide +kernel
theorem dX2_isDigit_12 : decode cX2_isDigit 12 = .ok (.iconst 1, 1) := by decide +kernel
theorem dX2_isDigit_13 : decode cX2_isDigit 13 = .ok (.goto 4, 3) := by decide +kernel
theorem dX2_isDigit_16 : decode cX2_isDigit 16 = .ok (.iconst 0, 1) := by decide +kernel
theorem dX2_isDigit_17 : decode cX2_isDigit 17 = .ok (.ireturn, 1) := by decide +kernel
set_option maxRecDepth 20000 in
theorem ggX2_actAt_X2_signAt : GoodIn wsX2_actAt wsX2_signAt := goodIn_r _ [5, 6, 7, 14, 15] (by decide +kernel) (by decide +kernel)
set_option maxRecDepth 20000 in
theorem gX2_actAt_X2_signAt : GoodIn wsX2_actAt (wsV RX2 19 RX2 yX2_signAt wsX2_signAt) := goodIn_app (goodIn_of _ (by decide +kernel)) ggX2_actAt_X2_signAt
set_option maxRecDepth 20000 in
theorem ggX2_actAt_X2_isLetter : GoodIn wsX2_actAt wsX2_isLetter := goodIn_r _ [10] (by decide +kernel) (by decide +kernel)
set_option maxRecDepth 20000 in
theorem gX2_actAt_X2_isLetter : GoodIn wsX2_actAt (va_wsS RX2 23 yX2_isLetter wsX2_isLetter) := goodIn_app (goodIn_of _ (by decide +kernel)) ggX2_actAt_X2_isLetter
set_option maxRecDepth 20000 in
theorem ggX2_actAt_X2_isDigit : GoodIn wsX2_actAt wsX2_isDigit := goodIn_r _ [13] (by decide +kernel) (by decide +kernel)
set_option maxRecDepth 20000 in
theorem gX2_actAt_X2_isDigit : GoodIn wsX2_actAt (va_wsS RX2 27 yX2_isDigit wsX2_isDigit) := goodIn_app (goodIn_of _ (by decide +kernel)) ggX2_actAt_X2_isDigit
theorem dX2_actAt_0 : decode cX2_actAt 0 = .ok (.aload_n 0, 1) := by decide +kernel
theorem dX2_actAt_1 : decode cX2_actAt 1 = .ok (.iload_n 1, 1) := by decide +kernel
theorem dX2_actAt_2 : decode cX2_actAt 2 = .ok (.invokevirtual 19, 3) := by decide +kernel
theorem dX2_actAt_5 : decode cX2_actAt 5 = .ok (.istore_n 2, 1) := by decide +kernel
theorem dX2_actAt_6 : decode cX2_actAt 6 = .ok (.aload_n 0, 1) := by decide +kernel
theorem dX2_actAt_7 : decode cX2_actAt 7 = .ok (.iload_n 1, 1) := by decide +kernel
theorem dX2_actAt_8 : decode cX2_actAt 8 = .ok (.iconst 1, 1) := by decide +kernel
theorem dX2_actAt_9 : decode cX2_actAt 9 = .ok (.iadd, 1) := by decide +kernel
theorem dX2_actAt_10 : decode cX2_actAt 10 = .ok (.invokevirtual 19, 3) := by decide +kernel
theorem dX2_actAt_13 : decode cX2_actAt 13 = .ok (.istore_n 3, 1) := by decide +kernel
theorem dX2_actAt_14 : decode cX2_actAt 14 = .ok (.iload_n 2, 1) := by decide +kernel
theorem dX2_actAt_15 : decode cX2_actAt 15 = .ok (.bipush 99, 2) := by decide +kernel
theorem dX2_actAt_17 : decode cX2_actAt 17 = .ok (.if_icmp .ne 5, 3) := by decide +kernel
theorem dX2_actAt_20 : decode cX2_actAt 20 = .ok (.iconst 4, 1) := by decide +kernel
theorem dX2_actAt_21 : decode cX2_actAt 21 = .ok (.ireturn, 1) := by decide +kernel
theorem dX2_actAt_22 : decode cX2_actAt 22 = .ok (.iload_n 2, 1) := by decide +kernel
theorem dX2_actAt_23 : decode cX2_actAt 23 = .ok (.bipush 46, 2) := by decide +kernel
theorem dX2_actAt_25 : decode cX2_actAt 25 = .ok (.if_icmp .ne 5, 3) := by decide +kernel
theorem dX2_actAt_28 : decode cX2_actAt 28 = .ok (.iconst 5, 1) := by decide +kernel
theorem dX2_actAt_29 : decode cX2_actAt 29 = .ok (.ireturn, 1) := by decide +kernel
theorem dX2_actAt_30 : decode cX2_actAt 30 = .ok (.iload_n 2, 1) := by decide +kernel
theorem dX2_actAt_31 : decode cX2_actAt 31 = .ok (.invokestatic 23, 3) := by decide +kernel
theorem dX2_actAt_34 : decode cX2_actAt 34 = .ok (.ifCond .eq 11, 3) := by decide +kernel
theorem dX2_actAt_37 : decode cX2_actAt 37 = .ok (.iload_n 3, 1) := by decide +kernel
theorem dX2_actAt_38 : decode cX2_actAt 38 = .ok (.bipush 94, 2) := by decide +kernel
theorem dX2_actAt_40 : decode cX2_actAt 40 = .ok (.if_icmp .ne 5, 3) := by decide +kernel
theorem dX2_actAt_43 : decode cX2_actAt 43 = .ok (.iconst 0, 1) := by decide +kernel
theorem dX2_actAt_44 : decode cX2_actAt 44 = .ok (.ireturn, 1) := by decide +kernel
theorem dX2_actAt_45 : decode cX2_actAt 45 = .ok (.iload_n 2, 1) := by decide +kernel
theorem dX2_actAt_46 : decode cX2_actAt 46 = .ok (.invokestatic 23, 3) := by decide +kernel
theorem dX2_actAt_49 : decode cX2_actAt 49 = .ok (.ifCond .eq 11, 3) := by decide +kernel
theorem dX2_actAt_52 : decode cX2_actAt 52 = .ok (.iload_n 3, 1) := by decide +kernel
theorem dX2_actAt_53 : decode cX2_actAt 53 = .ok (.bipush 95, 2) := by decide +kernel
theorem dX2_actAt_55 : decode cX2_actAt 55 = .ok (.if_icmp .ne 5, 3) := by decide +kernel
theorem dX2_actAt_58 : decode cX2_actAt 58 = .ok (.iconst 1, 1) := by decide +kernel
theorem dX2_actAt_59 : decode cX2_actAt 59 = .ok (.ireturn, 1) := by decide +kernel
theorem dX2_actAt_60 : decode cX2_actAt 60 = .ok (.iload_n 2, 1) := by decide +kernel
theorem dX2_actAt_61 : decode cX2_actAt 61 = .ok (.bipush 119, 2) := by decide +kernel
theorem dX2_actAt_63 : decode cX2_actAt 63 = .ok (.if_icmp .ne 12, 3) := by decide +kernel
theorem dX2_actAt_66 : decode cX2_actAt 66 = .ok (.iload_n 3, 1) := by decide +kernel
theorem dX2_actAt_67 : decode cX2_actAt 67 = .ok (.invokestatic 27, 3) := by decide +kernel
theorem dX2_actAt_70 : decode cX2_actAt 70 = .ok (.ifCond .eq 5, 3) := by decide +kernel
theorem dX2_actAt_73 : decode cX2_actAt 73 = .ok (.iconst 2, 1) := by decide +kernel
theorem dX2_actAt_74 : decode cX2_actAt 74 = .ok (.ireturn, 1) := by decide +kernel
theorem dX2_actAt_75 : decode cX2_actAt 75 = .ok (.iload_n 2, 1) := by decide +kernel
theorem dX2_actAt_76 : decode cX2_actAt 76 = .ok (.bipush 102, 2) := by decide +kernel
theorem dX2_actAt_78 : decode cX2_actAt 78 = .ok (.if_icmp .ne 14, 3) := by decide +kernel
theorem dX2_actAt_81 : decode cX2_actAt 81 = .ok (.iload_n 3, 1) := by decide +kernel
theorem dX2_actAt_82 : decode cX2_actAt 82 = .ok (.invokestatic 27, 3) := by decide +kernel
theorem dX2_actAt_85 : decode cX2_actAt 85 = .ok (.ifCond .eq 7, 3) := by decide +kernel
theorem dX2_actAt_88 : decode cX2_actAt 88 = .ok (.iconst 3, 1) := by decide +kernel
theorem dX2_actAt_89 : decode cX2_actAt 89 = .ok (.goto 5, 3) := by decide +kernel
theorem dX2_actAt_92 : decode cX2_actAt 92 = .ok (.bipush (-6), 2) := by decide +kernel
theorem dX2_actAt_94 : decode cX2_actAt 94 = .ok (.ireturn, 1) := by decide +kernel
set_option maxRecDepth 20000 in
theorem ggX2_withAt_X2_signAt : GoodIn wsX2_withAt wsX2_signAt := goodIn_r _ [5, 6, 7, 11, 12] (by decide +kernel) (by decide +kernel)
set_option maxRecDepth 20000 in
theorem gX2_withAt_X2_signAt : GoodIn wsX2_withAt (wsV RX2 19 RX2 yX2_signAt wsX2_signAt) := goodIn_app (goodIn_of _ (by decide +kernel)) ggX2_withAt_X2_signAt
set_option maxRecDepth 20000 in
theorem ggX2_withAt_X2_isLetter : GoodIn wsX2_withAt wsX2_isLetter := goodIn_r _ [10] (by decide +kernel) (by decide +kernel)
set_option maxRecDepth 20000 in
theorem gX2_withAt_X2_isLetter : GoodIn wsX2_withAt (va_wsS RX2 23 yX2_isLetter wsX2_isLetter) := goodIn_app (goodIn_of _ (by decide +kernel)) ggX2_withAt_X2_isLetter
theorem dX2_withAt_0 : decode cX2_withAt 0 = .ok (.aload_n 0, 1) := by decide +kernel
theorem dX2_withAt_1 : decode cX2_withAt 1 = .ok (.iload_n 1, 1) := by decide +kernel
theorem dX2_withAt_2 : decode cX2_withAt 2 = .ok (.invokevirtual 19, 3) := by decide +kernel
theorem dX2_withAt_5 : decode cX2_withAt 5 = .ok (.istore_n 2, 1) := by decide +kernel
theorem dX2_withAt_6 : decode cX2_withAt 6 = .ok (.iload_n 2, 1) := by decide +kernel
theorem dX2_withAt_7 : decode cX2_withAt 7 = .ok (.invokestatic 23, 3) := by decide +kernel
theorem dX2_withAt_10 : decode cX2_withAt 10 = .ok (.ifCond .eq 10, 3) := by decide +kernel
theorem dX2_withAt_13 : decode cX2_withAt 13 = .ok (.iload_n 2, 1) := by decide +kernel
theorem dX2_withAt_14 : decode cX2_withAt 14 = .ok (.bipush 65, 2) := by decide +kernel
theorem dX2_withAt_16 : decode cX2_withAt 16 = .ok (.isub, 1) := by decide +kernel
theorem dX2_withAt_17 : decode cX2_withAt 17 = .ok (.goto 13, 3) := by decide +kernel
theorem dX2_withAt_20 : decode cX2_withAt 20 = .ok (.aload_n 0, 1) := by decide +kernel
theorem dX2_withAt_21 : decode cX2_withAt 21 = .ok (.iload_n 1, 1) := by decide +kernel
theorem dX2_withAt_22 : decode cX2_withAt 22 = .ok (.iconst 1, 1) := by decide +kernel
theorem dX2_withAt_23 : decode cX2_withAt 23 = .ok (.iadd, 1) := by decide +kernel
theorem dX2_withAt_24 : decode cX2_withAt 24 = .ok (.invokevirtual 19, 3) := by decide +kernel
theorem dX2_withAt_27 : decode cX2_withAt 27 = .ok (.bipush 48, 2) := by decide +kernel
theorem dX2_withAt_29 : decode cX2_withAt 29 = .ok (.isub, 1) := by decide +kernel
theorem dX2_withAt_30 : decode cX2_withAt 30 = .ok (.ireturn, 1) := by decide +kernel
theorem dX2_signsOf_0 : decode cX2_signsOf 0 = .ok (.iload_n 0, 1) := by decide +kernel
theorem dX2_signsOf_1 : decode cX2_signsOf 1 = .ok (.iconst 4, 1) := by decide +kernel
theorem dX2_signsOf_2 : decode cX2_signsOf 2 = .ok (.if_icmp .eq 8, 3) := by decide +kernel
theorem dX2_signsOf_5 : decode cX2_signsOf 5 = .ok (.iload_n 0, 1) := by decide +kernel
theorem dX2_signsOf_6 : decode cX2_signsOf 6 = .ok (.iconst 5, 1) := by decide +kernel
theorem dX2_signsOf_7 : decode cX2_signsOf 7 = .ok (.if_icmp .ne 7, 3) := by decide +kernel
theorem dX2_signsOf_10 : decode cX2_signsOf 10 = .ok (.iconst 1, 1) := by decide +kernel
theorem dX2_signsOf_11 : decode cX2_signsOf 11 = .ok (.goto 4, 3) := by decide +kernel
theorem dX2_signsOf_14 : decode cX2_signsOf 14 = .ok (.iconst 2, 1) := by decide +kernel
theorem dX2_signsOf_15 : decode cX2_signsOf 15 = .ok (.ireturn, 1) := by decide +kernel
set_option maxRecDepth 20000 in
theorem ggX2_firstFault_X2_actAt : GoodIn wsX2_firstFault wsX2_actAt := goodIn_r _ [6, 7, 8, 9, 5, 10, 1, 11, 12, 13, 14, 15, 16, 17, 24, 25] (by decide +kernel) (by decide +kernel)
set_option maxRecDepth 20000 in
theorem gX2_firstFault_X2_actAt : GoodIn wsX2_firstFault (wsV RX2 30 RX2 yX2_actAt wsX2_actAt) := goodIn_app (goodIn_of _ (by decide +kernel)) ggX2_firstFault_X2_actAt
set_option maxRecDepth 20000 in
theorem ggX2_firstFault_X2_signAt : GoodIn wsX2_firstFault wsX2_signAt := goodIn_r _ [10, 1, 11, 24, 25] (by decide +kernel) (by decide +kernel)
set_option maxRecDepth 20000 in
theorem gX2_firstFault_X2_signAt : GoodIn wsX2_firstFault (wsV RX2 19 RX2 yX2_signAt wsX2_signAt) := goodIn_app (goodIn_of _ (by decide +kernel)) ggX2_firstFault_X2_signAt
set_option maxRecDepth 20000 in
theorem ggX2_firstFault_X2_needsASecond : GoodIn wsX2_firstFault wsX2_needsASecond := goodIn_r _ [20, 12, 13, 5, 14] (by decide +kernel) (by decide +kernel)
set_option maxRecDepth 20000 in
theorem gX2_firstFault_X2_needsASecond : GoodIn wsX2_firstFault (va_wsS RX2 33 yX2_needsASecond wsX2_needsASecond) := goodIn_app (goodIn_of _ (by decide +kernel)) ggX2_firstFault_X2_needsASecond
set_option maxRecDepth 20000 in
theorem ggX2_firstFault_X2_signsOf : GoodIn wsX2_firstFault wsX2_signsOf := goodIn_r _ [23] (by decide +kernel) (by decide +kernel)
set_option maxRecDepth 20000 in
theorem gX2_firstFault_X2_signsOf : GoodIn wsX2_firstFault (va_wsS RX2 36 yX2_signsOf wsX2_signsOf) := goodIn_app (goodIn_of _ (by decide +kernel)) ggX2_firstFault_X2_signsOf
theorem dX2_firstFault_0 : decode cX2_firstFault 0 = .ok (.iconst 0, 1) := by decide +kernel
theorem dX2_firstFault_1 : decode cX2_firstFault 1 = .ok (.istore_n 1, 1) := by decide +kernel
theorem dX2_firstFault_2 : decode cX2_firstFault 2 = .ok (.iconst 0, 1) := by decide +kernel
theorem dX2_firstFault_3 : decode cX2_firstFault 3 = .ok (.istore_n 2, 1) := by decide +kernel
theorem dX2_firstFault_4 : decode cX2_firstFault 4 = .ok (.iload_n 2, 1) := by decide +kernel
theorem dX2_firstFault_5 : decode cX2_firstFault 5 = .ok (.aload_n 0, 1) := by decide +kernel
theorem dX2_firstFault_6 : decode cX2_firstFault 6 = .ok (.getfield 15, 3) := by decide +kernel
theorem dX2_firstFault_9 : decode cX2_firstFault 9 = .ok (.if_icmp .ge 55, 3) := by decide +kernel
theorem dX2_firstFault_12 : decode cX2_firstFault 12 = .ok (.iload_n 1, 1) := by decide +kernel
theorem dX2_firstFault_13 : decode cX2_firstFault 13 = .ok (.aload_n 0, 1) := by decide +kernel
theorem dX2_firstFault_14 : decode cX2_firstFault 14 = .ok (.getfield 15, 3) := by decide +kernel
theorem dX2_firstFault_17 : decode cX2_firstFault 17 = .ok (.if_icmp .ge 47, 3) := by decide +kernel
theorem dX2_firstFault_20 : decode cX2_firstFault 20 = .ok (.aload_n 0, 1) := by decide +kernel
theorem dX2_firstFault_21 : decode cX2_firstFault 21 = .ok (.iload_n 1, 1) := by decide +kernel
theorem dX2_firstFault_22 : decode cX2_firstFault 22 = .ok (.invokevirtual 30, 3) := by decide +kernel
theorem dX2_firstFault_25 : decode cX2_firstFault 25 = .ok (.istore_n 3, 1) := by decide +kernel
theorem dX2_firstFault_26 : decode cX2_firstFault 26 = .ok (.iload_n 3, 1) := by decide +kernel
theorem dX2_firstFault_27 : decode cX2_firstFault 27 = .ok (.bipush (-6), 2) := by decide +kernel
theorem dX2_firstFault_29 : decode cX2_firstFault 29 = .ok (.if_icmp .ne 22, 3) := by decide +kernel
theorem dX2_firstFault_32 : decode cX2_firstFault 32 = .ok (.aload_n 0, 1) := by decide +kernel
theorem dX2_firstFault_33 : decode cX2_firstFault 33 = .ok (.iload_n 1, 1) := by decide +kernel
theorem dX2_firstFault_34 : decode cX2_firstFault 34 = .ok (.invokevirtual 19, 3) := by decide +kernel
theorem dX2_firstFault_37 : decode cX2_firstFault 37 = .ok (.invokestatic 33, 3) := by decide +kernel
theorem dX2_firstFault_40 : decode cX2_firstFault 40 = .ok (.ifCond .eq 9, 3) := by decide +kernel
theorem dX2_firstFault_43 : decode cX2_firstFault 43 = .ok (.iload_n 1, 1) := by decide +kernel
theorem dX2_firstFault_44 : decode cX2_firstFault 44 = .ok (.iconst 1, 1) := by decide +kernel
theorem dX2_firstFault_45 : decode cX2_firstFault 45 = .ok (.iadd, 1) := by decide +kernel
theorem dX2_firstFault_46 : decode cX2_firstFault 46 = .ok (.goto 4, 3) := by decide +kernel
theorem dX2_firstFault_49 : decode cX2_firstFault 49 = .ok (.iload_n 1, 1) := by decide +kernel
theorem dX2_firstFault_50 : decode cX2_firstFault 50 = .ok (.ireturn, 1) := by decide +kernel
theorem dX2_firstFault_51 : decode cX2_firstFault 51 = .ok (.iload_n 1, 1) := by decide +kernel
theorem dX2_firstFault_52 : decode cX2_firstFault 52 = .ok (.iload_n 3, 1) := by decide +kernel
theorem dX2_firstFault_53 : decode cX2_firstFault 53 = .ok (.invokestatic 36, 3) := by decide +kernel
theorem dX2_firstFault_56 : decode cX2_firstFault 56 = .ok (.iadd, 1) := by decide +kernel
theorem dX2_firstFault_57 : decode cX2_firstFault 57 = .ok (.istore_n 1, 1) := by decide +kernel
theorem dX2_firstFault_58 : decode cX2_firstFault 58 = .ok (.iinc 2 1, 3) := by decide +kernel
theorem dX2_firstFault_61 : decode cX2_firstFault 61 = .ok (.goto (-57), 3) := by decide +kernel
theorem dX2_firstFault_64 : decode cX2_firstFault 64 = .ok (.bipush (-6), 2) := by decide +kernel
theorem dX2_firstFault_66 : decode cX2_firstFault 66 = .ok (.ireturn, 1) := by decide +kernel
set_option maxRecDepth 20000 in
theorem ggX2_needsASecond_X2_isLetter : GoodIn wsX2_needsASecond wsX2_isLetter := goodIn_r _ [4] (by decide +kernel) (by decide +kernel)
set_option maxRecDepth 20000 in
theorem gX2_needsASecond_X2_isLetter : GoodIn wsX2_needsASecond (va_wsS RX2 23 yX2_isLetter wsX2_isLetter) := goodIn_app (goodIn_of _ (by decide +kernel)) ggX2_needsASecond_X2_isLetter
theorem dX2_needsASecond_0 : decode cX2_needsASecond 0 = .ok (.iload_n 0, 1) := by decide +kernel
theorem dX2_needsASecond_1 : decode cX2_needsASecond 1 = .ok (.invokestatic 23, 3) := by decide +kernel
theorem dX2_needsASecond_4 : decode cX2_needsASecond 4 = .ok (.ifCond .ne 15, 3) := by decide +kernel
theorem dX2_needsASecond_7 : decode cX2_needsASecond 7 = .ok (.iload_n 0, 1) := by decide +kernel
theorem dX2_needsASecond_8 : decode cX2_needsASecond 8 = .ok (.bipush 119, 2) := by decide +kernel
theorem dX2_needsASecond_10 : decode cX2_needsASecond 10 = .ok (.if_icmp .eq 9, 3) := by decide +kernel
theorem dX2_needsASecond_13 : decode cX2_needsASecond 13 = .ok (.iload_n 0, 1) := by decide +kernel
theorem dX2_needsASecond_14 : decode cX2_needsASecond 14 = .ok (.bipush 102, 2) := by decide +kernel
theorem dX2_needsASecond_16 : decode cX2_needsASecond 16 = .ok (.if_icmp .ne 7, 3) := by decide +kernel
theorem dX2_needsASecond_19 : decode cX2_needsASecond 19 = .ok (.iconst 1, 1) := by decide +kernel
theorem dX2_needsASecond_20 : decode cX2_needsASecond 20 = .ok (.goto 4, 3) := by decide +kernel
theorem dX2_needsASecond_23 : decode cX2_needsASecond 23 = .ok (.iconst 0, 1) := by decide +kernel
theorem dX2_needsASecond_24 : decode cX2_needsASecond 24 = .ok (.ireturn, 1) := by decide +kernel
theorem dX3_init_0 : decode cX3_init 0 = .ok (.aload_n 0, 1) := by decide +kernel
theorem dX3_init_1 : decode cX3_init 1 = .ok (.invokespecial 3, 3) := by decide +kernel
theorem dX3_init_4 : decode cX3_init 4 = .ok (.aload_n 0, 1) := by decide +kernel
theorem dX3_init_5 : decode cX3_init 5 = .ok (.bipush 9, 2) := by decide +kernel
theorem dX3_init_7 : decode cX3_init 7 = .ok (.newarray .int, 2) := by decide +kernel
theorem dX3_init_9 : decode cX3_init 9 = .ok (.putfield 11, 3) := by decide +kernel
theorem dX3_init_12 : decode cX3_init 12 = .ok (.aload_n 0, 1) := by decide +kernel
theorem dX3_init_13 : decode cX3_init 13 = .ok (.sipush 512, 3) := by decide +kernel
theorem dX3_init_16 : decode cX3_init 16 = .ok (.newarray .int, 2) := by decide +kernel
theorem dX3_init_18 : decode cX3_init 18 = .ok (.putfield 15, 3) := by decide +kernel
theorem dX3_init_21 : decode cX3_init 21 = .ok (.aload_n 0, 1) := by decide +kernel
theorem dX3_init_22 : decode cX3_init 22 = .ok (.iconst 0, 1) := by decide +kernel
theorem dX3_init_23 : decode cX3_init 23 = .ok (.putfield 18, 3) := by decide +kernel
theorem dX3_init_26 : decode cX3_init 26 = .ok (.return_, 1) := by decide +kernel
theorem dX3_takePieces_0 : decode cX3_takePieces 0 = .ok (.iload_n 1, 1) := by decide +kernel
theorem dX3_takePieces_1 : decode cX3_takePieces 1 = .ok (.istore_n 3, 1) := by decide +kernel
theorem dX3_takePieces_2 : decode cX3_takePieces 2 = .ok (.aload_n 0, 1) := by decide +kernel
theorem dX3_takePieces_3 : decode cX3_takePieces 3 = .ok (.iconst 0, 1) := by decide +kernel
theorem dX3_takePieces_4 : decode cX3_takePieces 4 = .ok (.putfield 18, 3) := by decide +kernel
theorem dX3_takePieces_7 : decode cX3_takePieces 7 = .ok (.iconst 0, 1) := by decide +kernel
theorem dX3_takePieces_8 : decode cX3_takePieces 8 = .ok (.istore 4, 2) := by decide +kernel
theorem dX3_takePieces_10 : decode cX3_takePieces 10 = .ok (.iload 4, 2) := by decide +kernel
theorem dX3_takePieces_12 : decode cX3_takePieces 12 = .ok (.iload_n 2, 1) := by decide +kernel
theorem dX3_takePieces_13 : decode cX3_takePieces 13 = .ok (.if_icmp .ge 58, 3) := by decide +kernel
theorem dX3_takePieces_16 : decode cX3_takePieces 16 = .ok (.iload 4, 2) := by decide +kernel
theorem dX3_takePieces_18 : decode cX3_takePieces 18 = .ok (.aload_n 0, 1) := by decide +kernel
theorem dX3_takePieces_19 : decode cX3_takePieces 19 = .ok (.getfield 11, 3) := by decide +kernel
theorem dX3_takePieces_22 : decode cX3_takePieces 22 = .ok (.arraylength, 1) := by decide +kernel
theorem dX3_takePieces_23 : decode cX3_takePieces 23 = .ok (.if_icmp .ge 48, 3) := by decide +kernel
theorem dX3_takePieces_26 : decode cX3_takePieces 26 = .ok (.iload_n 3, 1) := by decide +kernel
theorem dX3_takePieces_27 : decode cX3_takePieces 27 = .ok (.ifCond .le 10, 3) := by decide +kernel
theorem dX3_takePieces_30 : decode cX3_takePieces 30 = .ok (.iload_n 3, 1) := by decide +kernel
theorem dX3_takePieces_31 : decode cX3_takePieces 31 = .ok (.bipush 10, 2) := by decide +kernel
theorem dX3_takePieces_33 : decode cX3_takePieces 33 = .ok (.irem, 1) := by decide +kernel
theorem dX3_takePieces_34 : decode cX3_takePieces 34 = .ok (.ifCond .ne 5, 3) := by decide +kernel
theorem dX3_takePieces_37 : decode cX3_takePieces 37 = .ok (.iconst 0, 1) := by decide +kernel
theorem dX3_takePieces_38 : decode cX3_takePieces 38 = .ok (.ireturn, 1) := by decide +kernel
theorem dX3_takePieces_39 : decode cX3_takePieces 39 = .ok (.aload_n 0, 1) := by decide +kernel
theorem dX3_takePieces_40 : decode cX3_takePieces 40 = .ok (.getfield 11, 3) := by decide +kernel
theorem dX3_takePieces_43 : decode cX3_takePieces 43 = .ok (.iload 4, 2) := by decide +kernel
theorem dX3_takePieces_45 : decode cX3_takePieces 45 = .ok (.iload_n 3, 1) := by decide +kernel
theorem dX3_takePieces_46 : decode cX3_takePieces 46 = .ok (.bipush 10, 2) := by decide +kernel
theorem dX3_takePieces_48 : decode cX3_takePieces 48 = .ok (.irem, 1) := by decide +kernel
theorem dX3_takePieces_49 : decode cX3_takePieces 49 = .ok (.iastore, 1) := by decide +kernel
theorem dX3_takePieces_50 : decode cX3_takePieces 50 = .ok (.iload_n 3, 1) := by decide +kernel
theorem dX3_takePieces_51 : decode cX3_takePieces 51 = .ok (.bipush 10, 2) := by decide +kernel
theorem dX3_takePieces_53 : decode cX3_takePieces 53 = .ok (.idiv, 1) := by decide +kernel
theorem dX3_takePieces_54 : decode cX3_takePieces 54 = .ok (.istore_n 3, 1) := by decide +kernel
theorem dX3_takePieces_55 : decode cX3_takePieces 55 = .ok (.aload_n 0, 1) := by decide +kernel
theorem dX3_takePieces_56 : decode cX3_takePieces 56 = .ok (.dup, 1) := by decide +kernel
theorem dX3_takePieces_57 : decode cX3_takePieces 57 = .ok (.getfield 18, 3) := by decide +kernel
theorem dX3_takePieces_60 : decode cX3_takePieces 60 = .ok (.iconst 1, 1) := by decide +kernel
theorem dX3_takePieces_61 : decode cX3_takePieces 61 = .ok (.iadd, 1) := by decide +kernel
theorem dX3_takePieces_62 : decode cX3_takePieces 62 = .ok (.putfield 18, 3) := by decide +kernel
theorem dX3_takePieces_65 : decode cX3_takePieces 65 = .ok (.iinc 4 1, 3) := by decide +kernel
theorem dX3_takePieces_68 : decode cX3_takePieces 68 = .ok (.goto (-58), 3) := by decide +kernel
theorem dX3_takePieces_71 : decode cX3_takePieces 71 = .ok (.iload_n 3, 1) := by decide +kernel
theorem dX3_takePieces_72 : decode cX3_takePieces 72 = .ok (.ifCond .ne 7, 3) := by decide +kernel
theorem dX3_takePieces_75 : decode cX3_takePieces 75 = .ok (.iconst 1, 1) := by decide +kernel
theorem dX3_takePieces_76 : decode cX3_takePieces 76 = .ok (.goto 4, 3) := by decide +kernel
theorem dX3_takePieces_79 : decode cX3_takePieces 79 = .ok (.iconst 0, 1) := by decide +kernel
theorem dX3_takePieces_80 : decode cX3_takePieces 80 = .ok (.ireturn, 1) := by decide +kernel
set_option maxRecDepth 20000 in
theorem ggX3_fewestRopes_X3_leastCut : GoodIn wsX3_fewestRopes wsX3_leastCut := goodIn_r _ [7, 1, 8, 2, 9, 10, 11, 12, 13, 14, 6, 15, 16, 17, 18] (by decide +kernel) (by decide +kernel)
set_option maxRecDepth 20000 in
theorem gX3_fewestRopes_X3_leastCut : GoodIn wsX3_fewestRopes (wsV RX3 22 RX3 yX3_leastCut wsX3_leastCut) := goodIn_app (goodIn_of _ (by decide +kernel)) ggX3_fewestRopes_X3_leastCut
theorem dX3_fewestRopes_0 : decode cX3_fewestRopes 0 = .ok (.iconst 1, 1) := by decide +kernel
theorem dX3_fewestRopes_1 : decode cX3_fewestRopes 1 = .ok (.istore_n 2, 1) := by decide +kernel
theorem dX3_fewestRopes_2 : decode cX3_fewestRopes 2 = .ok (.iload_n 2, 1) := by decide +kernel
theorem dX3_fewestRopes_3 : decode cX3_fewestRopes 3 = .ok (.iconst 1, 1) := by decide +kernel
theorem dX3_fewestRopes_4 : decode cX3_fewestRopes 4 = .ok (.aload_n 0, 1) := by decide +kernel
theorem dX3_fewestRopes_5 : decode cX3_fewestRopes 5 = .ok (.getfield 18, 3) := by decide +kernel
theorem dX3_fewestRopes_8 : decode cX3_fewestRopes 8 = .ok (.ishl, 1) := by decide +kernel
theorem dX3_fewestRopes_9 : decode cX3_fewestRopes 9 = .ok (.if_icmp .ge 30, 3) := by decide +kernel
theorem dX3_fewestRopes_12 : decode cX3_fewestRopes 12 = .ok (.iload_n 2, 1) := by decide +kernel
theorem dX3_fewestRopes_13 : decode cX3_fewestRopes 13 = .ok (.aload_n 0, 1) := by decide +kernel
theorem dX3_fewestRopes_14 : decode cX3_fewestRopes 14 = .ok (.getfield 15, 3) := by decide +kernel
theorem dX3_fewestRopes_17 : decode cX3_fewestRopes 17 = .ok (.arraylength, 1) := by decide +kernel
theorem dX3_fewestRopes_18 : decode cX3_fewestRopes 18 = .ok (.if_icmp .ge 21, 3) := by decide +kernel
theorem dX3_fewestRopes_21 : decode cX3_fewestRopes 21 = .ok (.aload_n 0, 1) := by decide +kernel
theorem dX3_fewestRopes_22 : decode cX3_fewestRopes 22 = .ok (.getfield 15, 3) := by decide +kernel
theorem dX3_fewestRopes_25 : decode cX3_fewestRopes 25 = .ok (.iload_n 2, 1) := by decide +kernel
theorem dX3_fewestRopes_26 : decode cX3_fewestRopes 26 = .ok (.aload_n 0, 1) := by decide +kernel
theorem dX3_fewestRopes_27 : decode cX3_fewestRopes 27 = .ok (.iload_n 2, 1) := by decide +kernel
theorem dX3_fewestRopes_28 : decode cX3_fewestRopes 28 = .ok (.iload_n 1, 1) := by decide +kernel
theorem dX3_fewestRopes_29 : decode cX3_fewestRopes 29 = .ok (.invokevirtual 22, 3) := by decide +kernel
theorem dX3_fewestRopes_32 : decode cX3_fewestRopes 32 = .ok (.iastore, 1) := by decide +kernel
theorem dX3_fewestRopes_33 : decode cX3_fewestRopes 33 = .ok (.iinc 2 1, 3) := by decide +kernel
theorem dX3_fewestRopes_36 : decode cX3_fewestRopes 36 = .ok (.goto (-34), 3) := by decide +kernel
theorem dX3_fewestRopes_39 : decode cX3_fewestRopes 39 = .ok (.iconst 1, 1) := by decide +kernel
theorem dX3_fewestRopes_40 : decode cX3_fewestRopes 40 = .ok (.aload_n 0, 1) := by decide +kernel
theorem dX3_fewestRopes_41 : decode cX3_fewestRopes 41 = .ok (.getfield 18, 3) := by decide +kernel
theorem dX3_fewestRopes_44 : decode cX3_fewestRopes 44 = .ok (.ishl, 1) := by decide +kernel
theorem dX3_fewestRopes_45 : decode cX3_fewestRopes 45 = .ok (.iconst 1, 1) := by decide +kernel
theorem dX3_fewestRopes_46 : decode cX3_fewestRopes 46 = .ok (.isub, 1) := by decide +kernel
theorem dX3_fewestRopes_47 : decode cX3_fewestRopes 47 = .ok (.istore_n 2, 1) := by decide +kernel
theorem dX3_fewestRopes_48 : decode cX3_fewestRopes 48 = .ok (.iload_n 2, 1) := by decide +kernel
theorem dX3_fewestRopes_49 : decode cX3_fewestRopes 49 = .ok (.ifCond .lt 12, 3) := by decide +kernel
theorem dX3_fewestRopes_52 : decode cX3_fewestRopes 52 = .ok (.iload_n 2, 1) := by decide +kernel
theorem dX3_fewestRopes_53 : decode cX3_fewestRopes 53 = .ok (.aload_n 0, 1) := by decide +kernel
theorem dX3_fewestRopes_54 : decode cX3_fewestRopes 54 = .ok (.getfield 15, 3) := by decide +kernel
theorem dX3_fewestRopes_57 : decode cX3_fewestRopes 57 = .ok (.arraylength, 1) := by decide +kernel
theorem dX3_fewestRopes_58 : decode cX3_fewestRopes 58 = .ok (.if_icmp .lt 8, 3) := by decide +kernel
theorem dX3_fewestRopes_61 : decode cX3_fewestRopes 61 = .ok (.bipush (-6), 2) := by decide +kernel
theorem dX3_fewestRopes_63 : decode cX3_fewestRopes 63 = .ok (.goto 14, 3) := by decide +kernel
theorem dX3_fewestRopes_66 : decode cX3_fewestRopes 66 = .ok (.aload_n 0, 1) := by decide +kernel
theorem dX3_fewestRopes_67 : decode cX3_fewestRopes 67 = .ok (.getfield 15, 3) := by decide +kernel
theorem dX3_fewestRopes_70 : decode cX3_fewestRopes 70 = .ok (.iload_n 2, 1) := by decide +kernel
theorem dX3_fewestRopes_71 : decode cX3_fewestRopes 71 = .ok (.iaload, 1) := by decide +kernel
theorem dX3_fewestRopes_72 : decode cX3_fewestRopes 72 = .ok (.bipush 64, 2) := by decide +kernel
theorem dX3_fewestRopes_74 : decode cX3_fewestRopes 74 = .ok (.idiv, 1) := by decide +kernel
theorem dX3_fewestRopes_75 : decode cX3_fewestRopes 75 = .ok (.iconst 1, 1) := by decide +kernel
theorem dX3_fewestRopes_76 : decode cX3_fewestRopes 76 = .ok (.iadd, 1) := by decide +kernel
theorem dX3_fewestRopes_77 : decode cX3_fewestRopes 77 = .ok (.ireturn, 1) := by decide +kernel
set_option maxRecDepth 20000 in
theorem ggX3_leastCut_X3_cutFurther : GoodIn wsX3_leastCut wsX3_cutFurther := goodIn_r _ [11] (by decide +kernel) (by decide +kernel)
set_option maxRecDepth 20000 in
theorem gX3_leastCut_X3_cutFurther : GoodIn wsX3_leastCut (va_wsS RX3 26 yX3_cutFurther wsX3_cutFurther) := goodIn_app (goodIn_of _ (by decide +kernel)) ggX3_leastCut_X3_cutFurther
theorem dX3_leastCut_0 : decode cX3_leastCut 0 = .ok (.sipush 576, 3) := by decide +kernel
theorem dX3_leastCut_3 : decode cX3_leastCut 3 = .ok (.istore_n 3, 1) := by decide +kernel
theorem dX3_leastCut_4 : decode cX3_leastCut 4 = .ok (.iconst 0, 1) := by decide +kernel
theorem dX3_leastCut_5 : decode cX3_leastCut 5 = .ok (.istore 4, 2) := by decide +kernel
theorem dX3_leastCut_7 : decode cX3_leastCut 7 = .ok (.iload 4, 2) := by decide +kernel
theorem dX3_leastCut_9 : decode cX3_leastCut 9 = .ok (.aload_n 0, 1) := by decide +kernel
theorem dX3_leastCut_10 : decode cX3_leastCut 10 = .ok (.getfield 18, 3) := by decide +kernel
theorem dX3_leastCut_13 : decode cX3_leastCut 13 = .ok (.if_icmp .ge 73, 3) := by decide +kernel
theorem dX3_leastCut_16 : decode cX3_leastCut 16 = .ok (.iload 4, 2) := by decide +kernel
theorem dX3_leastCut_18 : decode cX3_leastCut 18 = .ok (.aload_n 0, 1) := by decide +kernel
theorem dX3_leastCut_19 : decode cX3_leastCut 19 = .ok (.getfield 11, 3) := by decide +kernel
theorem dX3_leastCut_22 : decode cX3_leastCut 22 = .ok (.arraylength, 1) := by decide +kernel
theorem dX3_leastCut_23 : decode cX3_leastCut 23 = .ok (.if_icmp .ge 63, 3) := by decide +kernel
theorem dX3_leastCut_26 : decode cX3_leastCut 26 = .ok (.iload_n 1, 1) := by decide +kernel
theorem dX3_leastCut_27 : decode cX3_leastCut 27 = .ok (.iconst 1, 1) := by decide +kernel
theorem dX3_leastCut_28 : decode cX3_leastCut 28 = .ok (.iload 4, 2) := by decide +kernel
theorem dX3_leastCut_30 : decode cX3_leastCut 30 = .ok (.ishl, 1) := by decide +kernel
theorem dX3_leastCut_31 : decode cX3_leastCut 31 = .ok (.iconst (-1), 1) := by decide +kernel
theorem dX3_leastCut_32 : decode cX3_leastCut 32 = .ok (.ixor, 1) := by decide +kernel
theorem dX3_leastCut_33 : decode cX3_leastCut 33 = .ok (.iand, 1) := by decide +kernel
theorem dX3_leastCut_34 : decode cX3_leastCut 34 = .ok (.istore 5, 2) := by decide +kernel
theorem dX3_leastCut_36 : decode cX3_leastCut 36 = .ok (.iload 5, 2) := by decide +kernel
theorem dX3_leastCut_38 : decode cX3_leastCut 38 = .ok (.iload_n 1, 1) := by decide +kernel
theorem dX3_leastCut_39 : decode cX3_leastCut 39 = .ok (.if_icmp .eq 41, 3) := by decide +kernel
theorem dX3_leastCut_42 : decode cX3_leastCut 42 = .ok (.iload 5, 2) := by decide +kernel
theorem dX3_leastCut_44 : decode cX3_leastCut 44 = .ok (.ifCond .lt 36, 3) := by decide +kernel
theorem dX3_leastCut_47 : decode cX3_leastCut 47 = .ok (.iload 5, 2) := by decide +kernel
theorem dX3_leastCut_49 : decode cX3_leastCut 49 = .ok (.aload_n 0, 1) := by decide +kernel
theorem dX3_leastCut_50 : decode cX3_leastCut 50 = .ok (.getfield 15, 3) := by decide +kernel
theorem dX3_leastCut_53 : decode cX3_leastCut 53 = .ok (.arraylength, 1) := by decide +kernel
theorem dX3_leastCut_54 : decode cX3_leastCut 54 = .ok (.if_icmp .ge 26, 3) := by decide +kernel
theorem dX3_leastCut_57 : decode cX3_leastCut 57 = .ok (.iload_n 3, 1) := by decide +kernel
theorem dX3_leastCut_58 : decode cX3_leastCut 58 = .ok (.aload_n 0, 1) := by decide +kernel
theorem dX3_leastCut_59 : decode cX3_leastCut 59 = .ok (.getfield 15, 3) := by decide +kernel
theorem dX3_leastCut_62 : decode cX3_leastCut 62 = .ok (.iload 5, 2) := by decide +kernel
theorem dX3_leastCut_64 : decode cX3_leastCut 64 = .ok (.iaload, 1) := by decide +kernel
theorem dX3_leastCut_65 : decode cX3_leastCut 65 = .ok (.aload_n 0, 1) := by decide +kernel
theorem dX3_leastCut_66 : decode cX3_leastCut 66 = .ok (.getfield 11, 3) := by decide +kernel
theorem dX3_leastCut_69 : decode cX3_leastCut 69 = .ok (.iload 4, 2) := by decide +kernel
theorem dX3_leastCut_71 : decode cX3_leastCut 71 = .ok (.iaload, 1) := by decide +kernel
theorem dX3_leastCut_72 : decode cX3_leastCut 72 = .ok (.iload_n 2, 1) := by decide +kernel
theorem dX3_leastCut_73 : decode cX3_leastCut 73 = .ok (.invokestatic 26, 3) := by decide +kernel
theorem dX3_leastCut_76 : decode cX3_leastCut 76 = .ok (.invokestatic 30, 3) := by decide +kernel
theorem dX3_leastCut_79 : decode cX3_leastCut 79 = .ok (.istore_n 3, 1) := by decide +kernel
theorem dX3_leastCut_80 : decode cX3_leastCut 80 = .ok (.iinc 4 1, 3) := by decide +kernel
theorem dX3_leastCut_83 : decode cX3_leastCut 83 = .ok (.goto (-76), 3) := by decide +kernel
theorem dX3_leastCut_86 : decode cX3_leastCut 86 = .ok (.iload_n 3, 1) := by decide +kernel
theorem dX3_leastCut_87 : decode cX3_leastCut 87 = .ok (.ireturn, 1) := by decide +kernel
theorem dX3_cutFurther_0 : decode cX3_cutFurther 0 = .ok (.iload_n 0, 1) := by decide +kernel
theorem dX3_cutFurther_1 : decode cX3_cutFurther 1 = .ok (.bipush 64, 2) := by decide +kernel
theorem dX3_cutFurther_3 : decode cX3_cutFurther 3 = .ok (.irem, 1) := by decide +kernel
theorem dX3_cutFurther_4 : decode cX3_cutFurther 4 = .ok (.iload_n 1, 1) := by decide +kernel
theorem dX3_cutFurther_5 : decode cX3_cutFurther 5 = .ok (.iadd, 1) := by decide +kernel
theorem dX3_cutFurther_6 : decode cX3_cutFurther 6 = .ok (.iload_n 2, 1) := by decide +kernel
theorem dX3_cutFurther_7 : decode cX3_cutFurther 7 = .ok (.if_icmp .gt 9, 3) := by decide +kernel
theorem dX3_cutFurther_10 : decode cX3_cutFurther 10 = .ok (.iload_n 0, 1) := by decide +kernel
theorem dX3_cutFurther_11 : decode cX3_cutFurther 11 = .ok (.iload_n 1, 1) := by decide +kernel
theorem dX3_cutFurther_12 : decode cX3_cutFurther 12 = .ok (.iadd, 1) := by decide +kernel
theorem dX3_cutFurther_13 : decode cX3_cutFurther 13 = .ok (.goto 14, 3) := by decide +kernel
theorem dX3_cutFurther_16 : decode cX3_cutFurther 16 = .ok (.iload_n 0, 1) := by decide +kernel
theorem dX3_cutFurther_17 : decode cX3_cutFurther 17 = .ok (.bipush 64, 2) := by decide +kernel
theorem dX3_cutFurther_19 : decode cX3_cutFurther 19 = .ok (.idiv, 1) := by decide +kernel
theorem dX3_cutFurther_20 : decode cX3_cutFurther 20 = .ok (.iconst 1, 1) := by decide +kernel
theorem dX3_cutFurther_21 : decode cX3_cutFurther 21 = .ok (.iadd, 1) := by decide +kernel
theorem dX3_cutFurther_22 : decode cX3_cutFurther 22 = .ok (.bipush 64, 2) := by decide +kernel
theorem dX3_cutFurther_24 : decode cX3_cutFurther 24 = .ok (.imul, 1) := by decide +kernel
theorem dX3_cutFurther_25 : decode cX3_cutFurther 25 = .ok (.iload_n 1, 1) := by decide +kernel
theorem dX3_cutFurther_26 : decode cX3_cutFurther 26 = .ok (.iadd, 1) := by decide +kernel
theorem dX3_cutFurther_27 : decode cX3_cutFurther 27 = .ok (.ireturn, 1) := by decide +kernel
theorem dX3_mostFromOne_0 : decode cX3_mostFromOne 0 = .ok (.iload_n 1, 1) := by decide +kernel
theorem dX3_mostFromOne_1 : decode cX3_mostFromOne 1 = .ok (.istore_n 2, 1) := by decide +kernel
theorem dX3_mostFromOne_2 : decode cX3_mostFromOne 2 = .ok (.iconst 0, 1) := by decide +kernel
theorem dX3_mostFromOne_3 : decode cX3_mostFromOne 3 = .ok (.istore_n 3, 1) := by decide +kernel
theorem dX3_mostFromOne_4 : decode cX3_mostFromOne 4 = .ok (.iconst 1, 1) := by decide +kernel
theorem dX3_mostFromOne_5 : decode cX3_mostFromOne 5 = .ok (.istore 4, 2) := by decide +kernel
theorem dX3_mostFromOne_7 : decode cX3_mostFromOne 7 = .ok (.iload 4, 2) := by decide +kernel
theorem dX3_mostFromOne_9 : decode cX3_mostFromOne 9 = .ok (.bipush 9, 2) := by decide +kernel
theorem dX3_mostFromOne_11 : decode cX3_mostFromOne 11 = .ok (.if_icmp .gt 63, 3) := by decide +kernel
theorem dX3_mostFromOne_14 : decode cX3_mostFromOne 14 = .ok (.iconst 0, 1) := by decide +kernel
theorem dX3_mostFromOne_15 : decode cX3_mostFromOne 15 = .ok (.istore 5, 2) := by decide +kernel
theorem dX3_mostFromOne_17 : decode cX3_mostFromOne 17 = .ok (.iload 5, 2) := by decide +kernel
theorem dX3_mostFromOne_19 : decode cX3_mostFromOne 19 = .ok (.aload_n 0, 1) := by decide +kernel
theorem dX3_mostFromOne_20 : decode cX3_mostFromOne 20 = .ok (.getfield 18, 3) := by decide +kernel
theorem dX3_mostFromOne_23 : decode cX3_mostFromOne 23 = .ok (.if_icmp .ge 45, 3) := by decide +kernel
theorem dX3_mostFromOne_26 : decode cX3_mostFromOne 26 = .ok (.iload 5, 2) := by decide +kernel
theorem dX3_mostFromOne_28 : decode cX3_mostFromOne 28 = .ok (.aload_n 0, 1) := by decide +kernel
theorem dX3_mostFromOne_29 : decode cX3_mostFromOne 29 = .ok (.getfield 11, 3) := by decide +kernel
theorem dX3_mostFromOne_32 : decode cX3_mostFromOne 32 = .ok (.arraylength, 1) := by decide +kernel
theorem dX3_mostFromOne_33 : decode cX3_mostFromOne 33 = .ok (.if_icmp .ge 35, 3) := by decide +kernel
theorem dX3_mostFromOne_36 : decode cX3_mostFromOne 36 = .ok (.aload_n 0, 1) := by decide +kernel
theorem dX3_mostFromOne_37 : decode cX3_mostFromOne 37 = .ok (.getfield 11, 3) := by decide +kernel
theorem dX3_mostFromOne_40 : decode cX3_mostFromOne 40 = .ok (.iload 5, 2) := by decide +kernel
theorem dX3_mostFromOne_42 : decode cX3_mostFromOne 42 = .ok (.iaload, 1) := by decide +kernel
theorem dX3_mostFromOne_43 : decode cX3_mostFromOne 43 = .ok (.iload 4, 2) := by decide +kernel
theorem dX3_mostFromOne_45 : decode cX3_mostFromOne 45 = .ok (.if_icmp .ne 17, 3) := by decide +kernel
theorem dX3_mostFromOne_48 : decode cX3_mostFromOne 48 = .ok (.iload 4, 2) := by decide +kernel
theorem dX3_mostFromOne_50 : decode cX3_mostFromOne 50 = .ok (.iload_n 2, 1) := by decide +kernel
theorem dX3_mostFromOne_51 : decode cX3_mostFromOne 51 = .ok (.if_icmp .gt 11, 3) := by decide +kernel
theorem dX3_mostFromOne_54 : decode cX3_mostFromOne 54 = .ok (.iload_n 2, 1) := by decide +kernel
theorem dX3_mostFromOne_55 : decode cX3_mostFromOne 55 = .ok (.iload 4, 2) := by decide +kernel
theorem dX3_mostFromOne_57 : decode cX3_mostFromOne 57 = .ok (.isub, 1) := by decide +kernel
theorem dX3_mostFromOne_58 : decode cX3_mostFromOne 58 = .ok (.istore_n 2, 1) := by decide +kernel
theorem dX3_mostFromOne_59 : decode cX3_mostFromOne 59 = .ok (.iinc 3 1, 3) := by decide +kernel
theorem dX3_mostFromOne_62 : decode cX3_mostFromOne 62 = .ok (.iinc 5 1, 3) := by decide +kernel
theorem dX3_mostFromOne_65 : decode cX3_mostFromOne 65 = .ok (.goto (-48), 3) := by decide +kernel
theorem dX3_mostFromOne_68 : decode cX3_mostFromOne 68 = .ok (.iinc 4 1, 3) := by decide +kernel
theorem dX3_mostFromOne_71 : decode cX3_mostFromOne 71 = .ok (.goto (-64), 3) := by decide +kernel
theorem dX3_mostFromOne_74 : decode cX3_mostFromOne 74 = .ok (.iload_n 3, 1) := by decide +kernel
theorem dX3_mostFromOne_75 : decode cX3_mostFromOne 75 = .ok (.ireturn, 1) := by decide +kernel
theorem dX4_init_0 : decode cX4_init 0 = .ok (.aload_n 0, 1) := by decide +kernel
theorem dX4_init_1 : decode cX4_init 1 = .ok (.invokespecial 3, 3) := by decide +kernel
theorem dX4_init_4 : decode cX4_init 4 = .ok (.aload_n 0, 1) := by decide +kernel
theorem dX4_init_5 : decode cX4_init 5 = .ok (.lconst 0, 1) := by decide +kernel
theorem dX4_init_6 : decode cX4_init 6 = .ok (.putfield 9, 3) := by decide +kernel
theorem dX4_init_9 : decode cX4_init 9 = .ok (.aload_n 0, 1) := by decide +kernel
theorem dX4_init_10 : decode cX4_init 10 = .ok (.bipush 27, 2) := by decide +kernel
theorem dX4_init_12 : decode cX4_init 12 = .ok (.putfield 15, 3) := by decide +kernel
theorem dX4_init_15 : decode cX4_init 15 = .ok (.aload_n 0, 1) := by decide +kernel
theorem dX4_init_16 : decode cX4_init 16 = .ok (.iconst 3, 1) := by decide +kernel
theorem dX4_init_17 : decode cX4_init 17 = .ok (.putfield 19, 3) := by decide +kernel
theorem dX4_init_20 : decode cX4_init 20 = .ok (.aload_n 0, 1) := by decide +kernel
theorem dX4_init_21 : decode cX4_init 21 = .ok (.bipush (-6), 2) := by decide +kernel
theorem dX4_init_23 : decode cX4_init 23 = .ok (.putfield 22, 3) := by decide +kernel
theorem dX4_init_26 : decode cX4_init 26 = .ok (.aload_n 0, 1) := by decide +kernel
theorem dX4_init_27 : decode cX4_init 27 = .ok (.iconst 0, 1) := by decide +kernel
theorem dX4_init_28 : decode cX4_init 28 = .ok (.putfield 25, 3) := by decide +kernel
theorem dX4_init_31 : decode cX4_init 31 = .ok (.aload_n 0, 1) := by decide +kernel
theorem dX4_init_32 : decode cX4_init 32 = .ok (.iconst 0, 1) := by decide +kernel
theorem dX4_init_33 : decode cX4_init 33 = .ok (.putfield 28, 3) := by decide +kernel
theorem dX4_init_36 : decode cX4_init 36 = .ok (.aload_n 0, 1) := by decide +kernel
theorem dX4_init_37 : decode cX4_init 37 = .ok (.iconst 0, 1) := by decide +kernel
theorem dX4_init_38 : decode cX4_init 38 = .ok (.putfield 31, 3) := by decide +kernel
theorem dX4_init_41 : decode cX4_init 41 = .ok (.aload_n 0, 1) := by decide +kernel
theorem dX4_init_42 : decode cX4_init 42 = .ok (.iconst 0, 1) := by decide +kernel
theorem dX4_init_43 : decode cX4_init 43 = .ok (.putfield 34, 3) := by decide +kernel
theorem dX4_init_46 : decode cX4_init 46 = .ok (.aload_n 0, 1) := by decide +kernel
theorem dX4_init_47 : decode cX4_init 47 = .ok (.ldc2_w 39, 3) := by decide +kernel
theorem dX4_init_50 : decode cX4_init 50 = .ok (.putfield 41, 3) := by decide +kernel
theorem dX4_init_53 : decode cX4_init 53 = .ok (.aload_n 0, 1) := by decide +kernel
theorem dX4_init_54 : decode cX4_init 54 = .ok (.bipush 6, 2) := by decide +kernel
theorem dX4_init_56 : decode cX4_init 56 = .ok (.newarray .int, 2) := by decide +kernel
theorem dX4_init_58 : decode cX4_init 58 = .ok (.dup, 1) := by decide +kernel
theorem dX4_init_59 : decode cX4_init 59 = .ok (.iconst 0, 1) := by decide +kernel
theorem dX4_init_60 : decode cX4_init 60 = .ok (.iconst 4, 1) := by decide +kernel
theorem dX4_init_61 : decode cX4_init 61 = .ok (.iastore, 1) := by decide +kernel
theorem dX4_init_62 : decode cX4_init 62 = .ok (.dup, 1) := by decide +kernel
theorem dX4_init_63 : decode cX4_init 63 = .ok (.iconst 1, 1) := by decide +kernel
theorem dX4_init_64 : decode cX4_init 64 = .ok (.iconst 4, 1) := by decide +kernel
theorem dX4_init_65 : decode cX4_init 65 = .ok (.iastore, 1) := by decide +kernel
theorem dX4_init_66 : decode cX4_init 66 = .ok (.dup, 1) := by decide +kernel
theorem dX4_init_67 : decode cX4_init 67 = .ok (.iconst 2, 1) := by decide +kernel
theorem dX4_init_68 : decode cX4_init 68 = .ok (.iconst 4, 1) := by decide +kernel
theorem dX4_init_69 : decode cX4_init 69 = .ok (.iastore, 1) := by decide +kernel
theorem dX4_init_70 : decode cX4_init 70 = .ok (.dup, 1) := by decide +kernel
theorem dX4_init_71 : decode cX4_init 71 = .ok (.iconst 3, 1) := by decide +kernel
theorem dX4_init_72 : decode cX4_init 72 = .ok (.iconst 4, 1) := by decide +kernel
theorem dX4_init_73 : decode cX4_init 73 = .ok (.iastore, 1) := by decide +kernel
theorem dX4_init_74 : decode cX4_init 74 = .ok (.dup, 1) := by decide +kernel
theorem dX4_init_75 : decode cX4_init 75 = .ok (.iconst 4, 1) := by decide +kernel
theorem dX4_init_76 : decode cX4_init 76 = .ok (.iconst 4, 1) := by decide +kernel
theorem dX4_init_77 : decode cX4_init 77 = .ok (.iastore, 1) := by decide +kernel
theorem dX4_init_78 : decode cX4_init 78 = .ok (.dup, 1) := by decide +kernel
theorem dX4_init_79 : decode cX4_init 79 = .ok (.iconst 5, 1) := by decide +kernel
theorem dX4_init_80 : decode cX4_init 80 = .ok (.iconst 4, 1) := by decide +kernel
theorem dX4_init_81 : decode cX4_init 81 = .ok (.iastore, 1) := by decide +kernel
theorem dX4_init_82 : decode cX4_init 82 = .ok (.putfield 44, 3) := by decide +kernel
theorem dX4_init_85 : decode cX4_init 85 = .ok (.return_, 1) := by decide +kernel
theorem dX4_takeOver_0 : decode cX4_takeOver 0 = .ok (.aload_n 0, 1) := by decide +kernel
theorem dX4_takeOver_1 : decode cX4_takeOver 1 = .ok (.aload_n 1, 1) := by decide +kernel
theorem dX4_takeOver_2 : decode cX4_takeOver 2 = .ok (.getfield 9, 3) := by decide +kernel
theorem dX4_takeOver_5 : decode cX4_takeOver 5 = .ok (.putfield 9, 3) := by decide +kernel
theorem dX4_takeOver_8 : decode cX4_takeOver 8 = .ok (.aload_n 0, 1) := by decide +kernel
theorem dX4_takeOver_9 : decode cX4_takeOver 9 = .ok (.aload_n 1, 1) := by decide +kernel
theorem dX4_takeOver_10 : decode cX4_takeOver 10 = .ok (.getfield 15, 3) := by decide +kernel
theorem dX4_takeOver_13 : decode cX4_takeOver 13 = .ok (.putfield 15, 3) := by decide +kernel
theorem dX4_takeOver_16 : decode cX4_takeOver 16 = .ok (.aload_n 0, 1) := by decide +kernel
theorem dX4_takeOver_17 : decode cX4_takeOver 17 = .ok (.aload_n 1, 1) := by decide +kernel
theorem dX4_takeOver_18 : decode cX4_takeOver 18 = .ok (.getfield 19, 3) := by decide +kernel
theorem dX4_takeOver_21 : decode cX4_takeOver 21 = .ok (.putfield 19, 3) := by decide +kernel
theorem dX4_takeOver_24 : decode cX4_takeOver 24 = .ok (.aload_n 0, 1) := by decide +kernel
theorem dX4_takeOver_25 : decode cX4_takeOver 25 = .ok (.aload_n 1, 1) := by decide +kernel
theorem dX4_takeOver_26 : decode cX4_takeOver 26 = .ok (.getfield 22, 3) := by decide +kernel
theorem dX4_takeOver_29 : decode cX4_takeOver 29 = .ok (.putfield 22, 3) := by decide +kernel
theorem dX4_takeOver_32 : decode cX4_takeOver 32 = .ok (.aload_n 0, 1) := by decide +kernel
theorem dX4_takeOver_33 : decode cX4_takeOver 33 = .ok (.aload_n 1, 1) := by decide +kernel
theorem dX4_takeOver_34 : decode cX4_takeOver 34 = .ok (.getfield 25, 3) := by decide +kernel
theorem dX4_takeOver_37 : decode cX4_takeOver 37 = .ok (.putfield 25, 3) := by decide +kernel
theorem dX4_takeOver_40 : decode cX4_takeOver 40 = .ok (.aload_n 0, 1) := by decide +kernel
theorem dX4_takeOver_41 : decode cX4_takeOver 41 = .ok (.aload_n 1, 1) := by decide +kernel
theorem dX4_takeOver_42 : decode cX4_takeOver 42 = .ok (.getfield 28, 3) := by decide +kernel
theorem dX4_takeOver_45 : decode cX4_takeOver 45 = .ok (.putfield 28, 3) := by decide +kernel
theorem dX4_takeOver_48 : decode cX4_takeOver 48 = .ok (.aload_n 0, 1) := by decide +kernel
theorem dX4_takeOver_49 : decode cX4_takeOver 49 = .ok (.aload_n 1, 1) := by decide +kernel
theorem dX4_takeOver_50 : decode cX4_takeOver 50 = .ok (.getfield 31, 3) := by decide +kernel
theorem dX4_takeOver_53 : decode cX4_takeOver 53 = .ok (.putfield 31, 3) := by decide +kernel
theorem dX4_takeOver_56 : decode cX4_takeOver 56 = .ok (.aload_n 0, 1) := by decide +kernel
theorem dX4_takeOver_57 : decode cX4_takeOver 57 = .ok (.aload_n 1, 1) := by decide +kernel
theorem dX4_takeOver_58 : decode cX4_takeOver 58 = .ok (.getfield 34, 3) := by decide +kernel
theorem dX4_takeOver_61 : decode cX4_takeOver 61 = .ok (.putfield 34, 3) := by decide +kernel
theorem dX4_takeOver_64 : decode cX4_takeOver 64 = .ok (.aload_n 0, 1) := by decide +kernel
theorem dX4_takeOver_65 : decode cX4_takeOver 65 = .ok (.aload_n 1, 1) := by decide +kernel
theorem dX4_takeOver_66 : decode cX4_takeOver 66 = .ok (.getfield 41, 3) := by decide +kernel
theorem dX4_takeOver_69 : decode cX4_takeOver 69 = .ok (.putfield 41, 3) := by decide +kernel
theorem dX4_takeOver_72 : decode cX4_takeOver 72 = .ok (.iconst 0, 1) := by decide +kernel
theorem dX4_takeOver_73 : decode cX4_takeOver 73 = .ok (.istore_n 2, 1) := by decide +kernel
theorem dX4_takeOver_74 : decode cX4_takeOver 74 = .ok (.iload_n 2, 1) := by decide +kernel
theorem dX4_takeOver_75 : decode cX4_takeOver 75 = .ok (.aload_n 0, 1) := by decide +kernel
theorem dX4_takeOver_76 : decode cX4_takeOver 76 = .ok (.getfield 44, 3) := by decide +kernel
theorem dX4_takeOver_79 : decode cX4_takeOver 79 = .ok (.arraylength, 1) := by decide +kernel
theorem dX4_takeOver_80 : decode cX4_takeOver 80 = .ok (.if_icmp .ge 30, 3) := by decide +kernel
theorem dX4_takeOver_83 : decode cX4_takeOver 83 = .ok (.iload_n 2, 1) := by decide +kernel
theorem dX4_takeOver_84 : decode cX4_takeOver 84 = .ok (.aload_n 1, 1) := by decide +kernel
theorem dX4_takeOver_85 : decode cX4_takeOver 85 = .ok (.getfield 44, 3) := by decide +kernel
theorem dX4_takeOver_88 : decode cX4_takeOver 88 = .ok (.arraylength, 1) := by decide +kernel
theorem dX4_takeOver_89 : decode cX4_takeOver 89 = .ok (.if_icmp .ge 21, 3) := by decide +kernel
theorem dX4_takeOver_92 : decode cX4_takeOver 92 = .ok (.aload_n 0, 1) := by decide +kernel
theorem dX4_takeOver_93 : decode cX4_takeOver 93 = .ok (.getfield 44, 3) := by decide +kernel
theorem dX4_takeOver_96 : decode cX4_takeOver 96 = .ok (.iload_n 2, 1) := by decide +kernel
theorem dX4_takeOver_97 : decode cX4_takeOver 97 = .ok (.aload_n 1, 1) := by decide +kernel
theorem dX4_takeOver_98 : decode cX4_takeOver 98 = .ok (.getfield 44, 3) := by decide +kernel
theorem dX4_takeOver_101 : decode cX4_takeOver 101 = .ok (.iload_n 2, 1) := by decide +kernel
theorem dX4_takeOver_102 : decode cX4_takeOver 102 = .ok (.iaload, 1) := by decide +kernel
theorem dX4_takeOver_103 : decode cX4_takeOver 103 = .ok (.iastore, 1) := by decide +kernel
theorem dX4_takeOver_104 : decode cX4_takeOver 104 = .ok (.iinc 2 1, 3) := by decide +kernel
theorem dX4_takeOver_107 : decode cX4_takeOver 107 = .ok (.goto (-33), 3) := by decide +kernel
theorem dX4_takeOver_110 : decode cX4_takeOver 110 = .ok (.return_, 1) := by decide +kernel
set_option maxRecDepth 20000 in
theorem ggX4_isLand_X0_holds : GoodIn wsX4_isLand wsX0_holds := goodIn_r _ [5] (by decide +kernel) (by decide +kernel)
set_option maxRecDepth 20000 in
theorem gX4_isLand_X0_holds : GoodIn wsX4_isLand (va_wsS RX4 48 yX0_holds wsX0_holds) := goodIn_app (goodIn_of _ (by decide +kernel)) ggX4_isLand_X0_holds
theorem dX4_isLand_0 : decode cX4_isLand 0 = .ok (.aload_n 0, 1) := by decide +kernel
theorem dX4_isLand_1 : decode cX4_isLand 1 = .ok (.getfield 9, 3) := by decide +kernel
theorem dX4_isLand_4 : decode cX4_isLand 4 = .ok (.iload_n 1, 1) := by decide +kernel
theorem dX4_isLand_5 : decode cX4_isLand 5 = .ok (.invokestatic 48, 3) := by decide +kernel
theorem dX4_isLand_8 : decode cX4_isLand 8 = .ok (.ireturn, 1) := by decide +kernel
theorem dX4_isWatcher_0 : decode cX4_isWatcher 0 = .ok (.iload_n 1, 1) := by decide +kernel
theorem dX4_isWatcher_1 : decode cX4_isWatcher 1 = .ok (.ifCond .lt 16, 3) := by decide +kernel
theorem dX4_isWatcher_4 : decode cX4_isWatcher 4 = .ok (.iload_n 1, 1) := by decide +kernel
theorem dX4_isWatcher_5 : decode cX4_isWatcher 5 = .ok (.aload_n 0, 1) := by decide +kernel
theorem dX4_isWatcher_6 : decode cX4_isWatcher 6 = .ok (.getfield 44, 3) := by decide +kernel
theorem dX4_isWatcher_9 : decode cX4_isWatcher 9 = .ok (.arraylength, 1) := by decide +kernel
theorem dX4_isWatcher_10 : decode cX4_isWatcher 10 = .ok (.if_icmp .ge 7, 3) := by decide +kernel
theorem dX4_isWatcher_13 : decode cX4_isWatcher 13 = .ok (.iconst 1, 1) := by decide +kernel
theorem dX4_isWatcher_14 : decode cX4_isWatcher 14 = .ok (.goto 4, 3) := by decide +kernel
theorem dX4_isWatcher_17 : decode cX4_isWatcher 17 = .ok (.iconst 0, 1) := by decide +kernel
theorem dX4_isWatcher_18 : decode cX4_isWatcher 18 = .ok (.ireturn, 1) := by decide +kernel
theorem dX4_eyesOf_0 : decode cX4_eyesOf 0 = .ok (.iload_n 1, 1) := by decide +kernel
theorem dX4_eyesOf_1 : decode cX4_eyesOf 1 = .ok (.ifCond .lt 21, 3) := by decide +kernel
theorem dX4_eyesOf_4 : decode cX4_eyesOf 4 = .ok (.iload_n 1, 1) := by decide +kernel
theorem dX4_eyesOf_5 : decode cX4_eyesOf 5 = .ok (.aload_n 0, 1) := by decide +kernel
theorem dX4_eyesOf_6 : decode cX4_eyesOf 6 = .ok (.getfield 44, 3) := by decide +kernel
theorem dX4_eyesOf_9 : decode cX4_eyesOf 9 = .ok (.arraylength, 1) := by decide +kernel
theorem dX4_eyesOf_10 : decode cX4_eyesOf 10 = .ok (.if_icmp .ge 12, 3) := by decide +kernel
theorem dX4_eyesOf_13 : decode cX4_eyesOf 13 = .ok (.aload_n 0, 1) := by decide +kernel
theorem dX4_eyesOf_14 : decode cX4_eyesOf 14 = .ok (.getfield 44, 3) := by decide +kernel
theorem dX4_eyesOf_17 : decode cX4_eyesOf 17 = .ok (.iload_n 1, 1) := by decide +kernel
theorem dX4_eyesOf_18 : decode cX4_eyesOf 18 = .ok (.iaload, 1) := by decide +kernel
theorem dX4_eyesOf_19 : decode cX4_eyesOf 19 = .ok (.goto 4, 3) := by decide +kernel
theorem dX4_eyesOf_22 : decode cX4_eyesOf 22 = .ok (.iconst 0, 1) := by decide +kernel
theorem dX4_eyesOf_23 : decode cX4_eyesOf 23 = .ok (.ireturn, 1) := by decide +kernel
theorem dX4_giveEyes_0 : decode cX4_giveEyes 0 = .ok (.iload_n 1, 1) := by decide +kernel
theorem dX4_giveEyes_1 : decode cX4_giveEyes 1 = .ok (.ifCond .lt 19, 3) := by decide +kernel
theorem dX4_giveEyes_4 : decode cX4_giveEyes 4 = .ok (.iload_n 1, 1) := by decide +kernel
theorem dX4_giveEyes_5 : decode cX4_giveEyes 5 = .ok (.aload_n 0, 1) := by decide +kernel
theorem dX4_giveEyes_6 : decode cX4_giveEyes 6 = .ok (.getfield 44, 3) := by decide +kernel
theorem dX4_giveEyes_9 : decode cX4_giveEyes 9 = .ok (.arraylength, 1) := by decide +kernel
theorem dX4_giveEyes_10 : decode cX4_giveEyes 10 = .ok (.if_icmp .ge 10, 3) := by decide +kernel
theorem dX4_giveEyes_13 : decode cX4_giveEyes 13 = .ok (.aload_n 0, 1) := by decide +kernel
theorem dX4_giveEyes_14 : decode cX4_giveEyes 14 = .ok (.getfield 44, 3) := by decide +kernel
theorem dX4_giveEyes_17 : decode cX4_giveEyes 17 = .ok (.iload_n 1, 1) := by decide +kernel
theorem dX4_giveEyes_18 : decode cX4_giveEyes 18 = .ok (.iload_n 2, 1) := by decide +kernel
theorem dX4_giveEyes_19 : decode cX4_giveEyes 19 = .ok (.iastore, 1) := by decide +kernel
theorem dX4_giveEyes_20 : decode cX4_giveEyes 20 = .ok (.return_, 1) := by decide +kernel
theorem dX4_glass_0 : decode cX4_glass 0 = .ok (.aload_n 0, 1) := by decide +kernel
theorem dX4_glass_1 : decode cX4_glass 1 = .ok (.getfield 22, 3) := by decide +kernel
theorem dX4_glass_4 : decode cX4_glass 4 = .ok (.ifCond .lt 27, 3) := by decide +kernel
theorem dX4_glass_7 : decode cX4_glass 7 = .ok (.aload_n 0, 1) := by decide +kernel
theorem dX4_glass_8 : decode cX4_glass 8 = .ok (.getfield 22, 3) := by decide +kernel
theorem dX4_glass_11 : decode cX4_glass 11 = .ok (.aload_n 0, 1) := by decide +kernel
theorem dX4_glass_12 : decode cX4_glass 12 = .ok (.getfield 44, 3) := by decide +kernel
theorem dX4_glass_15 : decode cX4_glass 15 = .ok (.arraylength, 1) := by decide +kernel
theorem dX4_glass_16 : decode cX4_glass 16 = .ok (.if_icmp .ge 15, 3) := by decide +kernel
theorem dX4_glass_19 : decode cX4_glass 19 = .ok (.aload_n 0, 1) := by decide +kernel
theorem dX4_glass_20 : decode cX4_glass 20 = .ok (.getfield 44, 3) := by decide +kernel
theorem dX4_glass_23 : decode cX4_glass 23 = .ok (.aload_n 0, 1) := by decide +kernel
theorem dX4_glass_24 : decode cX4_glass 24 = .ok (.getfield 22, 3) := by decide +kernel
theorem dX4_glass_27 : decode cX4_glass 27 = .ok (.iaload, 1) := by decide +kernel
theorem dX4_glass_28 : decode cX4_glass 28 = .ok (.goto 4, 3) := by decide +kernel
theorem dX4_glass_31 : decode cX4_glass 31 = .ok (.iconst 0, 1) := by decide +kernel
theorem dX4_glass_32 : decode cX4_glass 32 = .ok (.istore_n 1, 1) := by decide +kernel
theorem dX4_glass_33 : decode cX4_glass 33 = .ok (.iconst 0, 1) := by decide +kernel
theorem dX4_glass_34 : decode cX4_glass 34 = .ok (.iload_n 1, 1) := by decide +kernel
theorem dX4_glass_35 : decode cX4_glass 35 = .ok (.aload_n 0, 1) := by decide +kernel
theorem dX4_glass_36 : decode cX4_glass 36 = .ok (.getfield 28, 3) := by decide +kernel
theorem dX4_glass_39 : decode cX4_glass 39 = .ok (.isub, 1) := by decide +kernel
theorem dX4_glass_40 : decode cX4_glass 40 = .ok (.invokestatic 52, 3) := by decide +kernel
theorem dX4_glass_43 : decode cX4_glass 43 = .ok (.istore_n 2, 1) := by decide +kernel
theorem dX4_glass_44 : decode cX4_glass 44 = .ok (.aload_n 0, 1) := by decide +kernel
theorem dX4_glass_45 : decode cX4_glass 45 = .ok (.getfield 25, 3) := by decide +kernel
theorem dX4_glass_48 : decode cX4_glass 48 = .ok (.iconst 2, 1) := by decide +kernel
theorem dX4_glass_49 : decode cX4_glass 49 = .ok (.if_icmp .le 9, 3) := by decide +kernel
theorem dX4_glass_52 : decode cX4_glass 52 = .ok (.iload_n 2, 1) := by decide +kernel
theorem dX4_glass_53 : decode cX4_glass 53 = .ok (.iconst 2, 1) := by decide +kernel
theorem dX4_glass_54 : decode cX4_glass 54 = .ok (.idiv, 1) := by decide +kernel
theorem dX4_glass_55 : decode cX4_glass 55 = .ok (.goto 4, 3) := by decide +kernel
theorem dX4_glass_58 : decode cX4_glass 58 = .ok (.iload_n 2, 1) := by decide +kernel
theorem dX4_glass_59 : decode cX4_glass 59 = .ok (.ireturn, 1) := by decide +kernel
set_option maxRecDepth 20000 in
theorem ggX4_sighted_X4_glass : GoodIn wsX4_sighted wsX4_glass := goodIn_r _ [8, 1, 9, 10, 11, 12, 13, 14, 15, 27, 28, 29, 30, 31, 32, 33, 34, 35, 36] (by decide +kernel) (by decide +kernel)
set_option maxRecDepth 20000 in
theorem gX4_sighted_X4_glass : GoodIn wsX4_sighted (wsV RX4 58 RX4 yX4_glass wsX4_glass) := goodIn_app (goodIn_of _ (by decide +kernel)) ggX4_sighted_X4_glass
set_option maxRecDepth 20000 in
theorem ggX4_sighted_X0_around : GoodIn wsX4_sighted wsX0_around := goodIn_r _ [19, 20, 12, 13, 14, 21, 22, 23, 24, 25, 26] (by decide +kernel) (by decide +kernel)
set_option maxRecDepth 20000 in
theorem gX4_sighted_X0_around : GoodIn wsX4_sighted (va_wsS RX4 62 yX0_around wsX0_around) := goodIn_app (goodIn_of _ (by decide +kernel)) ggX4_sighted_X0_around
theorem dX4_sighted_0 : decode cX4_sighted 0 = .ok (.aload_n 0, 1) := by decide +kernel
theorem dX4_sighted_1 : decode cX4_sighted 1 = .ok (.getfield 22, 3) := by decide +kernel
theorem dX4_sighted_4 : decode cX4_sighted 4 = .ok (.bipush (-6), 2) := by decide +kernel
theorem dX4_sighted_6 : decode cX4_sighted 6 = .ok (.if_icmp .ne 7, 3) := by decide +kernel
theorem dX4_sighted_9 : decode cX4_sighted 9 = .ok (.lconst 0, 1) := by decide +kernel
theorem dX4_sighted_10 : decode cX4_sighted 10 = .ok (.goto 19, 3) := by decide +kernel
theorem dX4_sighted_13 : decode cX4_sighted 13 = .ok (.aload_n 0, 1) := by decide +kernel
theorem dX4_sighted_14 : decode cX4_sighted 14 = .ok (.getfield 9, 3) := by decide +kernel
theorem dX4_sighted_17 : decode cX4_sighted 17 = .ok (.aload_n 0, 1) := by decide +kernel
theorem dX4_sighted_18 : decode cX4_sighted 18 = .ok (.getfield 15, 3) := by decide +kernel
theorem dX4_sighted_21 : decode cX4_sighted 21 = .ok (.aload_n 0, 1) := by decide +kernel
theorem dX4_sighted_22 : decode cX4_sighted 22 = .ok (.invokevirtual 58, 3) := by decide +kernel
theorem dX4_sighted_25 : decode cX4_sighted 25 = .ok (.invokestatic 62, 3) := by decide +kernel
theorem dX4_sighted_28 : decode cX4_sighted 28 = .ok (.land, 1) := by decide +kernel
theorem dX4_sighted_29 : decode cX4_sighted 29 = .ok (.lreturn, 1) := by decide +kernel
set_option maxRecDepth 20000 in
theorem ggX4_nearestFar_X4_sighted : GoodIn wsX4_nearestFar wsX4_sighted := goodIn_r _ [6, 7, 8, 1, 9, 10, 11, 5, 12, 13, 14, 15, 16, 17, 18, 19, 20, 21, 22, 23, 24, 25, 26, 27, 28, 29, 30, 31, 32, 33, 34, 35, 36, 37, 38, 39, 40] (by decide +kernel) (by decide +kernel)
set_option maxRecDepth 20000 in
theorem gX4_nearestFar_X4_sighted : GoodIn wsX4_nearestFar (wsV RX4 66 RX4 yX4_sighted wsX4_sighted) := goodIn_app (goodIn_of _ (by decide +kernel)) ggX4_nearestFar_X4_sighted
set_option maxRecDepth 20000 in
theorem ggX4_nearestFar_X0_around : GoodIn wsX4_nearestFar wsX0_around := goodIn_r _ [23, 24, 16, 17, 18, 25, 26, 27, 28, 29, 30] (by decide +kernel) (by decide +kernel)
set_option maxRecDepth 20000 in
theorem gX4_nearestFar_X0_around : GoodIn wsX4_nearestFar (va_wsS RX4 62 yX0_around wsX0_around) := goodIn_app (goodIn_of _ (by decide +kernel)) ggX4_nearestFar_X0_around
theorem dX4_nearestFar_0 : decode cX4_nearestFar 0 = .ok (.aload_n 0, 1) := by decide +kernel
theorem dX4_nearestFar_1 : decode cX4_nearestFar 1 = .ok (.invokevirtual 66, 3) := by decide +kernel
theorem dX4_nearestFar_4 : decode cX4_nearestFar 4 = .ok (.lstore_n 1, 1) := by decide +kernel
theorem dX4_nearestFar_5 : decode cX4_nearestFar 5 = .ok (.iconst 1, 1) := by decide +kernel
theorem dX4_nearestFar_6 : decode cX4_nearestFar 6 = .ok (.istore_n 3, 1) := by decide +kernel
theorem dX4_nearestFar_7 : decode cX4_nearestFar 7 = .ok (.iload_n 3, 1) := by decide +kernel
theorem dX4_nearestFar_8 : decode cX4_nearestFar 8 = .ok (.bipush 8, 2) := by decide +kernel
theorem dX4_nearestFar_10 : decode cX4_nearestFar 10 = .ok (.if_icmp .ge 26, 3) := by decide +kernel
theorem dX4_nearestFar_13 : decode cX4_nearestFar 13 = .ok (.lload_n 1, 1) := by decide +kernel
theorem dX4_nearestFar_14 : decode cX4_nearestFar 14 = .ok (.aload_n 0, 1) := by decide +kernel
theorem dX4_nearestFar_15 : decode cX4_nearestFar 15 = .ok (.getfield 15, 3) := by decide +kernel
theorem dX4_nearestFar_18 : decode cX4_nearestFar 18 = .ok (.iload_n 3, 1) := by decide +kernel
theorem dX4_nearestFar_19 : decode cX4_nearestFar 19 = .ok (.invokestatic 62, 3) := by decide +kernel
theorem dX4_nearestFar_22 : decode cX4_nearestFar 22 = .ok (.land, 1) := by decide +kernel
theorem dX4_nearestFar_23 : decode cX4_nearestFar 23 = .ok (.lconst 0, 1) := by decide +kernel
theorem dX4_nearestFar_24 : decode cX4_nearestFar 24 = .ok (.lcmp, 1) := by decide +kernel
theorem dX4_nearestFar_25 : decode cX4_nearestFar 25 = .ok (.ifCond .eq 5, 3) := by decide +kernel
theorem dX4_nearestFar_28 : decode cX4_nearestFar 28 = .ok (.iload_n 3, 1) := by decide +kernel
theorem dX4_nearestFar_29 : decode cX4_nearestFar 29 = .ok (.ireturn, 1) := by decide +kernel
theorem dX4_nearestFar_30 : decode cX4_nearestFar 30 = .ok (.iinc 3 1, 3) := by decide +kernel
theorem dX4_nearestFar_33 : decode cX4_nearestFar 33 = .ok (.goto (-26), 3) := by decide +kernel
theorem dX4_nearestFar_36 : decode cX4_nearestFar 36 = .ok (.bipush (-6), 2) := by decide +kernel
theorem dX4_nearestFar_38 : decode cX4_nearestFar 38 = .ok (.ireturn, 1) := by decide +kernel
set_option maxRecDepth 20000 in
theorem ggX4_nearestLand_X4_nearestFar : GoodIn wsX4_nearestLand wsX4_nearestFar := goodIn_r _ [6, 1, 7, 8, 9, 5, 10, 11, 12, 13, 14, 15, 16, 17, 18, 19, 20, 21, 22, 23, 24, 25, 26, 27, 28, 29, 30, 31, 32, 33, 34, 45, 46, 47, 48, 49, 50, 51, 52, 53, 54] (by decide +kernel) (by decide +kernel)
set_option maxRecDepth 20000 in
theorem gX4_nearestLand_X4_nearestFar : GoodIn wsX4_nearestLand (wsV RX4 70 RX4 yX4_nearestFar wsX4_nearestFar) := goodIn_app (goodIn_of _ (by decide +kernel)) ggX4_nearestLand_X4_nearestFar
set_option maxRecDepth 20000 in
theorem ggX4_nearestLand_X4_sighted : GoodIn wsX4_nearestLand wsX4_sighted := goodIn_r _ [10, 11, 12, 1, 13, 14, 15, 5, 16, 17, 18, 19, 20, 21, 22, 23, 24, 25, 26, 27, 28, 29, 30, 31, 32, 33, 34, 45, 46, 47, 48, 49, 50, 51, 52, 53, 54] (by decide +kernel) (by decide +kernel)
set_option maxRecDepth 20000 in
theorem gX4_nearestLand_X4_sighted : GoodIn wsX4_nearestLand (wsV RX4 66 RX4 yX4_sighted wsX4_sighted) := goodIn_app (goodIn_of _ (by decide +kernel)) ggX4_nearestLand_X4_sighted
set_option maxRecDepth 20000 in
theorem ggX4_nearestLand_X0_around : GoodIn wsX4_nearestLand wsX0_around := goodIn_r _ [27, 28, 20, 21, 22, 29, 30, 31, 32, 33, 34] (by decide +kernel) (by decide +kernel)
set_option maxRecDepth 20000 in
theorem gX4_nearestLand_X0_around : GoodIn wsX4_nearestLand (va_wsS RX4 62 yX0_around wsX0_around) := goodIn_app (goodIn_of _ (by decide +kernel)) ggX4_nearestLand_X0_around
set_option maxRecDepth 20000 in
theorem ggX4_nearestLand_X0_least : GoodIn wsX4_nearestLand wsX0_least := goodIn_r _ [37, 38, 39, 40, 41, 42, 43, 44] (by decide +kernel) (by decide +kernel)
set_option maxRecDepth 20000 in
theorem gX4_nearestLand_X0_least : GoodIn wsX4_nearestLand (va_wsS RX4 73 yX0_least wsX0_least) := goodIn_app (goodIn_of _ (by decide +kernel)) ggX4_nearestLand_X0_least
theorem dX4_nearestLand_0 : decode cX4_nearestLand 0 = .ok (.aload_n 0, 1) := by decide +kernel
theorem dX4_nearestLand_1 : decode cX4_nearestLand 1 = .ok (.invokevirtual 70, 3) := by decide +kernel
theorem dX4_nearestLand_4 : decode cX4_nearestLand 4 = .ok (.istore_n 1, 1) := by decide +kernel
theorem dX4_nearestLand_5 : decode cX4_nearestLand 5 = .ok (.iload_n 1, 1) := by decide +kernel
theorem dX4_nearestLand_6 : decode cX4_nearestLand 6 = .ok (.bipush (-6), 2) := by decide +kernel
theorem dX4_nearestLand_8 : decode cX4_nearestLand 8 = .ok (.if_icmp .ne 8, 3) := by decide +kernel
theorem dX4_nearestLand_11 : decode cX4_nearestLand 11 = .ok (.bipush (-6), 2) := by decide +kernel
theorem dX4_nearestLand_13 : decode cX4_nearestLand 13 = .ok (.goto 19, 3) := by decide +kernel
theorem dX4_nearestLand_16 : decode cX4_nearestLand 16 = .ok (.aload_n 0, 1) := by decide +kernel
theorem dX4_nearestLand_17 : decode cX4_nearestLand 17 = .ok (.invokevirtual 66, 3) := by decide +kernel
theorem dX4_nearestLand_20 : decode cX4_nearestLand 20 = .ok (.aload_n 0, 1) := by decide +kernel
theorem dX4_nearestLand_21 : decode cX4_nearestLand 21 = .ok (.getfield 15, 3) := by decide +kernel
theorem dX4_nearestLand_24 : decode cX4_nearestLand 24 = .ok (.iload_n 1, 1) := by decide +kernel
theorem dX4_nearestLand_25 : decode cX4_nearestLand 25 = .ok (.invokestatic 62, 3) := by decide +kernel
theorem dX4_nearestLand_28 : decode cX4_nearestLand 28 = .ok (.land, 1) := by decide +kernel
theorem dX4_nearestLand_29 : decode cX4_nearestLand 29 = .ok (.invokestatic 73, 3) := by decide +kernel
theorem dX4_nearestLand_32 : decode cX4_nearestLand 32 = .ok (.ireturn, 1) := by decide +kernel
set_option maxRecDepth 20000 in
theorem ggX4_reasonAgainst_X4_reasonAgainstSailing : GoodIn wsX4_reasonAgainst wsX4_reasonAgainstSailing := goodIn_r _ [8, 1, 9, 10, 11, 12, 13, 14, 15, 16, 17, 18, 19] (by decide +kernel) (by decide +kernel)
set_option maxRecDepth 20000 in
theorem gX4_reasonAgainst_X4_reasonAgainstSailing : GoodIn wsX4_reasonAgainst (wsV RX4 77 RX4 yX4_reasonAgainstSailing wsX4_reasonAgainstSailing) := goodIn_app (goodIn_of _ (by decide +kernel)) ggX4_reasonAgainst_X4_reasonAgainstSailing
theorem dX4_reasonAgainst_0 : decode cX4_reasonAgainst 0 = .ok (.iload_n 1, 1) := by decide +kernel
theorem dX4_reasonAgainst_1 : decode cX4_reasonAgainst 1 = .ok (.tableswitch 102 0 4 #[35, 50, 65, 71, 86], 35) := by decide +kernel
theorem dX4_reasonAgainst_36 : decode cX4_reasonAgainst 36 = .ok (.aload_n 0, 1) := by decide +kernel
theorem dX4_reasonAgainst_37 : decode cX4_reasonAgainst 37 = .ok (.getfield 22, 3) := by decide +kernel
theorem dX4_reasonAgainst_40 : decode cX4_reasonAgainst 40 = .ok (.iload_n 2, 1) := by decide +kernel
theorem dX4_reasonAgainst_41 : decode cX4_reasonAgainst 41 = .ok (.if_icmp .ne 7, 3) := by decide +kernel
theorem dX4_reasonAgainst_44 : decode cX4_reasonAgainst 44 = .ok (.iconst 1, 1) := by decide +kernel
theorem dX4_reasonAgainst_45 : decode cX4_reasonAgainst 45 = .ok (.goto 5, 3) := by decide +kernel
theorem dX4_reasonAgainst_48 : decode cX4_reasonAgainst 48 = .ok (.bipush (-6), 2) := by decide +kernel
theorem dX4_reasonAgainst_50 : decode cX4_reasonAgainst 50 = .ok (.ireturn, 1) := by decide +kernel
theorem dX4_reasonAgainst_51 : decode cX4_reasonAgainst 51 = .ok (.aload_n 0, 1) := by decide +kernel
theorem dX4_reasonAgainst_52 : decode cX4_reasonAgainst 52 = .ok (.getfield 22, 3) := by decide +kernel
theorem dX4_reasonAgainst_55 : decode cX4_reasonAgainst 55 = .ok (.iload_n 2, 1) := by decide +kernel
theorem dX4_reasonAgainst_56 : decode cX4_reasonAgainst 56 = .ok (.if_icmp .ne 8, 3) := by decide +kernel
theorem dX4_reasonAgainst_59 : decode cX4_reasonAgainst 59 = .ok (.bipush (-6), 2) := by decide +kernel
theorem dX4_reasonAgainst_61 : decode cX4_reasonAgainst 61 = .ok (.goto 4, 3) := by decide +kernel
theorem dX4_reasonAgainst_64 : decode cX4_reasonAgainst 64 = .ok (.iconst 1, 1) := by decide +kernel
theorem dX4_reasonAgainst_65 : decode cX4_reasonAgainst 65 = .ok (.ireturn, 1) := by decide +kernel
theorem dX4_reasonAgainst_66 : decode cX4_reasonAgainst 66 = .ok (.aload_n 0, 1) := by decide +kernel
theorem dX4_reasonAgainst_67 : decode cX4_reasonAgainst 67 = .ok (.iload_n 3, 1) := by decide +kernel
theorem dX4_reasonAgainst_68 : decode cX4_reasonAgainst 68 = .ok (.invokevirtual 77, 3) := by decide +kernel
theorem dX4_reasonAgainst_71 : decode cX4_reasonAgainst 71 = .ok (.ireturn, 1) := by decide +kernel
theorem dX4_reasonAgainst_72 : decode cX4_reasonAgainst 72 = .ok (.aload_n 0, 1) := by decide +kernel
theorem dX4_reasonAgainst_73 : decode cX4_reasonAgainst 73 = .ok (.getfield 28, 3) := by decide +kernel
theorem dX4_reasonAgainst_76 : decode cX4_reasonAgainst 76 = .ok (.iload_n 2, 1) := by decide +kernel
theorem dX4_reasonAgainst_77 : decode cX4_reasonAgainst 77 = .ok (.if_icmp .ne 7, 3) := by decide +kernel
theorem dX4_reasonAgainst_80 : decode cX4_reasonAgainst 80 = .ok (.iconst 5, 1) := by decide +kernel
theorem dX4_reasonAgainst_81 : decode cX4_reasonAgainst 81 = .ok (.goto 5, 3) := by decide +kernel
theorem dX4_reasonAgainst_84 : decode cX4_reasonAgainst 84 = .ok (.bipush (-6), 2) := by decide +kernel
theorem dX4_reasonAgainst_86 : decode cX4_reasonAgainst 86 = .ok (.ireturn, 1) := by decide +kernel
theorem dX4_reasonAgainst_87 : decode cX4_reasonAgainst 87 = .ok (.aload_n 0, 1) := by decide +kernel
theorem dX4_reasonAgainst_88 : decode cX4_reasonAgainst 88 = .ok (.getfield 22, 3) := by decide +kernel
theorem dX4_reasonAgainst_91 : decode cX4_reasonAgainst 91 = .ok (.bipush (-6), 2) := by decide +kernel
theorem dX4_reasonAgainst_93 : decode cX4_reasonAgainst 93 = .ok (.if_icmp .ne 7, 3) := by decide +kernel
theorem dX4_reasonAgainst_96 : decode cX4_reasonAgainst 96 = .ok (.iconst 2, 1) := by decide +kernel
theorem dX4_reasonAgainst_97 : decode cX4_reasonAgainst 97 = .ok (.goto 5, 3) := by decide +kernel
theorem dX4_reasonAgainst_100 : decode cX4_reasonAgainst 100 = .ok (.bipush (-6), 2) := by decide +kernel
theorem dX4_reasonAgainst_102 : decode cX4_reasonAgainst 102 = .ok (.ireturn, 1) := by decide +kernel
theorem dX4_reasonAgainst_103 : decode cX4_reasonAgainst 103 = .ok (.aload_n 0, 1) := by decide +kernel
theorem dX4_reasonAgainst_104 : decode cX4_reasonAgainst 104 = .ok (.getfield 31, 3) := by decide +kernel
theorem dX4_reasonAgainst_107 : decode cX4_reasonAgainst 107 = .ok (.bipush 99, 2) := by decide +kernel
theorem dX4_reasonAgainst_109 : decode cX4_reasonAgainst 109 = .ok (.if_icmp .lt 8, 3) := by decide +kernel
theorem dX4_reasonAgainst_112 : decode cX4_reasonAgainst 112 = .ok (.bipush 6, 2) := by decide +kernel
theorem dX4_reasonAgainst_114 : decode cX4_reasonAgainst 114 = .ok (.goto 5, 3) := by decide +kernel
theorem dX4_reasonAgainst_117 : decode cX4_reasonAgainst 117 = .ok (.bipush (-6), 2) := by decide +kernel
theorem dX4_reasonAgainst_119 : decode cX4_reasonAgainst 119 = .ok (.ireturn, 1) := by decide +kernel
theorem dX4_reasonAgainstSailing_0 : decode cX4_reasonAgainstSailing 0 = .ok (.aload_n 0, 1) := by decide +kernel
theorem dX4_reasonAgainstSailing_1 : decode cX4_reasonAgainstSailing 1 = .ok (.getfield 22, 3) := by decide +kernel
theorem dX4_reasonAgainstSailing_4 : decode cX4_reasonAgainstSailing 4 = .ok (.bipush (-6), 2) := by decide +kernel
theorem dX4_reasonAgainstSailing_6 : decode cX4_reasonAgainstSailing 6 = .ok (.if_icmp .ne 5, 3) := by decide +kernel
theorem dX4_reasonAgainstSailing_9 : decode cX4_reasonAgainstSailing 9 = .ok (.iconst 2, 1) := by decide +kernel
theorem dX4_reasonAgainstSailing_10 : decode cX4_reasonAgainstSailing 10 = .ok (.ireturn, 1) := by decide +kernel
theorem dX4_reasonAgainstSailing_11 : decode cX4_reasonAgainstSailing 11 = .ok (.aload_n 0, 1) := by decide +kernel
theorem dX4_reasonAgainstSailing_12 : decode cX4_reasonAgainstSailing 12 = .ok (.getfield 19, 3) := by decide +kernel
theorem dX4_reasonAgainstSailing_15 : decode cX4_reasonAgainstSailing 15 = .ok (.ifCond .gt 5, 3) := by decide +kernel
theorem dX4_reasonAgainstSailing_18 : decode cX4_reasonAgainstSailing 18 = .ok (.iconst 3, 1) := by decide +kernel
theorem dX4_reasonAgainstSailing_19 : decode cX4_reasonAgainstSailing 19 = .ok (.ireturn, 1) := by decide +kernel
theorem dX4_reasonAgainstSailing_20 : decode cX4_reasonAgainstSailing 20 = .ok (.iload_n 1, 1) := by decide +kernel
theorem dX4_reasonAgainstSailing_21 : decode cX4_reasonAgainstSailing 21 = .ok (.bipush (-6), 2) := by decide +kernel
theorem dX4_reasonAgainstSailing_23 : decode cX4_reasonAgainstSailing 23 = .ok (.if_icmp .ne 7, 3) := by decide +kernel
theorem dX4_reasonAgainstSailing_26 : decode cX4_reasonAgainstSailing 26 = .ok (.iconst 4, 1) := by decide +kernel
theorem dX4_reasonAgainstSailing_27 : decode cX4_reasonAgainstSailing 27 = .ok (.goto 5, 3) := by decide +kernel
theorem dX4_reasonAgainstSailing_30 : decode cX4_reasonAgainstSailing 30 = .ok (.bipush (-6), 2) := by decide +kernel
theorem dX4_reasonAgainstSailing_32 : decode cX4_reasonAgainstSailing 32 = .ok (.ireturn, 1) := by decide +kernel
set_option maxRecDepth 20000 in
theorem ggX4_perform_X4_goOrStrike : GoodIn wsX4_perform wsX4_goOrStrike := goodIn_r _ [8, 9, 10, 11, 12, 13, 14, 15, 25, 26, 27, 28, 29, 30, 31, 32, 33, 34] (by decide +kernel) (by decide +kernel)
set_option maxRecDepth 20000 in
theorem gX4_perform_X4_goOrStrike : GoodIn wsX4_perform (wsV RX4 81 RX4 yX4_goOrStrike wsX4_goOrStrike) := goodIn_app (goodIn_of _ (by decide +kernel)) ggX4_perform_X4_goOrStrike
set_option maxRecDepth 20000 in
theorem ggX4_perform_X4_passAnHour : GoodIn wsX4_perform wsX4_passAnHour := goodIn_r _ [19, 20, 3, 21, 22, 23, 24, 1, 2, 25, 26, 27, 28, 29, 30, 31, 32, 33, 34] (by decide +kernel) (by decide +kernel)
set_option maxRecDepth 20000 in
theorem gX4_perform_X4_passAnHour : GoodIn wsX4_perform (wsV RX4 85 RX4 yX4_passAnHour wsX4_passAnHour) := goodIn_app (goodIn_of _ (by decide +kernel)) ggX4_perform_X4_passAnHour
theorem dX4_perform_0 : decode cX4_perform 0 = .ok (.iload_n 1, 1) := by decide +kernel
theorem dX4_perform_1 : decode cX4_perform 1 = .ok (.tableswitch 89 0 5 #[39, 52, 66, 74, 89, 82], 39) := by decide +kernel
theorem dX4_perform_40 : decode cX4_perform 40 = .ok (.aload_n 0, 1) := by decide +kernel
theorem dX4_perform_41 : decode cX4_perform 41 = .ok (.iload_n 2, 1) := by decide +kernel
theorem dX4_perform_42 : decode cX4_perform 42 = .ok (.putfield 22, 3) := by decide +kernel
theorem dX4_perform_45 : decode cX4_perform 45 = .ok (.aload_n 0, 1) := by decide +kernel
theorem dX4_perform_46 : decode cX4_perform 46 = .ok (.iconst 0, 1) := by decide +kernel
theorem dX4_perform_47 : decode cX4_perform 47 = .ok (.putfield 25, 3) := by decide +kernel
theorem dX4_perform_50 : decode cX4_perform 50 = .ok (.goto 40, 3) := by decide +kernel
theorem dX4_perform_53 : decode cX4_perform 53 = .ok (.aload_n 0, 1) := by decide +kernel
theorem dX4_perform_54 : decode cX4_perform 54 = .ok (.bipush (-6), 2) := by decide +kernel
theorem dX4_perform_56 : decode cX4_perform 56 = .ok (.putfield 22, 3) := by decide +kernel
theorem dX4_perform_59 : decode cX4_perform 59 = .ok (.aload_n 0, 1) := by decide +kernel
theorem dX4_perform_60 : decode cX4_perform 60 = .ok (.iconst 0, 1) := by decide +kernel
theorem dX4_perform_61 : decode cX4_perform 61 = .ok (.putfield 25, 3) := by decide +kernel
theorem dX4_perform_64 : decode cX4_perform 64 = .ok (.goto 26, 3) := by decide +kernel
theorem dX4_perform_67 : decode cX4_perform 67 = .ok (.aload_n 0, 1) := by decide +kernel
theorem dX4_perform_68 : decode cX4_perform 68 = .ok (.iload_n 3, 1) := by decide +kernel
theorem dX4_perform_69 : decode cX4_perform 69 = .ok (.invokevirtual 81, 3) := by decide +kernel
theorem dX4_perform_72 : decode cX4_perform 72 = .ok (.goto 18, 3) := by decide +kernel
theorem dX4_perform_75 : decode cX4_perform 75 = .ok (.aload_n 0, 1) := by decide +kernel
theorem dX4_perform_76 : decode cX4_perform 76 = .ok (.iload_n 2, 1) := by decide +kernel
theorem dX4_perform_77 : decode cX4_perform 77 = .ok (.putfield 28, 3) := by decide +kernel
theorem dX4_perform_80 : decode cX4_perform 80 = .ok (.goto 10, 3) := by decide +kernel
theorem dX4_perform_83 : decode cX4_perform 83 = .ok (.aload_n 0, 1) := by decide +kernel
theorem dX4_perform_84 : decode cX4_perform 84 = .ok (.invokevirtual 85, 3) := by decide +kernel
theorem dX4_perform_87 : decode cX4_perform 87 = .ok (.goto 3, 3) := by decide +kernel
theorem dX4_perform_90 : decode cX4_perform 90 = .ok (.return_, 1) := by decide +kernel
set_option maxRecDepth 20000 in
theorem ggX4_goOrStrike_X0_holds : GoodIn wsX4_goOrStrike wsX0_holds := goodIn_r _ [7] (by decide +kernel) (by decide +kernel)
set_option maxRecDepth 20000 in
theorem gX4_goOrStrike_X0_holds : GoodIn wsX4_goOrStrike (va_wsS RX4 48 yX0_holds wsX0_holds) := goodIn_app (goodIn_of _ (by decide +kernel)) ggX4_goOrStrike_X0_holds
theorem dX4_goOrStrike_0 : decode cX4_goOrStrike 0 = .ok (.aload_n 0, 1) := by decide +kernel
theorem dX4_goOrStrike_1 : decode cX4_goOrStrike 1 = .ok (.getfield 9, 3) := by decide +kernel
theorem dX4_goOrStrike_4 : decode cX4_goOrStrike 4 = .ok (.iload_n 1, 1) := by decide +kernel
theorem dX4_goOrStrike_5 : decode cX4_goOrStrike 5 = .ok (.invokestatic 48, 3) := by decide +kernel
theorem dX4_goOrStrike_8 : decode cX4_goOrStrike 8 = .ok (.ifCond .eq 16, 3) := by decide +kernel
theorem dX4_goOrStrike_11 : decode cX4_goOrStrike 11 = .ok (.aload_n 0, 1) := by decide +kernel
theorem dX4_goOrStrike_12 : decode cX4_goOrStrike 12 = .ok (.dup, 1) := by decide +kernel
theorem dX4_goOrStrike_13 : decode cX4_goOrStrike 13 = .ok (.getfield 19, 3) := by decide +kernel
theorem dX4_goOrStrike_16 : decode cX4_goOrStrike 16 = .ok (.iconst 1, 1) := by decide +kernel
theorem dX4_goOrStrike_17 : decode cX4_goOrStrike 17 = .ok (.isub, 1) := by decide +kernel
theorem dX4_goOrStrike_18 : decode cX4_goOrStrike 18 = .ok (.putfield 19, 3) := by decide +kernel
theorem dX4_goOrStrike_21 : decode cX4_goOrStrike 21 = .ok (.goto 8, 3) := by decide +kernel
theorem dX4_goOrStrike_24 : decode cX4_goOrStrike 24 = .ok (.aload_n 0, 1) := by decide +kernel
theorem dX4_goOrStrike_25 : decode cX4_goOrStrike 25 = .ok (.iload_n 1, 1) := by decide +kernel
theorem dX4_goOrStrike_26 : decode cX4_goOrStrike 26 = .ok (.putfield 15, 3) := by decide +kernel
theorem dX4_goOrStrike_29 : decode cX4_goOrStrike 29 = .ok (.return_, 1) := by decide +kernel
theorem dX4_passAnHour_0 : decode cX4_passAnHour 0 = .ok (.aload_n 0, 1) := by decide +kernel
theorem dX4_passAnHour_1 : decode cX4_passAnHour 1 = .ok (.dup, 1) := by decide +kernel
theorem dX4_passAnHour_2 : decode cX4_passAnHour 2 = .ok (.getfield 31, 3) := by decide +kernel
theorem dX4_passAnHour_5 : decode cX4_passAnHour 5 = .ok (.iconst 1, 1) := by decide +kernel
theorem dX4_passAnHour_6 : decode cX4_passAnHour 6 = .ok (.iadd, 1) := by decide +kernel
theorem dX4_passAnHour_7 : decode cX4_passAnHour 7 = .ok (.putfield 31, 3) := by decide +kernel
theorem dX4_passAnHour_10 : decode cX4_passAnHour 10 = .ok (.aload_n 0, 1) := by decide +kernel
theorem dX4_passAnHour_11 : decode cX4_passAnHour 11 = .ok (.iconst 0, 1) := by decide +kernel
theorem dX4_passAnHour_12 : decode cX4_passAnHour 12 = .ok (.aload_n 0, 1) := by decide +kernel
theorem dX4_passAnHour_13 : decode cX4_passAnHour 13 = .ok (.getfield 28, 3) := by decide +kernel
theorem dX4_passAnHour_16 : decode cX4_passAnHour 16 = .ok (.iconst 1, 1) := by decide +kernel
theorem dX4_passAnHour_17 : decode cX4_passAnHour 17 = .ok (.isub, 1) := by decide +kernel
theorem dX4_passAnHour_18 : decode cX4_passAnHour 18 = .ok (.invokestatic 52, 3) := by decide +kernel
theorem dX4_passAnHour_21 : decode cX4_passAnHour 21 = .ok (.putfield 28, 3) := by decide +kernel
theorem dX4_passAnHour_24 : decode cX4_passAnHour 24 = .ok (.aload_n 0, 1) := by decide +kernel
theorem dX4_passAnHour_25 : decode cX4_passAnHour 25 = .ok (.getfield 22, 3) := by decide +kernel
theorem dX4_passAnHour_28 : decode cX4_passAnHour 28 = .ok (.bipush (-6), 2) := by decide +kernel
theorem dX4_passAnHour_30 : decode cX4_passAnHour 30 = .ok (.if_icmp .eq 13, 3) := by decide +kernel
theorem dX4_passAnHour_33 : decode cX4_passAnHour 33 = .ok (.aload_n 0, 1) := by decide +kernel
theorem dX4_passAnHour_34 : decode cX4_passAnHour 34 = .ok (.dup, 1) := by decide +kernel
theorem dX4_passAnHour_35 : decode cX4_passAnHour 35 = .ok (.getfield 25, 3) := by decide +kernel
theorem dX4_passAnHour_38 : decode cX4_passAnHour 38 = .ok (.iconst 1, 1) := by decide +kernel
theorem dX4_passAnHour_39 : decode cX4_passAnHour 39 = .ok (.iadd, 1) := by decide +kernel
theorem dX4_passAnHour_40 : decode cX4_passAnHour 40 = .ok (.putfield 25, 3) := by decide +kernel
theorem dX4_passAnHour_43 : decode cX4_passAnHour 43 = .ok (.return_, 1) := by decide +kernel
set_option maxRecDepth 20000 in
theorem ggX5_init_X4_init : GoodIn wsX5_init wsX4_init := goodIn_r _ [9, 10, 2, 3, 11, 12, 13, 14, 15, 16, 17, 18, 19, 20, 21, 22, 23, 24, 25, 26, 27, 28, 29, 30, 31, 32] (by decide +kernel) (by decide +kernel)
set_option maxRecDepth 20000 in
theorem gX5_init_X4_init_n11 : GoodIn wsX5_init (wsX4_init) := ggX5_init_X4_init
theorem dX5_init_0 : decode cX5_init 0 = .ok (.aload_n 0, 1) := by decide +kernel
theorem dX5_init_1 : decode cX5_init 1 = .ok (.invokespecial 3, 3) := by decide +kernel
theorem dX5_init_4 : decode cX5_init 4 = .ok (.aload_n 0, 1) := by decide +kernel
theorem dX5_init_5 : decode cX5_init 5 = .ok (.new 9, 3) := by decide +kernel
theorem dX5_init_8 : decode cX5_init 8 = .ok (.dup, 1) := by decide +kernel
theorem dX5_init_9 : decode cX5_init 9 = .ok (.invokespecial 11, 3) := by decide +kernel
theorem dX5_init_12 : decode cX5_init 12 = .ok (.putfield 12, 3) := by decide +kernel
theorem dX5_init_15 : decode cX5_init 15 = .ok (.return_, 1) := by decide +kernel
set_option maxRecDepth 20000 in
theorem ggX5_setOut_X4_takeOver : GoodIn wsX5_setOut wsX4_takeOver := goodIn_r _ [13, 14, 15, 16, 17, 18, 19, 20, 21, 22, 23, 32, 33, 34, 35, 36, 37, 38, 39, 40, 41] (by decide +kernel) (by decide +kernel)
set_option maxRecDepth 20000 in
theorem gX5_setOut_X4_takeOver : GoodIn wsX5_setOut (wsV RX5 18 RX4 yX4_takeOver wsX4_takeOver) := goodIn_app (goodIn_of _ (by decide +kernel)) ggX5_setOut_X4_takeOver
theorem dX5_setOut_0 : decode cX5_setOut 0 = .ok (.aload_n 0, 1) := by decide +kernel
theorem dX5_setOut_1 : decode cX5_setOut 1 = .ok (.getfield 12, 3) := by decide +kernel
theorem dX5_setOut_4 : decode cX5_setOut 4 = .ok (.aload_n 1, 1) := by decide +kernel
theorem dX5_setOut_5 : decode cX5_setOut 5 = .ok (.invokevirtual 18, 3) := by decide +kernel
theorem dX5_setOut_8 : decode cX5_setOut 8 = .ok (.aload_n 0, 1) := by decide +kernel
theorem dX5_setOut_9 : decode cX5_setOut 9 = .ok (.iconst 0, 1) := by decide +kernel
theorem dX5_setOut_10 : decode cX5_setOut 10 = .ok (.putfield 22, 3) := by decide +kernel
theorem dX5_setOut_13 : decode cX5_setOut 13 = .ok (.aload_n 0, 1) := by decide +kernel
theorem dX5_setOut_14 : decode cX5_setOut 14 = .ok (.bipush (-6), 2) := by decide +kernel
theorem dX5_setOut_16 : decode cX5_setOut 16 = .ok (.putfield 26, 3) := by decide +kernel
theorem dX5_setOut_19 : decode cX5_setOut 19 = .ok (.aload_n 0, 1) := by decide +kernel
theorem dX5_setOut_20 : decode cX5_setOut 20 = .ok (.bipush (-6), 2) := by decide +kernel
theorem dX5_setOut_22 : decode cX5_setOut 22 = .ok (.putfield 29, 3) := by decide +kernel
theorem dX5_setOut_25 : decode cX5_setOut 25 = .ok (.aload_n 0, 1) := by decide +kernel
theorem dX5_setOut_26 : decode cX5_setOut 26 = .ok (.iconst 0, 1) := by decide +kernel
theorem dX5_setOut_27 : decode cX5_setOut 27 = .ok (.putfield 32, 3) := by decide +kernel
theorem dX5_setOut_30 : decode cX5_setOut 30 = .ok (.aload_n 0, 1) := by decide +kernel
theorem dX5_setOut_31 : decode cX5_setOut 31 = .ok (.iconst 0, 1) := by decide +kernel
theorem dX5_setOut_32 : decode cX5_setOut 32 = .ok (.putfield 35, 3) := by decide +kernel
theorem dX5_setOut_35 : decode cX5_setOut 35 = .ok (.aload_n 0, 1) := by decide +kernel
theorem dX5_setOut_36 : decode cX5_setOut 36 = .ok (.iconst 0, 1) := by decide +kernel
theorem dX5_setOut_37 : decode cX5_setOut 37 = .ok (.putfield 38, 3) := by decide +kernel
theorem dX5_setOut_40 : decode cX5_setOut 40 = .ok (.aload_n 0, 1) := by decide +kernel
theorem dX5_setOut_41 : decode cX5_setOut 41 = .ok (.bipush (-6), 2) := by decide +kernel
theorem dX5_setOut_43 : decode cX5_setOut 43 = .ok (.putfield 41, 3) := by decide +kernel
theorem dX5_setOut_46 : decode cX5_setOut 46 = .ok (.return_, 1) := by decide +kernel
set_option maxRecDepth 20000 in
theorem ggX5_sailByText_X5_setOut : GoodIn wsX5_sailByText wsX5_setOut := goodIn_r _ [9, 10, 3, 4, 2, 11, 12, 13, 14, 15, 16, 17, 18, 19, 20, 21, 22, 23, 24, 25, 26, 27, 28, 29, 126, 127, 128, 129, 130, 131, 132, 133, 134, 135, 136, 137, 138, 139, 140, 141, 142, 143] (by decide +kernel) (by decide +kernel)
set_option maxRecDepth 20000 in
theorem gX5_sailByText_X5_setOut : GoodIn wsX5_sailByText (wsV RX5 44 RX5 yX5_setOut wsX5_setOut) := goodIn_app (goodIn_of _ (by decide +kernel)) ggX5_sailByText_X5_setOut
set_option maxRecDepth 20000 in
theorem ggX5_sailByText_X2_actAt : GoodIn wsX5_sailByText wsX2_actAt := goodIn_r _ [34, 35, 36, 37, 33, 38, 39, 40, 41, 42, 43, 44, 45, 46, 124, 125] (by decide +kernel) (by decide +kernel)
set_option maxRecDepth 20000 in
theorem gX5_sailByText_X2_actAt : GoodIn wsX5_sailByText (wsV RX5 52 RX2 yX2_actAt wsX2_actAt) := goodIn_app (goodIn_of _ (by decide +kernel)) ggX5_sailByText_X2_actAt
set_option maxRecDepth 20000 in
theorem ggX5_sailByText_X2_withAt : GoodIn wsX5_sailByText wsX2_withAt := goodIn_r _ [50, 35, 36, 37, 33, 38, 39, 40, 41, 42, 43, 124, 125] (by decide +kernel) (by decide +kernel)
set_option maxRecDepth 20000 in
theorem gX5_sailByText_X2_withAt : GoodIn wsX5_sailByText (wsV RX5 56 RX2 yX2_withAt wsX2_withAt) := goodIn_app (goodIn_of _ (by decide +kernel)) ggX5_sailByText_X2_withAt
set_option maxRecDepth 20000 in
theorem ggX5_sailByText_X5_tryAct : GoodIn wsX5_sailByText wsX5_tryAct := goodIn_r _ [54, 10, 55, 11, 3, 56, 57, 58, 59, 60, 61, 62, 63, 64, 65, 66, 67, 68, 69, 70, 18, 71, 23, 25, 26, 72, 73, 74, 75, 22, 76, 77, 78, 79, 20, 21, 80, 81, 82, 83, 29, 84, 85, 86, 87, 24, 88, 89, 90, 91, 92, 93, 94, 95, 96, 97, 98, 99, 100, 8, 101, 12, 13, 14, 102, 103, 104, 105, 106, 107, 108, 109, 110, 111, 112, 113, 114, 115, 116, 117, 118, 119, 120, 126, 127, 128, 129, 130, 131, 132, 133, 134, 135, 136, 137, 138, 139, 140, 141, 142, 143] (by decide +kernel) (by decide +kernel)
set_option maxRecDepth 20000 in
theorem gX5_sailByText_X5_tryAct : GoodIn wsX5_sailByText (wsV RX5 59 RX5 yX5_tryAct wsX5_tryAct) := goodIn_app (goodIn_of _ (by decide +kernel)) ggX5_sailByText_X5_tryAct
set_option maxRecDepth 20000 in
theorem ggX5_sailByText_X2_signsOf : GoodIn wsX5_sailByText wsX2_signsOf := goodIn_r _ [123] (by decide +kernel) (by decide +kernel)
set_option maxRecDepth 20000 in
theorem gX5_sailByText_X2_signsOf : GoodIn wsX5_sailByText (va_wsS RX5 63 yX2_signsOf wsX2_signsOf) := goodIn_app (goodIn_of _ (by decide +kernel)) ggX5_sailByText_X2_signsOf
theorem dX5_sailByText_0 : decode cX5_sailByText 0 = .ok (.aload_n 0, 1) := by decide +kernel
theorem dX5_sailByText_1 : decode cX5_sailByText 1 = .ok (.aload_n 1, 1) := by decide +kernel
theorem dX5_sailByText_2 : decode cX5_sailByText 2 = .ok (.invokevirtual 44, 3) := by decide +kernel
theorem dX5_sailByText_5 : decode cX5_sailByText 5 = .ok (.iconst 0, 1) := by decide +kernel
theorem dX5_sailByText_6 : decode cX5_sailByText 6 = .ok (.istore_n 3, 1) := by decide +kernel
theorem dX5_sailByText_7 : decode cX5_sailByText 7 = .ok (.iconst 0, 1) := by decide +kernel
theorem dX5_sailByText_8 : decode cX5_sailByText 8 = .ok (.istore 4, 2) := by decide +kernel
theorem dX5_sailByText_10 : decode cX5_sailByText 10 = .ok (.iload 4, 2) := by decide +kernel
theorem dX5_sailByText_12 : decode cX5_sailByText 12 = .ok (.aload_n 2, 1) := by decide +kernel
theorem dX5_sailByText_13 : decode cX5_sailByText 13 = .ok (.getfield 47, 3) := by decide +kernel
theorem dX5_sailByText_16 : decode cX5_sailByText 16 = .ok (.if_icmp .ge 65, 3) := by decide +kernel
theorem dX5_sailByText_19 : decode cX5_sailByText 19 = .ok (.iload_n 3, 1) := by decide +kernel
theorem dX5_sailByText_20 : decode cX5_sailByText 20 = .ok (.aload_n 2, 1) := by decide +kernel
theorem dX5_sailByText_21 : decode cX5_sailByText 21 = .ok (.getfield 47, 3) := by decide +kernel
theorem dX5_sailByText_24 : decode cX5_sailByText 24 = .ok (.if_icmp .ge 57, 3) := by decide +kernel
theorem dX5_sailByText_27 : decode cX5_sailByText 27 = .ok (.aload_n 2, 1) := by decide +kernel
theorem dX5_sailByText_28 : decode cX5_sailByText 28 = .ok (.iload_n 3, 1) := by decide +kernel
theorem dX5_sailByText_29 : decode cX5_sailByText 29 = .ok (.invokevirtual 52, 3) := by decide +kernel
theorem dX5_sailByText_32 : decode cX5_sailByText 32 = .ok (.istore 5, 2) := by decide +kernel
theorem dX5_sailByText_34 : decode cX5_sailByText 34 = .ok (.aload_n 0, 1) := by decide +kernel
theorem dX5_sailByText_35 : decode cX5_sailByText 35 = .ok (.aload_n 0, 1) := by decide +kernel
theorem dX5_sailByText_36 : decode cX5_sailByText 36 = .ok (.iload 5, 2) := by decide +kernel
theorem dX5_sailByText_38 : decode cX5_sailByText 38 = .ok (.aload_n 2, 1) := by decide +kernel
theorem dX5_sailByText_39 : decode cX5_sailByText 39 = .ok (.iload_n 3, 1) := by decide +kernel
theorem dX5_sailByText_40 : decode cX5_sailByText 40 = .ok (.invokevirtual 56, 3) := by decide +kernel
theorem dX5_sailByText_43 : decode cX5_sailByText 43 = .ok (.invokevirtual 59, 3) := by decide +kernel
theorem dX5_sailByText_46 : decode cX5_sailByText 46 = .ok (.putfield 29, 3) := by decide +kernel
theorem dX5_sailByText_49 : decode cX5_sailByText 49 = .ok (.aload_n 0, 1) := by decide +kernel
theorem dX5_sailByText_50 : decode cX5_sailByText 50 = .ok (.getfield 29, 3) := by decide +kernel
theorem dX5_sailByText_53 : decode cX5_sailByText 53 = .ok (.bipush (-6), 2) := by decide +kernel
theorem dX5_sailByText_55 : decode cX5_sailByText 55 = .ok (.if_icmp .eq 12, 3) := by decide +kernel
theorem dX5_sailByText_58 : decode cX5_sailByText 58 = .ok (.aload_n 0, 1) := by decide +kernel
theorem dX5_sailByText_59 : decode cX5_sailByText 59 = .ok (.aload_n 0, 1) := by decide +kernel
theorem dX5_sailByText_60 : decode cX5_sailByText 60 = .ok (.getfield 22, 3) := by decide +kernel
theorem dX5_sailByText_63 : decode cX5_sailByText 63 = .ok (.putfield 26, 3) := by decide +kernel
theorem dX5_sailByText_66 : decode cX5_sailByText 66 = .ok (.return_, 1) := by decide +kernel
theorem dX5_sailByText_67 : decode cX5_sailByText 67 = .ok (.iload_n 3, 1) := by decide +kernel
theorem dX5_sailByText_68 : decode cX5_sailByText 68 = .ok (.iload 5, 2) := by decide +kernel
theorem dX5_sailByText_70 : decode cX5_sailByText 70 = .ok (.invokestatic 63, 3) := by decide +kernel
theorem dX5_sailByText_73 : decode cX5_sailByText 73 = .ok (.iadd, 1) := by decide +kernel
theorem dX5_sailByText_74 : decode cX5_sailByText 74 = .ok (.istore_n 3, 1) := by decide +kernel
theorem dX5_sailByText_75 : decode cX5_sailByText 75 = .ok (.iinc 4 1, 3) := by decide +kernel
theorem dX5_sailByText_78 : decode cX5_sailByText 78 = .ok (.goto (-68), 3) := by decide +kernel
theorem dX5_sailByText_81 : decode cX5_sailByText 81 = .ok (.return_, 1) := by decide +kernel
set_option maxRecDepth 20000 in
theorem ggX5_sailByDraws_X5_setOut : GoodIn wsX5_sailByDraws wsX5_setOut := goodIn_r _ [6, 7, 8, 9, 10, 11, 12, 13, 14, 15, 16, 17, 18, 19, 20, 21, 22, 23, 24, 25, 26, 27, 28, 29, 103, 104, 105, 106, 107, 108, 109, 110, 111, 112, 113, 114, 115, 116, 117, 118, 119, 120] (by decide +kernel) (by decide +kernel)
set_option maxRecDepth 20000 in
theorem gX5_sailByDraws_X5_setOut : GoodIn wsX5_sailByDraws (wsV RX5 44 RX5 yX5_setOut wsX5_setOut) := goodIn_app (goodIn_of _ (by decide +kernel)) ggX5_sailByDraws_X5_setOut
set_option maxRecDepth 20000 in
theorem ggX5_sailByDraws_X5_drawnAct : GoodIn wsX5_sailByDraws wsX5_drawnAct := goodIn_r _ [32] (by decide +kernel) (by decide +kernel)
set_option maxRecDepth 20000 in
theorem gX5_sailByDraws_X5_drawnAct : GoodIn wsX5_sailByDraws (va_wsS RX5 67 yX5_drawnAct wsX5_drawnAct) := goodIn_app (goodIn_of _ (by decide +kernel)) ggX5_sailByDraws_X5_drawnAct
set_option maxRecDepth 20000 in
theorem ggX5_sailByDraws_X5_tryAct : GoodIn wsX5_sailByDraws wsX5_tryAct := goodIn_r _ [36, 7, 37, 11, 8, 38, 39, 40, 41, 42, 43, 44, 45, 46, 47, 48, 49, 50, 51, 52, 18, 53, 23, 25, 26, 54, 55, 56, 57, 22, 58, 59, 60, 61, 20, 21, 62, 63, 64, 65, 29, 66, 67, 68, 69, 24, 70, 71, 72, 73, 74, 75, 76, 77, 78, 79, 80, 81, 82, 5, 83, 12, 13, 14, 84, 85, 86, 87, 88, 89, 90, 91, 92, 93, 94, 95, 96, 97, 98, 99, 100, 101, 102, 103, 104, 105, 106, 107, 108, 109, 110, 111, 112, 113, 114, 115, 116, 117, 118, 119, 120] (by decide +kernel) (by decide +kernel)
set_option maxRecDepth 20000 in
theorem gX5_sailByDraws_X5_tryAct : GoodIn wsX5_sailByDraws (wsV RX5 59 RX5 yX5_tryAct wsX5_tryAct) := goodIn_app (goodIn_of _ (by decide +kernel)) ggX5_sailByDraws_X5_tryAct
theorem dX5_sailByDraws_0 : decode cX5_sailByDraws 0 = .ok (.aload_n 0, 1) := by decide +kernel
theorem dX5_sailByDraws_1 : decode cX5_sailByDraws 1 = .ok (.aload_n 1, 1) := by decide +kernel
theorem dX5_sailByDraws_2 : decode cX5_sailByDraws 2 = .ok (.invokevirtual 44, 3) := by decide +kernel
theorem dX5_sailByDraws_5 : decode cX5_sailByDraws 5 = .ok (.iload_n 2, 1) := by decide +kernel
theorem dX5_sailByDraws_6 : decode cX5_sailByDraws 6 = .ok (.istore 4, 2) := by decide +kernel
theorem dX5_sailByDraws_8 : decode cX5_sailByDraws 8 = .ok (.iconst 0, 1) := by decide +kernel
theorem dX5_sailByDraws_9 : decode cX5_sailByDraws 9 = .ok (.istore 5, 2) := by decide +kernel
theorem dX5_sailByDraws_11 : decode cX5_sailByDraws 11 = .ok (.iload 5, 2) := by decide +kernel
theorem dX5_sailByDraws_13 : decode cX5_sailByDraws 13 = .ok (.iload_n 3, 1) := by decide +kernel
theorem dX5_sailByDraws_14 : decode cX5_sailByDraws 14 = .ok (.if_icmp .ge 64, 3) := by decide +kernel
theorem dX5_sailByDraws_17 : decode cX5_sailByDraws 17 = .ok (.bipush 75, 2) := by decide +kernel
theorem dX5_sailByDraws_19 : decode cX5_sailByDraws 19 = .ok (.iload 4, 2) := by decide +kernel
theorem dX5_sailByDraws_21 : decode cX5_sailByDraws 21 = .ok (.imul, 1) := by decide +kernel
theorem dX5_sailByDraws_22 : decode cX5_sailByDraws 22 = .ok (.bipush 74, 2) := by decide +kernel
theorem dX5_sailByDraws_24 : decode cX5_sailByDraws 24 = .ok (.iadd, 1) := by decide +kernel
theorem dX5_sailByDraws_25 : decode cX5_sailByDraws 25 = .ok (.ldc 66, 2) := by decide +kernel
theorem dX5_sailByDraws_27 : decode cX5_sailByDraws 27 = .ok (.irem, 1) := by decide +kernel
theorem dX5_sailByDraws_28 : decode cX5_sailByDraws 28 = .ok (.istore 4, 2) := by decide +kernel
theorem dX5_sailByDraws_30 : decode cX5_sailByDraws 30 = .ok (.iload 4, 2) := by decide +kernel
theorem dX5_sailByDraws_32 : decode cX5_sailByDraws 32 = .ok (.bipush 8, 2) := by decide +kernel
theorem dX5_sailByDraws_34 : decode cX5_sailByDraws 34 = .ok (.irem, 1) := by decide +kernel
theorem dX5_sailByDraws_35 : decode cX5_sailByDraws 35 = .ok (.invokestatic 67, 3) := by decide +kernel
theorem dX5_sailByDraws_38 : decode cX5_sailByDraws 38 = .ok (.istore 6, 2) := by decide +kernel
theorem dX5_sailByDraws_40 : decode cX5_sailByDraws 40 = .ok (.iload 4, 2) := by decide +kernel
theorem dX5_sailByDraws_42 : decode cX5_sailByDraws 42 = .ok (.bipush 8, 2) := by decide +kernel
theorem dX5_sailByDraws_44 : decode cX5_sailByDraws 44 = .ok (.idiv, 1) := by decide +kernel
theorem dX5_sailByDraws_45 : decode cX5_sailByDraws 45 = .ok (.istore 7, 2) := by decide +kernel
theorem dX5_sailByDraws_47 : decode cX5_sailByDraws 47 = .ok (.aload_n 0, 1) := by decide +kernel
theorem dX5_sailByDraws_48 : decode cX5_sailByDraws 48 = .ok (.iload 6, 2) := by decide +kernel
theorem dX5_sailByDraws_50 : decode cX5_sailByDraws 50 = .ok (.iload 6, 2) := by decide +kernel
theorem dX5_sailByDraws_52 : decode cX5_sailByDraws 52 = .ok (.ifCond .ne 11, 3) := by decide +kernel
theorem dX5_sailByDraws_55 : decode cX5_sailByDraws 55 = .ok (.iload 7, 2) := by decide +kernel
theorem dX5_sailByDraws_57 : decode cX5_sailByDraws 57 = .ok (.bipush 6, 2) := by decide +kernel
theorem dX5_sailByDraws_59 : decode cX5_sailByDraws 59 = .ok (.irem, 1) := by decide +kernel
theorem dX5_sailByDraws_60 : decode cX5_sailByDraws 60 = .ok (.goto 8, 3) := by decide +kernel
theorem dX5_sailByDraws_63 : decode cX5_sailByDraws 63 = .ok (.iload 7, 2) := by decide +kernel
theorem dX5_sailByDraws_65 : decode cX5_sailByDraws 65 = .ok (.bipush 8, 2) := by decide +kernel
theorem dX5_sailByDraws_67 : decode cX5_sailByDraws 67 = .ok (.irem, 1) := by decide +kernel
theorem dX5_sailByDraws_68 : decode cX5_sailByDraws 68 = .ok (.invokevirtual 59, 3) := by decide +kernel
theorem dX5_sailByDraws_71 : decode cX5_sailByDraws 71 = .ok (.pop, 1) := by decide +kernel
theorem dX5_sailByDraws_72 : decode cX5_sailByDraws 72 = .ok (.iinc 5 1, 3) := by decide +kernel
theorem dX5_sailByDraws_75 : decode cX5_sailByDraws 75 = .ok (.goto (-64), 3) := by decide +kernel
theorem dX5_sailByDraws_78 : decode cX5_sailByDraws 78 = .ok (.return_, 1) := by decide +kernel
theorem dX5_drawnAct_0 : decode cX5_drawnAct 0 = .ok (.iload_n 0, 1) := by decide +kernel
theorem dX5_drawnAct_1 : decode cX5_drawnAct 1 = .ok (.tableswitch 55 0 7 #[47, 55, 55, 55, 55, 49, 51, 53], 47) := by decide +kernel
theorem dX5_drawnAct_48 : decode cX5_drawnAct 48 = .ok (.iconst 0, 1) := by decide +kernel
theorem dX5_drawnAct_49 : decode cX5_drawnAct 49 = .ok (.ireturn, 1) := by decide +kernel
theorem dX5_drawnAct_50 : decode cX5_drawnAct 50 = .ok (.iconst 3, 1) := by decide +kernel
theorem dX5_drawnAct_51 : decode cX5_drawnAct 51 = .ok (.ireturn, 1) := by decide +kernel
theorem dX5_drawnAct_52 : decode cX5_drawnAct 52 = .ok (.iconst 4, 1) := by decide +kernel
theorem dX5_drawnAct_53 : decode cX5_drawnAct 53 = .ok (.ireturn, 1) := by decide +kernel
theorem dX5_drawnAct_54 : decode cX5_drawnAct 54 = .ok (.iconst 5, 1) := by decide +kernel
theorem dX5_drawnAct_55 : decode cX5_drawnAct 55 = .ok (.ireturn, 1) := by decide +kernel
theorem dX5_drawnAct_56 : decode cX5_drawnAct 56 = .ok (.iconst 2, 1) := by decide +kernel
theorem dX5_drawnAct_57 : decode cX5_drawnAct 57 = .ok (.ireturn, 1) := by decide +kernel
set_option maxRecDepth 20000 in
theorem ggX5_tryAct_X0_next : GoodIn wsX5_tryAct wsX0_next := goodIn_r _ [8, 9, 10, 11, 12, 7, 13, 14, 15, 16] (by decide +kernel) (by decide +kernel)
set_option maxRecDepth 20000 in
theorem gX5_tryAct_X0_next : GoodIn wsX5_tryAct (va_wsS RX5 73 yX0_next wsX0_next) := goodIn_app (goodIn_of _ (by decide +kernel)) ggX5_tryAct_X0_next
set_option maxRecDepth 20000 in
theorem ggX5_tryAct_X4_reasonAgainst : GoodIn wsX5_tryAct wsX4_reasonAgainst := goodIn_r _ [21, 22, 23, 24, 25, 26, 27, 20, 28, 29, 91, 92, 93, 94, 95, 96, 97, 98, 99, 100] (by decide +kernel) (by decide +kernel)
set_option maxRecDepth 20000 in
theorem gX5_tryAct_X4_reasonAgainst : GoodIn wsX5_tryAct (wsV RX5 78 RX4 yX4_reasonAgainst wsX4_reasonAgainst) := goodIn_app (goodIn_of _ (by decide +kernel)) ggX5_tryAct_X4_reasonAgainst
set_option maxRecDepth 20000 in
theorem ggX5_tryAct_X4_sighted : GoodIn wsX5_tryAct wsX4_sighted := goodIn_r _ [33, 22, 34, 35, 36, 37, 38, 20, 39, 40, 23, 41, 42, 43, 44, 45, 46, 47, 7, 48, 49, 50, 51, 52, 53, 54, 55, 91, 92, 93, 94, 95, 96, 97, 98, 99, 100] (by decide +kernel) (by decide +kernel)
set_option maxRecDepth 20000 in
theorem gX5_tryAct_X4_sighted : GoodIn wsX5_tryAct (wsV RX5 82 RX4 yX4_sighted wsX4_sighted) := goodIn_app (goodIn_of _ (by decide +kernel)) ggX5_tryAct_X4_sighted
set_option maxRecDepth 20000 in
theorem ggX5_tryAct_X5_countCall : GoodIn wsX5_tryAct wsX5_countCall := goodIn_r _ [60, 61, 62, 63, 4, 83, 84, 85, 86, 87, 88, 89, 90] (by decide +kernel) (by decide +kernel)
set_option maxRecDepth 20000 in
theorem gX5_tryAct_X5_countCall : GoodIn wsX5_tryAct (wsV RX5 86 RX5 yX5_countCall wsX5_countCall) := goodIn_app (goodIn_of _ (by decide +kernel)) ggX5_tryAct_X5_countCall
set_option maxRecDepth 20000 in
theorem ggX5_tryAct_X4_isLand : GoodIn wsX5_tryAct wsX4_isLand := goodIn_r _ [67, 34, 68, 69, 7, 70, 91, 92, 93, 94, 95, 96, 97, 98, 99, 100] (by decide +kernel) (by decide +kernel)
set_option maxRecDepth 20000 in
theorem gX5_tryAct_X4_isLand : GoodIn wsX5_tryAct (wsV RX5 90 RX4 yX4_isLand wsX4_isLand) := goodIn_app (goodIn_of _ (by decide +kernel)) ggX5_tryAct_X4_isLand
set_option maxRecDepth 20000 in
theorem ggX5_tryAct_X4_perform : GoodIn wsX5_tryAct wsX4_perform := goodIn_r _ [74, 22, 45, 23, 75, 76, 77, 20, 78, 34, 29, 35, 68, 69, 7, 70, 79, 80, 81, 82, 24, 41, 42, 43, 44, 91, 92, 93, 94, 95, 96, 97, 98, 99, 100] (by decide +kernel) (by decide +kernel)
set_option maxRecDepth 20000 in
theorem gX5_tryAct_X4_perform : GoodIn wsX5_tryAct (wsV RX5 94 RX4 yX4_perform wsX4_perform) := goodIn_app (goodIn_of _ (by decide +kernel)) ggX5_tryAct_X4_perform
theorem dX5_tryAct_0 : decode cX5_tryAct 0 = .ok (.iload_n 1, 1) := by decide +kernel
theorem dX5_tryAct_1 : decode cX5_tryAct 1 = .ok (.iconst 2, 1) := by decide +kernel
theorem dX5_tryAct_2 : decode cX5_tryAct 2 = .ok (.if_icmp .ne 17, 3) := by decide +kernel
theorem dX5_tryAct_5 : decode cX5_tryAct 5 = .ok (.aload_n 0, 1) := by decide +kernel
theorem dX5_tryAct_6 : decode cX5_tryAct 6 = .ok (.getfield 12, 3) := by decide +kernel
theorem dX5_tryAct_9 : decode cX5_tryAct 9 = .ok (.getfield 70, 3) := by decide +kernel
theorem dX5_tryAct_12 : decode cX5_tryAct 12 = .ok (.iload_n 2, 1) := by decide +kernel
theorem dX5_tryAct_13 : decode cX5_tryAct 13 = .ok (.invokestatic 73, 3) := by decide +kernel
theorem dX5_tryAct_16 : decode cX5_tryAct 16 = .ok (.goto 5, 3) := by decide +kernel
theorem dX5_tryAct_19 : decode cX5_tryAct 19 = .ok (.bipush (-6), 2) := by decide +kernel
theorem dX5_tryAct_21 : decode cX5_tryAct 21 = .ok (.istore_n 3, 1) := by decide +kernel
theorem dX5_tryAct_22 : decode cX5_tryAct 22 = .ok (.aload_n 0, 1) := by decide +kernel
theorem dX5_tryAct_23 : decode cX5_tryAct 23 = .ok (.getfield 12, 3) := by decide +kernel
theorem dX5_tryAct_26 : decode cX5_tryAct 26 = .ok (.iload_n 1, 1) := by decide +kernel
theorem dX5_tryAct_27 : decode cX5_tryAct 27 = .ok (.iload_n 2, 1) := by decide +kernel
theorem dX5_tryAct_28 : decode cX5_tryAct 28 = .ok (.iload_n 3, 1) := by decide +kernel
theorem dX5_tryAct_29 : decode cX5_tryAct 29 = .ok (.invokevirtual 78, 3) := by decide +kernel
theorem dX5_tryAct_32 : decode cX5_tryAct 32 = .ok (.istore 4, 2) := by decide +kernel
theorem dX5_tryAct_34 : decode cX5_tryAct 34 = .ok (.iload 4, 2) := by decide +kernel
theorem dX5_tryAct_36 : decode cX5_tryAct 36 = .ok (.bipush (-6), 2) := by decide +kernel
theorem dX5_tryAct_38 : decode cX5_tryAct 38 = .ok (.if_icmp .eq 6, 3) := by decide +kernel
theorem dX5_tryAct_41 : decode cX5_tryAct 41 = .ok (.iload 4, 2) := by decide +kernel
theorem dX5_tryAct_43 : decode cX5_tryAct 43 = .ok (.ireturn, 1) := by decide +kernel
theorem dX5_tryAct_44 : decode cX5_tryAct 44 = .ok (.iload_n 1, 1) := by decide +kernel
theorem dX5_tryAct_45 : decode cX5_tryAct 45 = .ok (.iconst 4, 1) := by decide +kernel
theorem dX5_tryAct_46 : decode cX5_tryAct 46 = .ok (.if_icmp .ne 14, 3) := by decide +kernel
theorem dX5_tryAct_49 : decode cX5_tryAct 49 = .ok (.aload_n 0, 1) := by decide +kernel
theorem dX5_tryAct_50 : decode cX5_tryAct 50 = .ok (.aload_n 0, 1) := by decide +kernel
theorem dX5_tryAct_51 : decode cX5_tryAct 51 = .ok (.getfield 12, 3) := by decide +kernel
theorem dX5_tryAct_54 : decode cX5_tryAct 54 = .ok (.invokevirtual 82, 3) := by decide +kernel
theorem dX5_tryAct_57 : decode cX5_tryAct 57 = .ok (.invokevirtual 86, 3) := by decide +kernel
theorem dX5_tryAct_60 : decode cX5_tryAct 60 = .ok (.iload_n 1, 1) := by decide +kernel
theorem dX5_tryAct_61 : decode cX5_tryAct 61 = .ok (.iconst 2, 1) := by decide +kernel
theorem dX5_tryAct_62 : decode cX5_tryAct 62 = .ok (.if_icmp .ne 24, 3) := by decide +kernel
theorem dX5_tryAct_65 : decode cX5_tryAct 65 = .ok (.aload_n 0, 1) := by decide +kernel
theorem dX5_tryAct_66 : decode cX5_tryAct 66 = .ok (.getfield 12, 3) := by decide +kernel
theorem dX5_tryAct_69 : decode cX5_tryAct 69 = .ok (.iload_n 3, 1) := by decide +kernel
theorem dX5_tryAct_70 : decode cX5_tryAct 70 = .ok (.invokevirtual 90, 3) := by decide +kernel
theorem dX5_tryAct_73 : decode cX5_tryAct 73 = .ok (.ifCond .eq 13, 3) := by decide +kernel
theorem dX5_tryAct_76 : decode cX5_tryAct 76 = .ok (.aload_n 0, 1) := by decide +kernel
theorem dX5_tryAct_77 : decode cX5_tryAct 77 = .ok (.dup, 1) := by decide +kernel
theorem dX5_tryAct_78 : decode cX5_tryAct 78 = .ok (.getfield 32, 3) := by decide +kernel
theorem dX5_tryAct_81 : decode cX5_tryAct 81 = .ok (.iconst 1, 1) := by decide +kernel
theorem dX5_tryAct_82 : decode cX5_tryAct 82 = .ok (.iadd, 1) := by decide +kernel
theorem dX5_tryAct_83 : decode cX5_tryAct 83 = .ok (.putfield 32, 3) := by decide +kernel
theorem dX5_tryAct_86 : decode cX5_tryAct 86 = .ok (.aload_n 0, 1) := by decide +kernel
theorem dX5_tryAct_87 : decode cX5_tryAct 87 = .ok (.getfield 12, 3) := by decide +kernel
theorem dX5_tryAct_90 : decode cX5_tryAct 90 = .ok (.iload_n 1, 1) := by decide +kernel
theorem dX5_tryAct_91 : decode cX5_tryAct 91 = .ok (.iload_n 2, 1) := by decide +kernel
theorem dX5_tryAct_92 : decode cX5_tryAct 92 = .ok (.iload_n 3, 1) := by decide +kernel
theorem dX5_tryAct_93 : decode cX5_tryAct 93 = .ok (.invokevirtual 94, 3) := by decide +kernel
theorem dX5_tryAct_96 : decode cX5_tryAct 96 = .ok (.aload_n 0, 1) := by decide +kernel
theorem dX5_tryAct_97 : decode cX5_tryAct 97 = .ok (.dup, 1) := by decide +kernel
theorem dX5_tryAct_98 : decode cX5_tryAct 98 = .ok (.getfield 22, 3) := by decide +kernel
theorem dX5_tryAct_101 : decode cX5_tryAct 101 = .ok (.iconst 1, 1) := by decide +kernel
theorem dX5_tryAct_102 : decode cX5_tryAct 102 = .ok (.iadd, 1) := by decide +kernel
theorem dX5_tryAct_103 : decode cX5_tryAct 103 = .ok (.putfield 22, 3) := by decide +kernel
theorem dX5_tryAct_106 : decode cX5_tryAct 106 = .ok (.bipush (-6), 2) := by decide +kernel
theorem dX5_tryAct_108 : decode cX5_tryAct 108 = .ok (.ireturn, 1) := by decide +kernel
theorem dX5_countCall_0 : decode cX5_countCall 0 = .ok (.aload_n 0, 1) := by decide +kernel
theorem dX5_countCall_1 : decode cX5_countCall 1 = .ok (.dup, 1) := by decide +kernel
theorem dX5_countCall_2 : decode cX5_countCall 2 = .ok (.getfield 35, 3) := by decide +kernel
theorem dX5_countCall_5 : decode cX5_countCall 5 = .ok (.iconst 1, 1) := by decide +kernel
theorem dX5_countCall_6 : decode cX5_countCall 6 = .ok (.iadd, 1) := by decide +kernel
theorem dX5_countCall_7 : decode cX5_countCall 7 = .ok (.putfield 35, 3) := by decide +kernel
theorem dX5_countCall_10 : decode cX5_countCall 10 = .ok (.lload_n 1, 1) := by decide +kernel
theorem dX5_countCall_11 : decode cX5_countCall 11 = .ok (.lconst 0, 1) := by decide +kernel
theorem dX5_countCall_12 : decode cX5_countCall 12 = .ok (.lcmp, 1) := by decide +kernel
theorem dX5_countCall_13 : decode cX5_countCall 13 = .ok (.ifCond .eq 4, 3) := by decide +kernel
theorem dX5_countCall_16 : decode cX5_countCall 16 = .ok (.return_, 1) := by decide +kernel
theorem dX5_countCall_17 : decode cX5_countCall 17 = .ok (.aload_n 0, 1) := by decide +kernel
theorem dX5_countCall_18 : decode cX5_countCall 18 = .ok (.dup, 1) := by decide +kernel
theorem dX5_countCall_19 : decode cX5_countCall 19 = .ok (.getfield 38, 3) := by decide +kernel
theorem dX5_countCall_22 : decode cX5_countCall 22 = .ok (.iconst 1, 1) := by decide +kernel
theorem dX5_countCall_23 : decode cX5_countCall 23 = .ok (.iadd, 1) := by decide +kernel
theorem dX5_countCall_24 : decode cX5_countCall 24 = .ok (.putfield 38, 3) := by decide +kernel
theorem dX5_countCall_27 : decode cX5_countCall 27 = .ok (.aload_n 0, 1) := by decide +kernel
theorem dX5_countCall_28 : decode cX5_countCall 28 = .ok (.getfield 41, 3) := by decide +kernel
theorem dX5_countCall_31 : decode cX5_countCall 31 = .ok (.bipush (-6), 2) := by decide +kernel
theorem dX5_countCall_33 : decode cX5_countCall 33 = .ok (.if_icmp .ne 11, 3) := by decide +kernel
theorem dX5_countCall_36 : decode cX5_countCall 36 = .ok (.aload_n 0, 1) := by decide +kernel
theorem dX5_countCall_37 : decode cX5_countCall 37 = .ok (.aload_n 0, 1) := by decide +kernel
theorem dX5_countCall_38 : decode cX5_countCall 38 = .ok (.getfield 22, 3) := by decide +kernel
theorem dX5_countCall_41 : decode cX5_countCall 41 = .ok (.putfield 41, 3) := by decide +kernel
theorem dX5_countCall_44 : decode cX5_countCall 44 = .ok (.return_, 1) := by decide +kernel
set_option maxRecDepth 20000 in
theorem ggX6_init_X4_init : GoodIn wsX6_init wsX4_init := goodIn_r _ [28, 29, 2, 3, 30, 31, 32, 33, 34, 35, 36, 37, 38, 39, 40, 41, 61, 62, 63, 64, 65, 66, 67, 68, 69, 70] (by decide +kernel) (by decide +kernel)
set_option maxRecDepth 20000 in
theorem gX6_init_X4_init_n9 : GoodIn wsX6_init (wsX4_init) := ggX6_init_X4_init
set_option maxRecDepth 20000 in
theorem ggX6_init_X2_init : GoodIn wsX6_init wsX2_init := goodIn_r _ [43, 44, 2, 3, 40, 45, 46, 78, 79] (by decide +kernel) (by decide +kernel)
set_option maxRecDepth 20000 in
theorem gX6_init_X2_init_n18 : GoodIn wsX6_init (wsX2_init) := ggX6_init_X2_init
set_option maxRecDepth 20000 in
theorem ggX6_init_X5_init : GoodIn wsX6_init wsX5_init := goodIn_r _ [48, 49, 2, 3, 50, 5, 6, 51, 27, 28, 29, 30, 31, 32, 33, 34, 35, 36, 37, 38, 39, 40, 41, 61, 62, 63, 64, 65, 66, 67, 68, 69, 70, 80, 81, 82, 83, 84, 85, 86, 87] (by decide +kernel) (by decide +kernel)
set_option maxRecDepth 20000 in
theorem gX6_init_X5_init_n25 : GoodIn wsX6_init (wsX5_init) := ggX6_init_X5_init
set_option maxRecDepth 20000 in
theorem ggX6_init_X3_init : GoodIn wsX6_init wsX3_init := goodIn_r _ [53, 54, 2, 3, 40, 55, 56, 57, 88, 89, 90] (by decide +kernel) (by decide +kernel)
set_option maxRecDepth 20000 in
theorem gX6_init_X3_init_n32 : GoodIn wsX6_init (wsX3_init) := ggX6_init_X3_init
set_option maxRecDepth 20000 in
theorem ggX6_init_X1_init : GoodIn wsX6_init wsX1_init := goodIn_r _ [59, 60, 2, 3] (by decide +kernel) (by decide +kernel)
set_option maxRecDepth 20000 in
theorem gX6_init_X1_init_n39 : GoodIn wsX6_init (wsX1_init) := ggX6_init_X1_init
theorem dX6_init_0 : decode cX6_init 0 = .ok (.aload_n 0, 1) := by decide +kernel
theorem dX6_init_1 : decode cX6_init 1 = .ok (.invokespecial 1, 3) := by decide +kernel
theorem dX6_init_4 : decode cX6_init 4 = .ok (.aload_n 0, 1) := by decide +kernel
theorem dX6_init_5 : decode cX6_init 5 = .ok (.new 7, 3) := by decide +kernel
theorem dX6_init_8 : decode cX6_init 8 = .ok (.dup, 1) := by decide +kernel
theorem dX6_init_9 : decode cX6_init 9 = .ok (.invokespecial 9, 3) := by decide +kernel
theorem dX6_init_12 : decode cX6_init 12 = .ok (.putfield 10, 3) := by decide +kernel
theorem dX6_init_15 : decode cX6_init 15 = .ok (.aload_n 0, 1) := by decide +kernel
theorem dX6_init_16 : decode cX6_init 16 = .ok (.new 16, 3) := by decide +kernel
theorem dX6_init_19 : decode cX6_init 19 = .ok (.dup, 1) := by decide +kernel
theorem dX6_init_20 : decode cX6_init 20 = .ok (.invokespecial 18, 3) := by decide +kernel
theorem dX6_init_23 : decode cX6_init 23 = .ok (.putfield 19, 3) := by decide +kernel
theorem dX6_init_26 : decode cX6_init 26 = .ok (.aload_n 0, 1) := by decide +kernel
theorem dX6_init_27 : decode cX6_init 27 = .ok (.new 23, 3) := by decide +kernel
theorem dX6_init_30 : decode cX6_init 30 = .ok (.dup, 1) := by decide +kernel
theorem dX6_init_31 : decode cX6_init 31 = .ok (.invokespecial 25, 3) := by decide +kernel
theorem dX6_init_34 : decode cX6_init 34 = .ok (.putfield 26, 3) := by decide +kernel
theorem dX6_init_37 : decode cX6_init 37 = .ok (.aload_n 0, 1) := by decide +kernel
theorem dX6_init_38 : decode cX6_init 38 = .ok (.new 30, 3) := by decide +kernel
theorem dX6_init_41 : decode cX6_init 41 = .ok (.dup, 1) := by decide +kernel
theorem dX6_init_42 : decode cX6_init 42 = .ok (.invokespecial 32, 3) := by decide +kernel
theorem dX6_init_45 : decode cX6_init 45 = .ok (.putfield 33, 3) := by decide +kernel
theorem dX6_init_48 : decode cX6_init 48 = .ok (.aload_n 0, 1) := by decide +kernel
theorem dX6_init_49 : decode cX6_init 49 = .ok (.new 37, 3) := by decide +kernel
theorem dX6_init_52 : decode cX6_init 52 = .ok (.dup, 1) := by decide +kernel
theorem dX6_init_53 : decode cX6_init 53 = .ok (.invokespecial 39, 3) := by decide +kernel
theorem dX6_init_56 : decode cX6_init 56 = .ok (.putfield 40, 3) := by decide +kernel
theorem dX6_init_59 : decode cX6_init 59 = .ok (.aload_n 0, 1) := by decide +kernel
theorem dX6_init_60 : decode cX6_init 60 = .ok (.iconst 2, 1) := by decide +kernel
theorem dX6_init_61 : decode cX6_init 61 = .ok (.anewarray 7, 3) := by decide +kernel
theorem dX6_init_64 : decode cX6_init 64 = .ok (.dup, 1) := by decide +kernel
theorem dX6_init_65 : decode cX6_init 65 = .ok (.iconst 0, 1) := by decide +kernel
theorem dX6_init_66 : decode cX6_init 66 = .ok (.new 7, 3) := by decide +kernel
theorem dX6_init_69 : decode cX6_init 69 = .ok (.dup, 1) := by decide +kernel
theorem dX6_init_70 : decode cX6_init 70 = .ok (.invokespecial 9, 3) := by decide +kernel
theorem dX6_init_73 : decode cX6_init 73 = .ok (.aastore, 1) := by decide +kernel
theorem dX6_init_74 : decode cX6_init 74 = .ok (.dup, 1) := by decide +kernel
theorem dX6_init_75 : decode cX6_init 75 = .ok (.iconst 1, 1) := by decide +kernel
theorem dX6_init_76 : decode cX6_init 76 = .ok (.new 7, 3) := by decide +kernel
theorem dX6_init_79 : decode cX6_init 79 = .ok (.dup, 1) := by decide +kernel
theorem dX6_init_80 : decode cX6_init 80 = .ok (.invokespecial 9, 3) := by decide +kernel
theorem dX6_init_83 : decode cX6_init 83 = .ok (.aastore, 1) := by decide +kernel
theorem dX6_init_84 : decode cX6_init 84 = .ok (.putfield 44, 3) := by decide +kernel
theorem dX6_init_87 : decode cX6_init 87 = .ok (.aload_n 0, 1) := by decide +kernel
theorem dX6_init_88 : decode cX6_init 88 = .ok (.iconst 2, 1) := by decide +kernel
theorem dX6_init_89 : decode cX6_init 89 = .ok (.newarray .boolean, 2) := by decide +kernel
theorem dX6_init_91 : decode cX6_init 91 = .ok (.dup, 1) := by decide +kernel
theorem dX6_init_92 : decode cX6_init 92 = .ok (.iconst 0, 1) := by decide +kernel
theorem dX6_init_93 : decode cX6_init 93 = .ok (.iconst 0, 1) := by decide +kernel
theorem dX6_init_94 : decode cX6_init 94 = .ok (.bastore, 1) := by decide +kernel
theorem dX6_init_95 : decode cX6_init 95 = .ok (.dup, 1) := by decide +kernel
theorem dX6_init_96 : decode cX6_init 96 = .ok (.iconst 1, 1) := by decide +kernel
theorem dX6_init_97 : decode cX6_init 97 = .ok (.iconst 0, 1) := by decide +kernel
theorem dX6_init_98 : decode cX6_init 98 = .ok (.bastore, 1) := by decide +kernel
theorem dX6_init_99 : decode cX6_init 99 = .ok (.putfield 48, 3) := by decide +kernel
theorem dX6_init_102 : decode cX6_init 102 = .ok (.return_, 1) := by decide +kernel
set_option maxRecDepth 20000 in
theorem ggX6_land_X0_isCell : GoodIn wsX6_land wsX0_isCell := goodIn_r _ [8] (by decide +kernel) (by decide +kernel)
set_option maxRecDepth 20000 in
theorem gX6_land_X0_isCell : GoodIn wsX6_land (va_wsS RX6 52 yX0_isCell wsX0_isCell) := goodIn_app (goodIn_of _ (by decide +kernel)) ggX6_land_X0_isCell
set_option maxRecDepth 20000 in
theorem ggX6_land_X6_within : GoodIn wsX6_land wsX6_within := goodIn_r _ [12] (by decide +kernel) (by decide +kernel)
set_option maxRecDepth 20000 in
theorem gX6_land_X6_within : GoodIn wsX6_land (va_wsS RX6 58 yX6_within wsX6_within) := goodIn_app (goodIn_of _ (by decide +kernel)) ggX6_land_X6_within
set_option maxRecDepth 20000 in
theorem ggX6_land_X0_only : GoodIn wsX6_land wsX0_only := goodIn_r _ [15] (by decide +kernel) (by decide +kernel)
set_option maxRecDepth 20000 in
theorem gX6_land_X0_only : GoodIn wsX6_land (va_wsS RX6 66 yX0_only wsX0_only) := goodIn_app (goodIn_of _ (by decide +kernel)) ggX6_land_X0_only
set_option maxRecDepth 20000 in
theorem ggX6_land_J13_bitCount_95d88 : GoodIn wsX6_land wsJ13_bitCount_95d88 := goodIn_r _ [19, 20, 21, 22] (by decide +kernel) (by decide +kernel)
set_option maxRecDepth 20000 in
theorem gX6_land_J13_bitCount_95d88 : GoodIn wsX6_land (va_wsS RX6 76 yJ13_bitCount_95d88 wsJ13_bitCount_95d88) := goodIn_app (goodIn_of _ (by decide +kernel)) ggX6_land_J13_bitCount_95d88
theorem dX6_land_0 : decode cX6_land 0 = .ok (.iload_n 1, 1) := by decide +kernel
theorem dX6_land_1 : decode cX6_land 1 = .ok (.invokestatic 52, 3) := by decide +kernel
theorem dX6_land_4 : decode cX6_land 4 = .ok (.ifCond .ne 5, 3) := by decide +kernel
theorem dX6_land_7 : decode cX6_land 7 = .ok (.iconst (-1), 1) := by decide +kernel
theorem dX6_land_8 : decode cX6_land 8 = .ok (.ireturn, 1) := by decide +kernel
theorem dX6_land_9 : decode cX6_land 9 = .ok (.iload_n 2, 1) := by decide +kernel
theorem dX6_land_10 : decode cX6_land 10 = .ok (.iconst 0, 1) := by decide +kernel
theorem dX6_land_11 : decode cX6_land 11 = .ok (.iconst 1, 1) := by decide +kernel
theorem dX6_land_12 : decode cX6_land 12 = .ok (.invokestatic 58, 3) := by decide +kernel
theorem dX6_land_15 : decode cX6_land 15 = .ok (.ifCond .ne 6, 3) := by decide +kernel
theorem dX6_land_18 : decode cX6_land 18 = .ok (.bipush (-2), 2) := by decide +kernel
theorem dX6_land_20 : decode cX6_land 20 = .ok (.ireturn, 1) := by decide +kernel
theorem dX6_land_21 : decode cX6_land 21 = .ok (.iload_n 2, 1) := by decide +kernel
theorem dX6_land_22 : decode cX6_land 22 = .ok (.iconst 1, 1) := by decide +kernel
theorem dX6_land_23 : decode cX6_land 23 = .ok (.if_icmp .ne 17, 3) := by decide +kernel
theorem dX6_land_26 : decode cX6_land 26 = .ok (.iload_n 1, 1) := by decide +kernel
theorem dX6_land_27 : decode cX6_land 27 = .ok (.aload_n 0, 1) := by decide +kernel
theorem dX6_land_28 : decode cX6_land 28 = .ok (.getfield 10, 3) := by decide +kernel
theorem dX6_land_31 : decode cX6_land 31 = .ok (.getfield 62, 3) := by decide +kernel
theorem dX6_land_34 : decode cX6_land 34 = .ok (.if_icmp .ne 6, 3) := by decide +kernel
theorem dX6_land_37 : decode cX6_land 37 = .ok (.bipush (-3), 2) := by decide +kernel
theorem dX6_land_39 : decode cX6_land 39 = .ok (.ireturn, 1) := by decide +kernel
theorem dX6_land_40 : decode cX6_land 40 = .ok (.iload_n 1, 1) := by decide +kernel
theorem dX6_land_41 : decode cX6_land 41 = .ok (.invokestatic 66, 3) := by decide +kernel
theorem dX6_land_44 : decode cX6_land 44 = .ok (.lstore_n 3, 1) := by decide +kernel
theorem dX6_land_45 : decode cX6_land 45 = .ok (.aload_n 0, 1) := by decide +kernel
theorem dX6_land_46 : decode cX6_land 46 = .ok (.getfield 10, 3) := by decide +kernel
theorem dX6_land_49 : decode cX6_land 49 = .ok (.iload_n 2, 1) := by decide +kernel
theorem dX6_land_50 : decode cX6_land 50 = .ok (.iconst 1, 1) := by decide +kernel
theorem dX6_land_51 : decode cX6_land 51 = .ok (.if_icmp .ne 15, 3) := by decide +kernel
theorem dX6_land_54 : decode cX6_land 54 = .ok (.aload_n 0, 1) := by decide +kernel
theorem dX6_land_55 : decode cX6_land 55 = .ok (.getfield 10, 3) := by decide +kernel
theorem dX6_land_58 : decode cX6_land 58 = .ok (.getfield 70, 3) := by decide +kernel
theorem dX6_land_61 : decode cX6_land 61 = .ok (.lload_n 3, 1) := by decide +kernel
theorem dX6_land_62 : decode cX6_land 62 = .ok (.lor, 1) := by decide +kernel
theorem dX6_land_63 : decode cX6_land 63 = .ok (.goto 16, 3) := by decide +kernel
theorem dX6_land_66 : decode cX6_land 66 = .ok (.aload_n 0, 1) := by decide +kernel
theorem dX6_land_67 : decode cX6_land 67 = .ok (.getfield 10, 3) := by decide +kernel
theorem dX6_land_70 : decode cX6_land 70 = .ok (.getfield 70, 3) := by decide +kernel
theorem dX6_land_73 : decode cX6_land 73 = .ok (.lload_n 3, 1) := by decide +kernel
theorem dX6_land_74 : decode cX6_land 74 = .ok (.ldc2_w 74, 3) := by decide +kernel
theorem dX6_land_77 : decode cX6_land 77 = .ok (.lxor, 1) := by decide +kernel
theorem dX6_land_78 : decode cX6_land 78 = .ok (.land, 1) := by decide +kernel
theorem dX6_land_79 : decode cX6_land 79 = .ok (.putfield 70, 3) := by decide +kernel
theorem dX6_land_82 : decode cX6_land 82 = .ok (.aload_n 0, 1) := by decide +kernel
theorem dX6_land_83 : decode cX6_land 83 = .ok (.getfield 10, 3) := by decide +kernel
theorem dX6_land_86 : decode cX6_land 86 = .ok (.getfield 70, 3) := by decide +kernel
theorem dX6_land_89 : decode cX6_land 89 = .ok (.invokestatic 76, 3) := by decide +kernel
theorem dX6_land_92 : decode cX6_land 92 = .ok (.ireturn, 1) := by decide +kernel
set_option maxRecDepth 20000 in
theorem ggX6_ship_X0_isCell : GoodIn wsX6_ship wsX0_isCell := goodIn_r _ [7] (by decide +kernel) (by decide +kernel)
set_option maxRecDepth 20000 in
theorem gX6_ship_X0_isCell : GoodIn wsX6_ship (va_wsS RX6 52 yX0_isCell wsX0_isCell) := goodIn_app (goodIn_of _ (by decide +kernel)) ggX6_ship_X0_isCell
set_option maxRecDepth 20000 in
theorem ggX6_ship_X6_within : GoodIn wsX6_ship wsX6_within := goodIn_r _ [11] (by decide +kernel) (by decide +kernel)
set_option maxRecDepth 20000 in
theorem gX6_ship_X6_within : GoodIn wsX6_ship (va_wsS RX6 58 yX6_within wsX6_within) := goodIn_app (goodIn_of _ (by decide +kernel)) ggX6_ship_X6_within
set_option maxRecDepth 20000 in
theorem ggX6_ship_X4_isLand : GoodIn wsX6_ship wsX4_isLand := goodIn_r _ [16, 17, 18, 19, 6, 20, 28, 29, 30, 31, 32, 33, 34, 35, 36, 37] (by decide +kernel) (by decide +kernel)
set_option maxRecDepth 20000 in
theorem gX6_ship_X4_isLand : GoodIn wsX6_ship (wsV RX6 82 RX4 yX4_isLand wsX4_isLand) := goodIn_app (goodIn_of _ (by decide +kernel)) ggX6_ship_X4_isLand
theorem dX6_ship_0 : decode cX6_ship 0 = .ok (.iload_n 1, 1) := by decide +kernel
theorem dX6_ship_1 : decode cX6_ship 1 = .ok (.invokestatic 52, 3) := by decide +kernel
theorem dX6_ship_4 : decode cX6_ship 4 = .ok (.ifCond .ne 5, 3) := by decide +kernel
theorem dX6_ship_7 : decode cX6_ship 7 = .ok (.iconst (-1), 1) := by decide +kernel
theorem dX6_ship_8 : decode cX6_ship 8 = .ok (.ireturn, 1) := by decide +kernel
theorem dX6_ship_9 : decode cX6_ship 9 = .ok (.iload_n 2, 1) := by decide +kernel
theorem dX6_ship_10 : decode cX6_ship 10 = .ok (.iconst 0, 1) := by decide +kernel
theorem dX6_ship_11 : decode cX6_ship 11 = .ok (.bipush 9, 2) := by decide +kernel
theorem dX6_ship_13 : decode cX6_ship 13 = .ok (.invokestatic 58, 3) := by decide +kernel
theorem dX6_ship_16 : decode cX6_ship 16 = .ok (.ifCond .ne 6, 3) := by decide +kernel
theorem dX6_ship_19 : decode cX6_ship 19 = .ok (.bipush (-2), 2) := by decide +kernel
theorem dX6_ship_21 : decode cX6_ship 21 = .ok (.ireturn, 1) := by decide +kernel
theorem dX6_ship_22 : decode cX6_ship 22 = .ok (.aload_n 0, 1) := by decide +kernel
theorem dX6_ship_23 : decode cX6_ship 23 = .ok (.getfield 10, 3) := by decide +kernel
theorem dX6_ship_26 : decode cX6_ship 26 = .ok (.iload_n 1, 1) := by decide +kernel
theorem dX6_ship_27 : decode cX6_ship 27 = .ok (.invokevirtual 82, 3) := by decide +kernel
theorem dX6_ship_30 : decode cX6_ship 30 = .ok (.ifCond .eq 6, 3) := by decide +kernel
theorem dX6_ship_33 : decode cX6_ship 33 = .ok (.bipush (-3), 2) := by decide +kernel
theorem dX6_ship_35 : decode cX6_ship 35 = .ok (.ireturn, 1) := by decide +kernel
theorem dX6_ship_36 : decode cX6_ship 36 = .ok (.aload_n 0, 1) := by decide +kernel
theorem dX6_ship_37 : decode cX6_ship 37 = .ok (.getfield 10, 3) := by decide +kernel
theorem dX6_ship_40 : decode cX6_ship 40 = .ok (.getfield 62, 3) := by decide +kernel
theorem dX6_ship_43 : decode cX6_ship 43 = .ok (.istore_n 3, 1) := by decide +kernel
theorem dX6_ship_44 : decode cX6_ship 44 = .ok (.aload_n 0, 1) := by decide +kernel
theorem dX6_ship_45 : decode cX6_ship 45 = .ok (.getfield 10, 3) := by decide +kernel
theorem dX6_ship_48 : decode cX6_ship 48 = .ok (.iload_n 1, 1) := by decide +kernel
theorem dX6_ship_49 : decode cX6_ship 49 = .ok (.putfield 62, 3) := by decide +kernel
theorem dX6_ship_52 : decode cX6_ship 52 = .ok (.aload_n 0, 1) := by decide +kernel
theorem dX6_ship_53 : decode cX6_ship 53 = .ok (.getfield 10, 3) := by decide +kernel
theorem dX6_ship_56 : decode cX6_ship 56 = .ok (.iload_n 2, 1) := by decide +kernel
theorem dX6_ship_57 : decode cX6_ship 57 = .ok (.putfield 85, 3) := by decide +kernel
theorem dX6_ship_60 : decode cX6_ship 60 = .ok (.iload_n 3, 1) := by decide +kernel
theorem dX6_ship_61 : decode cX6_ship 61 = .ok (.ireturn, 1) := by decide +kernel
set_option maxRecDepth 20000 in
theorem ggX6_watcher_X4_isWatcher : GoodIn wsX6_watcher wsX4_isWatcher := goodIn_r _ [6, 7, 27, 28, 29, 30, 31, 32, 33, 34, 35, 36] (by decide +kernel) (by decide +kernel)
set_option maxRecDepth 20000 in
theorem gX6_watcher_X4_isWatcher : GoodIn wsX6_watcher (wsV RX6 88 RX4 yX4_isWatcher wsX4_isWatcher) := goodIn_app (goodIn_of _ (by decide +kernel)) ggX6_watcher_X4_isWatcher
set_option maxRecDepth 20000 in
theorem ggX6_watcher_X6_within : GoodIn wsX6_watcher wsX6_within := goodIn_r _ [11] (by decide +kernel) (by decide +kernel)
set_option maxRecDepth 20000 in
theorem gX6_watcher_X6_within : GoodIn wsX6_watcher (va_wsS RX6 58 yX6_within wsX6_within) := goodIn_app (goodIn_of _ (by decide +kernel)) ggX6_watcher_X6_within
set_option maxRecDepth 20000 in
theorem ggX6_watcher_X4_eyesOf : GoodIn wsX6_watcher wsX4_eyesOf := goodIn_r _ [15, 7, 27, 28, 29, 30, 31, 32, 33, 34, 35, 36] (by decide +kernel) (by decide +kernel)
set_option maxRecDepth 20000 in
theorem gX6_watcher_X4_eyesOf : GoodIn wsX6_watcher (wsV RX6 91 RX4 yX4_eyesOf wsX4_eyesOf) := goodIn_app (goodIn_of _ (by decide +kernel)) ggX6_watcher_X4_eyesOf
set_option maxRecDepth 20000 in
theorem ggX6_watcher_X4_giveEyes : GoodIn wsX6_watcher wsX4_giveEyes := goodIn_r _ [19, 7, 27, 28, 29, 30, 31, 32, 33, 34, 35, 36] (by decide +kernel) (by decide +kernel)
set_option maxRecDepth 20000 in
theorem gX6_watcher_X4_giveEyes : GoodIn wsX6_watcher (wsV RX6 95 RX4 yX4_giveEyes wsX4_giveEyes) := goodIn_app (goodIn_of _ (by decide +kernel)) ggX6_watcher_X4_giveEyes
theorem dX6_watcher_0 : decode cX6_watcher 0 = .ok (.aload_n 0, 1) := by decide +kernel
theorem dX6_watcher_1 : decode cX6_watcher 1 = .ok (.getfield 10, 3) := by decide +kernel
theorem dX6_watcher_4 : decode cX6_watcher 4 = .ok (.iload_n 1, 1) := by decide +kernel
theorem dX6_watcher_5 : decode cX6_watcher 5 = .ok (.invokevirtual 88, 3) := by decide +kernel
theorem dX6_watcher_8 : decode cX6_watcher 8 = .ok (.ifCond .ne 5, 3) := by decide +kernel
theorem dX6_watcher_11 : decode cX6_watcher 11 = .ok (.iconst (-1), 1) := by decide +kernel
theorem dX6_watcher_12 : decode cX6_watcher 12 = .ok (.ireturn, 1) := by decide +kernel
theorem dX6_watcher_13 : decode cX6_watcher 13 = .ok (.iload_n 2, 1) := by decide +kernel
theorem dX6_watcher_14 : decode cX6_watcher 14 = .ok (.iconst 1, 1) := by decide +kernel
theorem dX6_watcher_15 : decode cX6_watcher 15 = .ok (.bipush 7, 2) := by decide +kernel
theorem dX6_watcher_17 : decode cX6_watcher 17 = .ok (.invokestatic 58, 3) := by decide +kernel
theorem dX6_watcher_20 : decode cX6_watcher 20 = .ok (.ifCond .ne 6, 3) := by decide +kernel
theorem dX6_watcher_23 : decode cX6_watcher 23 = .ok (.bipush (-2), 2) := by decide +kernel
theorem dX6_watcher_25 : decode cX6_watcher 25 = .ok (.ireturn, 1) := by decide +kernel
theorem dX6_watcher_26 : decode cX6_watcher 26 = .ok (.aload_n 0, 1) := by decide +kernel
theorem dX6_watcher_27 : decode cX6_watcher 27 = .ok (.getfield 10, 3) := by decide +kernel
theorem dX6_watcher_30 : decode cX6_watcher 30 = .ok (.iload_n 1, 1) := by decide +kernel
theorem dX6_watcher_31 : decode cX6_watcher 31 = .ok (.invokevirtual 91, 3) := by decide +kernel
theorem dX6_watcher_34 : decode cX6_watcher 34 = .ok (.istore_n 3, 1) := by decide +kernel
theorem dX6_watcher_35 : decode cX6_watcher 35 = .ok (.aload_n 0, 1) := by decide +kernel
theorem dX6_watcher_36 : decode cX6_watcher 36 = .ok (.getfield 10, 3) := by decide +kernel
theorem dX6_watcher_39 : decode cX6_watcher 39 = .ok (.iload_n 1, 1) := by decide +kernel
theorem dX6_watcher_40 : decode cX6_watcher 40 = .ok (.iload_n 2, 1) := by decide +kernel
theorem dX6_watcher_41 : decode cX6_watcher 41 = .ok (.invokevirtual 95, 3) := by decide +kernel
theorem dX6_watcher_44 : decode cX6_watcher 44 = .ok (.iload_n 3, 1) := by decide +kernel
theorem dX6_watcher_45 : decode cX6_watcher 45 = .ok (.ireturn, 1) := by decide +kernel
set_option maxRecDepth 20000 in
theorem ggX6_fog_X6_within : GoodIn wsX6_fog wsX6_within := goodIn_r _ [6] (by decide +kernel) (by decide +kernel)
set_option maxRecDepth 20000 in
theorem gX6_fog_X6_within : GoodIn wsX6_fog (va_wsS RX6 58 yX6_within wsX6_within) := goodIn_app (goodIn_of _ (by decide +kernel)) ggX6_fog_X6_within
theorem dX6_fog_0 : decode cX6_fog 0 = .ok (.iload_n 1, 1) := by decide +kernel
theorem dX6_fog_1 : decode cX6_fog 1 = .ok (.iconst 0, 1) := by decide +kernel
theorem dX6_fog_2 : decode cX6_fog 2 = .ok (.bipush 7, 2) := by decide +kernel
theorem dX6_fog_4 : decode cX6_fog 4 = .ok (.invokestatic 58, 3) := by decide +kernel
theorem dX6_fog_7 : decode cX6_fog 7 = .ok (.ifCond .ne 6, 3) := by decide +kernel
theorem dX6_fog_10 : decode cX6_fog 10 = .ok (.bipush (-2), 2) := by decide +kernel
theorem dX6_fog_12 : decode cX6_fog 12 = .ok (.ireturn, 1) := by decide +kernel
theorem dX6_fog_13 : decode cX6_fog 13 = .ok (.aload_n 0, 1) := by decide +kernel
theorem dX6_fog_14 : decode cX6_fog 14 = .ok (.getfield 10, 3) := by decide +kernel
theorem dX6_fog_17 : decode cX6_fog 17 = .ok (.getfield 99, 3) := by decide +kernel
theorem dX6_fog_20 : decode cX6_fog 20 = .ok (.istore_n 2, 1) := by decide +kernel
theorem dX6_fog_21 : decode cX6_fog 21 = .ok (.aload_n 0, 1) := by decide +kernel
theorem dX6_fog_22 : decode cX6_fog 22 = .ok (.getfield 10, 3) := by decide +kernel
theorem dX6_fog_25 : decode cX6_fog 25 = .ok (.iload_n 1, 1) := by decide +kernel
theorem dX6_fog_26 : decode cX6_fog 26 = .ok (.putfield 99, 3) := by decide +kernel
theorem dX6_fog_29 : decode cX6_fog 29 = .ok (.iload_n 2, 1) := by decide +kernel
theorem dX6_fog_30 : decode cX6_fog 30 = .ok (.ireturn, 1) := by decide +kernel
set_option maxRecDepth 20000 in
theorem ggX6_say_X6_within : GoodIn wsX6_say wsX6_within := goodIn_r _ [6] (by decide +kernel) (by decide +kernel)
set_option maxRecDepth 20000 in
theorem gX6_say_X6_within : GoodIn wsX6_say (va_wsS RX6 58 yX6_within wsX6_within) := goodIn_app (goodIn_of _ (by decide +kernel)) ggX6_say_X6_within
set_option maxRecDepth 20000 in
theorem ggX6_say_X2_write : GoodIn wsX6_say wsX2_write := goodIn_r _ [11, 12, 13, 21, 22] (by decide +kernel) (by decide +kernel)
set_option maxRecDepth 20000 in
theorem gX6_say_X2_write : GoodIn wsX6_say (wsV RX6 102 RX2 yX2_write wsX2_write) := goodIn_app (goodIn_of _ (by decide +kernel)) ggX6_say_X2_write
theorem dX6_say_0 : decode cX6_say 0 = .ok (.iload_n 1, 1) := by decide +kernel
theorem dX6_say_1 : decode cX6_say 1 = .ok (.bipush 33, 2) := by decide +kernel
theorem dX6_say_3 : decode cX6_say 3 = .ok (.bipush 126, 2) := by decide +kernel
theorem dX6_say_5 : decode cX6_say 5 = .ok (.invokestatic 58, 3) := by decide +kernel
theorem dX6_say_8 : decode cX6_say 8 = .ok (.ifCond .ne 6, 3) := by decide +kernel
theorem dX6_say_11 : decode cX6_say 11 = .ok (.bipush (-2), 2) := by decide +kernel
theorem dX6_say_13 : decode cX6_say 13 = .ok (.ireturn, 1) := by decide +kernel
theorem dX6_say_14 : decode cX6_say 14 = .ok (.aload_n 0, 1) := by decide +kernel
theorem dX6_say_15 : decode cX6_say 15 = .ok (.getfield 19, 3) := by decide +kernel
theorem dX6_say_18 : decode cX6_say 18 = .ok (.iload_n 1, 1) := by decide +kernel
theorem dX6_say_19 : decode cX6_say 19 = .ok (.invokevirtual 102, 3) := by decide +kernel
theorem dX6_say_22 : decode cX6_say 22 = .ok (.ifCond .eq 13, 3) := by decide +kernel
theorem dX6_say_25 : decode cX6_say 25 = .ok (.aload_n 0, 1) := by decide +kernel
theorem dX6_say_26 : decode cX6_say 26 = .ok (.getfield 19, 3) := by decide +kernel
theorem dX6_say_29 : decode cX6_say 29 = .ok (.getfield 105, 3) := by decide +kernel
theorem dX6_say_32 : decode cX6_say 32 = .ok (.goto 5, 3) := by decide +kernel
theorem dX6_say_35 : decode cX6_say 35 = .ok (.bipush (-4), 2) := by decide +kernel
theorem dX6_say_37 : decode cX6_say 37 = .ok (.ireturn, 1) := by decide +kernel
theorem dX6_wipe_0 : decode cX6_wipe 0 = .ok (.aload_n 0, 1) := by decide +kernel
theorem dX6_wipe_1 : decode cX6_wipe 1 = .ok (.getfield 19, 3) := by decide +kernel
theorem dX6_wipe_4 : decode cX6_wipe 4 = .ok (.getfield 105, 3) := by decide +kernel
theorem dX6_wipe_7 : decode cX6_wipe 7 = .ok (.istore_n 1, 1) := by decide +kernel
theorem dX6_wipe_8 : decode cX6_wipe 8 = .ok (.aload_n 0, 1) := by decide +kernel
theorem dX6_wipe_9 : decode cX6_wipe 9 = .ok (.getfield 19, 3) := by decide +kernel
theorem dX6_wipe_12 : decode cX6_wipe 12 = .ok (.iconst 0, 1) := by decide +kernel
theorem dX6_wipe_13 : decode cX6_wipe 13 = .ok (.putfield 105, 3) := by decide +kernel
theorem dX6_wipe_16 : decode cX6_wipe 16 = .ok (.iload_n 1, 1) := by decide +kernel
theorem dX6_wipe_17 : decode cX6_wipe 17 = .ok (.ireturn, 1) := by decide +kernel
set_option maxRecDepth 20000 in
theorem ggX6_fault_X2_firstFault : GoodIn wsX6_fault wsX2_firstFault := goodIn_r _ [6, 7, 8, 9, 10, 5, 11, 12, 13, 14, 15, 16, 17, 18, 19, 20, 21, 22, 23, 24, 25, 26, 27, 28, 36, 37] (by decide +kernel) (by decide +kernel)
set_option maxRecDepth 20000 in
theorem gX6_fault_X2_firstFault : GoodIn wsX6_fault (wsV RX6 108 RX2 yX2_firstFault wsX2_firstFault) := goodIn_app (goodIn_of _ (by decide +kernel)) ggX6_fault_X2_firstFault
theorem dX6_fault_0 : decode cX6_fault 0 = .ok (.aload_n 0, 1) := by decide +kernel
theorem dX6_fault_1 : decode cX6_fault 1 = .ok (.getfield 19, 3) := by decide +kernel
theorem dX6_fault_4 : decode cX6_fault 4 = .ok (.invokevirtual 108, 3) := by decide +kernel
theorem dX6_fault_7 : decode cX6_fault 7 = .ok (.ireturn, 1) := by decide +kernel
set_option maxRecDepth 20000 in
theorem ggX6_judge_X6_sailTheText : GoodIn wsX6_judge wsX6_sailTheText := goodIn_r _ [9, 10, 1, 11, 2, 12, 13, 8, 14, 15, 16, 17, 18, 19, 20, 21, 22, 23, 24, 25, 26, 27, 28, 29, 30, 31, 32, 33, 34, 35, 36, 37, 38, 39, 40, 41, 42, 43, 44, 45, 46, 47, 48, 49, 50, 51, 52, 53, 54, 55, 56, 57, 58, 59, 60, 61, 62, 63, 64, 65, 66, 67, 68, 69, 70, 71, 72, 73, 74, 75, 76, 77, 78, 79, 80, 81, 82, 83, 84, 85, 86, 87, 88, 89, 90, 91, 92, 93, 94, 95, 96, 97, 98, 99, 100, 101, 102, 103, 104, 105, 106, 107, 108, 109, 110, 111, 112, 113, 114, 115, 116, 117, 118, 119, 120, 121, 122, 123, 124, 125, 126, 127, 128, 129, 130, 131, 132, 133, 134, 135, 136, 137, 138, 139, 140, 141, 142, 143, 144, 145, 146, 147, 148, 149, 150, 151, 152, 153, 154, 155, 156, 157, 158, 159, 160, 161, 162, 163, 164, 165, 166, 167, 168, 169, 170, 171, 172, 173, 174, 175, 176, 177] (by decide +kernel) (by decide +kernel)
set_option maxRecDepth 20000 in
theorem gX6_judge_X6_sailTheText : GoodIn wsX6_judge (wsV RX6 112 RX6 yX6_sailTheText wsX6_sailTheText) := goodIn_app (goodIn_of _ (by decide +kernel)) ggX6_judge_X6_sailTheText
theorem dX6_judge_0 : decode cX6_judge 0 = .ok (.aload_n 0, 1) := by decide +kernel
theorem dX6_judge_1 : decode cX6_judge 1 = .ok (.iload_n 1, 1) := by decide +kernel
theorem dX6_judge_2 : decode cX6_judge 2 = .ok (.iconst 2, 1) := by decide +kernel
theorem dX6_judge_3 : decode cX6_judge 3 = .ok (.iload_n 1, 1) := by decide +kernel
theorem dX6_judge_4 : decode cX6_judge 4 = .ok (.iconst 2, 1) := by decide +kernel
theorem dX6_judge_5 : decode cX6_judge 5 = .ok (.if_icmp .ne 7, 3) := by decide +kernel
theorem dX6_judge_8 : decode cX6_judge 8 = .ok (.iconst 1, 1) := by decide +kernel
theorem dX6_judge_9 : decode cX6_judge 9 = .ok (.goto 4, 3) := by decide +kernel
theorem dX6_judge_12 : decode cX6_judge 12 = .ok (.iconst 0, 1) := by decide +kernel
theorem dX6_judge_13 : decode cX6_judge 13 = .ok (.invokevirtual 112, 3) := by decide +kernel
theorem dX6_judge_16 : decode cX6_judge 16 = .ok (.istore_n 2, 1) := by decide +kernel
theorem dX6_judge_17 : decode cX6_judge 17 = .ok (.iload_n 2, 1) := by decide +kernel
theorem dX6_judge_18 : decode cX6_judge 18 = .ok (.ifCond .eq 5, 3) := by decide +kernel
theorem dX6_judge_21 : decode cX6_judge 21 = .ok (.iload_n 2, 1) := by decide +kernel
theorem dX6_judge_22 : decode cX6_judge 22 = .ok (.ireturn, 1) := by decide +kernel
theorem dX6_judge_23 : decode cX6_judge 23 = .ok (.iload_n 1, 1) := by decide +kernel
theorem dX6_judge_24 : decode cX6_judge 24 = .ok (.lookupswitch 44 #[(0, 28), (1, 36)], 28) := by decide +kernel
theorem dX6_judge_52 : decode cX6_judge 52 = .ok (.aload_n 0, 1) := by decide +kernel
theorem dX6_judge_53 : decode cX6_judge 53 = .ok (.getfield 26, 3) := by decide +kernel
theorem dX6_judge_56 : decode cX6_judge 56 = .ok (.getfield 116, 3) := by decide +kernel
theorem dX6_judge_59 : decode cX6_judge 59 = .ok (.ireturn, 1) := by decide +kernel
theorem dX6_judge_60 : decode cX6_judge 60 = .ok (.aload_n 0, 1) := by decide +kernel
theorem dX6_judge_61 : decode cX6_judge 61 = .ok (.getfield 26, 3) := by decide +kernel
theorem dX6_judge_64 : decode cX6_judge 64 = .ok (.getfield 119, 3) := by decide +kernel
theorem dX6_judge_67 : decode cX6_judge 67 = .ok (.ireturn, 1) := by decide +kernel
theorem dX6_judge_68 : decode cX6_judge 68 = .ok (.aload_n 0, 1) := by decide +kernel
theorem dX6_judge_69 : decode cX6_judge 69 = .ok (.getfield 26, 3) := by decide +kernel
theorem dX6_judge_72 : decode cX6_judge 72 = .ok (.getfield 122, 3) := by decide +kernel
theorem dX6_judge_75 : decode cX6_judge 75 = .ok (.ireturn, 1) := by decide +kernel
set_option maxRecDepth 20000 in
theorem ggX6_behind_X6_sailTheText : GoodIn wsX6_behind wsX6_sailTheText := goodIn_r _ [7, 8, 1, 9, 10, 11, 12, 6, 13, 14, 15, 16, 17, 18, 19, 20, 21, 22, 23, 24, 25, 26, 27, 28, 29, 30, 31, 32, 33, 34, 35, 36, 37, 38, 39, 40, 41, 42, 43, 44, 45, 46, 47, 48, 49, 50, 51, 52, 53, 54, 55, 56, 57, 58, 59, 60, 61, 62, 63, 64, 65, 66, 67, 68, 69, 70, 71, 72, 73, 74, 75, 76, 77, 78, 79, 80, 81, 82, 83, 84, 85, 86, 87, 88, 89, 90, 91, 92, 93, 94, 95, 96, 97, 98, 99, 100, 101, 102, 103, 104, 105, 106, 107, 108, 109, 110, 111, 112, 113, 114, 115, 116, 117, 118, 119, 120, 121, 122, 123, 124, 125, 126, 127, 128, 129, 130, 131, 132, 133, 134, 135, 136, 137, 138, 139, 140, 141, 142, 143, 144, 145, 146, 147, 148, 149, 159, 160, 161, 162, 163, 164, 165, 166, 167, 168, 169, 170, 171, 172, 173, 174, 175, 176, 177, 178, 179, 180, 181, 182, 183, 184, 185] (by decide +kernel) (by decide +kernel)
set_option maxRecDepth 20000 in
theorem gX6_behind_X6_sailTheText : GoodIn wsX6_behind (wsV RX6 112 RX6 yX6_sailTheText wsX6_sailTheText) := goodIn_app (goodIn_of _ (by decide +kernel)) ggX6_behind_X6_sailTheText
set_option maxRecDepth 20000 in
theorem ggX6_behind_X6_shipAndWatch : GoodIn wsX6_behind wsX6_shipAndWatch := goodIn_r _ [152, 153, 154, 155, 156, 157, 158, 176, 177, 178, 179, 180, 181, 182, 183, 184, 185] (by decide +kernel) (by decide +kernel)
set_option maxRecDepth 20000 in
theorem gX6_behind_X6_shipAndWatch : GoodIn wsX6_behind (va_wsS RX6 128 yX6_shipAndWatch wsX6_shipAndWatch) := goodIn_app (goodIn_of _ (by decide +kernel)) ggX6_behind_X6_shipAndWatch
theorem dX6_behind_0 : decode cX6_behind 0 = .ok (.aload_n 0, 1) := by decide +kernel
theorem dX6_behind_1 : decode cX6_behind 1 = .ok (.iload_n 1, 1) := by decide +kernel
theorem dX6_behind_2 : decode cX6_behind 2 = .ok (.iconst 5, 1) := by decide +kernel
theorem dX6_behind_3 : decode cX6_behind 3 = .ok (.iconst 1, 1) := by decide +kernel
theorem dX6_behind_4 : decode cX6_behind 4 = .ok (.invokevirtual 112, 3) := by decide +kernel
theorem dX6_behind_7 : decode cX6_behind 7 = .ok (.istore_n 2, 1) := by decide +kernel
theorem dX6_behind_8 : decode cX6_behind 8 = .ok (.iload_n 2, 1) := by decide +kernel
theorem dX6_behind_9 : decode cX6_behind 9 = .ok (.ifCond .eq 7, 3) := by decide +kernel
theorem dX6_behind_12 : decode cX6_behind 12 = .ok (.iload_n 2, 1) := by decide +kernel
theorem dX6_behind_13 : decode cX6_behind 13 = .ok (.goto 14, 3) := by decide +kernel
theorem dX6_behind_16 : decode cX6_behind 16 = .ok (.aload_n 0, 1) := by decide +kernel
theorem dX6_behind_17 : decode cX6_behind 17 = .ok (.getfield 26, 3) := by decide +kernel
theorem dX6_behind_20 : decode cX6_behind 20 = .ok (.getfield 125, 3) := by decide +kernel
theorem dX6_behind_23 : decode cX6_behind 23 = .ok (.iload_n 1, 1) := by decide +kernel
theorem dX6_behind_24 : decode cX6_behind 24 = .ok (.invokestatic 128, 3) := by decide +kernel
theorem dX6_behind_27 : decode cX6_behind 27 = .ok (.ireturn, 1) := by decide +kernel
set_option maxRecDepth 20000 in
theorem ggX6_seen_X6_sailTheText : GoodIn wsX6_seen wsX6_sailTheText := goodIn_r _ [8, 9, 1, 10, 11, 12, 13, 7, 14, 15, 16, 17, 18, 19, 20, 21, 22, 23, 24, 25, 26, 27, 28, 29, 30, 31, 32, 33, 34, 35, 36, 37, 38, 39, 40, 41, 42, 43, 44, 45, 46, 47, 48, 49, 50, 51, 52, 53, 54, 55, 56, 57, 58, 59, 60, 61, 62, 63, 64, 65, 66, 67, 68, 69, 70, 71, 72, 73, 74, 75, 76, 77, 78, 79, 80, 81, 82, 83, 84, 85, 86, 87, 88, 89, 90, 91, 92, 93, 94, 95, 96, 97, 98, 99, 100, 101, 102, 103, 104, 105, 106, 107, 108, 109, 110, 111, 112, 113, 114, 115, 116, 117, 118, 119, 120, 121, 122, 123, 124, 125, 126, 127, 128, 129, 130, 131, 132, 133, 134, 135, 136, 137, 138, 139, 140, 141, 142, 143, 144, 145, 146, 147, 148, 149, 150, 173, 174, 175, 176, 177, 178, 179, 180, 181, 182, 183, 184, 185, 186, 187, 198, 199, 188, 189, 190, 191, 192, 193, 194, 195, 196, 197] (by decide +kernel) (by decide +kernel)
set_option maxRecDepth 20000 in
theorem gX6_seen_X6_sailTheText : GoodIn wsX6_seen (wsV RX6 112 RX6 yX6_sailTheText wsX6_sailTheText) := goodIn_app (goodIn_of _ (by decide +kernel)) ggX6_seen_X6_sailTheText
set_option maxRecDepth 20000 in
theorem ggX6_seen_X4_sighted : GoodIn wsX6_seen wsX4_sighted := goodIn_r _ [108, 68, 65, 66, 109, 110, 111, 63, 112, 74, 70, 113, 114, 115, 116, 69, 117, 118, 87, 119, 120, 121, 122, 123, 124, 125, 126, 188, 189, 190, 191, 192, 193, 194, 195, 196, 197] (by decide +kernel) (by decide +kernel)
set_option maxRecDepth 20000 in
theorem gX6_seen_X4_sighted : GoodIn wsX6_seen (wsV RX6 135 RX4 yX4_sighted wsX4_sighted) := goodIn_app (goodIn_of _ (by decide +kernel)) ggX6_seen_X4_sighted
set_option maxRecDepth 20000 in
theorem ggX6_seen_J13_bitCount_95d88 : GoodIn wsX6_seen wsJ13_bitCount_95d88 := goodIn_r _ [155, 156, 157, 158] (by decide +kernel) (by decide +kernel)
set_option maxRecDepth 20000 in
theorem gX6_seen_J13_bitCount_95d88 : GoodIn wsX6_seen (va_wsS RX6 76 yJ13_bitCount_95d88 wsJ13_bitCount_95d88) := goodIn_app (goodIn_of _ (by decide +kernel)) ggX6_seen_J13_bitCount_95d88
set_option maxRecDepth 20000 in
theorem ggX6_seen_X4_nearestFar : GoodIn wsX6_seen wsX4_nearestFar := goodIn_r _ [162, 66, 163, 106, 107, 63, 108, 68, 65, 109, 110, 111, 112, 74, 70, 113, 114, 115, 116, 69, 117, 118, 87, 119, 120, 121, 122, 123, 124, 125, 126, 188, 189, 190, 191, 192, 193, 194, 195, 196, 197] (by decide +kernel) (by decide +kernel)
set_option maxRecDepth 20000 in
theorem gX6_seen_X4_nearestFar : GoodIn wsX6_seen (wsV RX6 139 RX4 yX4_nearestFar wsX4_nearestFar) := goodIn_app (goodIn_of _ (by decide +kernel)) ggX6_seen_X4_nearestFar
set_option maxRecDepth 20000 in
theorem ggX6_seen_X4_nearestLand : GoodIn wsX6_seen wsX4_nearestLand := goodIn_r _ [167, 66, 168, 160, 161, 63, 162, 163, 106, 107, 108, 68, 65, 109, 110, 111, 112, 74, 70, 113, 114, 115, 116, 69, 117, 118, 87, 119, 120, 121, 122, 123, 124, 125, 126, 169, 170, 171, 172, 153, 154, 155, 156, 157, 158, 188, 189, 190, 191, 192, 193, 194, 195, 196, 197] (by decide +kernel) (by decide +kernel)
set_option maxRecDepth 20000 in
theorem gX6_seen_X4_nearestLand : GoodIn wsX6_seen (wsV RX6 142 RX4 yX4_nearestLand wsX4_nearestLand) := goodIn_app (goodIn_of _ (by decide +kernel)) ggX6_seen_X4_nearestLand
theorem dX6_seen_0 : decode cX6_seen 0 = .ok (.aload_n 0, 1) := by decide +kernel
theorem dX6_seen_1 : decode cX6_seen 1 = .ok (.iload_n 1, 1) := by decide +kernel
theorem dX6_seen_2 : decode cX6_seen 2 = .ok (.iconst 2, 1) := by decide +kernel
theorem dX6_seen_3 : decode cX6_seen 3 = .ok (.iconst 1, 1) := by decide +kernel
theorem dX6_seen_4 : decode cX6_seen 4 = .ok (.invokevirtual 112, 3) := by decide +kernel
theorem dX6_seen_7 : decode cX6_seen 7 = .ok (.istore_n 2, 1) := by decide +kernel
theorem dX6_seen_8 : decode cX6_seen 8 = .ok (.iload_n 2, 1) := by decide +kernel
theorem dX6_seen_9 : decode cX6_seen 9 = .ok (.ifCond .eq 5, 3) := by decide +kernel
theorem dX6_seen_12 : decode cX6_seen 12 = .ok (.iload_n 2, 1) := by decide +kernel
theorem dX6_seen_13 : decode cX6_seen 13 = .ok (.ireturn, 1) := by decide +kernel
theorem dX6_seen_14 : decode cX6_seen 14 = .ok (.aload_n 0, 1) := by decide +kernel
theorem dX6_seen_15 : decode cX6_seen 15 = .ok (.getfield 26, 3) := by decide +kernel
theorem dX6_seen_18 : decode cX6_seen 18 = .ok (.getfield 125, 3) := by decide +kernel
theorem dX6_seen_21 : decode cX6_seen 21 = .ok (.astore_n 3, 1) := by decide +kernel
theorem dX6_seen_22 : decode cX6_seen 22 = .ok (.aload_n 3, 1) := by decide +kernel
theorem dX6_seen_23 : decode cX6_seen 23 = .ok (.getfield 132, 3) := by decide +kernel
theorem dX6_seen_26 : decode cX6_seen 26 = .ok (.bipush (-6), 2) := by decide +kernel
theorem dX6_seen_28 : decode cX6_seen 28 = .ok (.if_icmp .ne 6, 3) := by decide +kernel
theorem dX6_seen_31 : decode cX6_seen 31 = .ok (.bipush (-6), 2) := by decide +kernel
theorem dX6_seen_33 : decode cX6_seen 33 = .ok (.ireturn, 1) := by decide +kernel
theorem dX6_seen_34 : decode cX6_seen 34 = .ok (.iload_n 1, 1) := by decide +kernel
theorem dX6_seen_35 : decode cX6_seen 35 = .ok (.lookupswitch 38 #[(0, 25), (1, 33)], 25) := by decide +kernel
theorem dX6_seen_60 : decode cX6_seen 60 = .ok (.aload_n 3, 1) := by decide +kernel
theorem dX6_seen_61 : decode cX6_seen 61 = .ok (.invokevirtual 135, 3) := by decide +kernel
theorem dX6_seen_64 : decode cX6_seen 64 = .ok (.invokestatic 76, 3) := by decide +kernel
theorem dX6_seen_67 : decode cX6_seen 67 = .ok (.ireturn, 1) := by decide +kernel
theorem dX6_seen_68 : decode cX6_seen 68 = .ok (.aload_n 3, 1) := by decide +kernel
theorem dX6_seen_69 : decode cX6_seen 69 = .ok (.invokevirtual 139, 3) := by decide +kernel
theorem dX6_seen_72 : decode cX6_seen 72 = .ok (.ireturn, 1) := by decide +kernel
theorem dX6_seen_73 : decode cX6_seen 73 = .ok (.aload_n 3, 1) := by decide +kernel
theorem dX6_seen_74 : decode cX6_seen 74 = .ok (.invokevirtual 142, 3) := by decide +kernel
theorem dX6_seen_77 : decode cX6_seen 77 = .ok (.ireturn, 1) := by decide +kernel
set_option maxRecDepth 20000 in
theorem ggX6_silence_X6_sailTheText : GoodIn wsX6_silence wsX6_sailTheText := goodIn_r _ [8, 9, 1, 10, 11, 12, 13, 7, 14, 15, 16, 17, 18, 19, 20, 21, 22, 23, 24, 25, 26, 27, 28, 29, 30, 31, 32, 33, 34, 35, 36, 37, 38, 39, 40, 41, 42, 43, 44, 45, 46, 47, 48, 49, 50, 51, 52, 53, 54, 55, 56, 57, 58, 59, 60, 61, 62, 63, 64, 65, 66, 67, 68, 69, 70, 71, 72, 73, 74, 75, 76, 77, 78, 79, 80, 81, 82, 83, 84, 85, 86, 87, 88, 89, 90, 91, 92, 93, 94, 95, 96, 97, 98, 99, 100, 101, 102, 103, 104, 105, 106, 107, 108, 109, 110, 111, 112, 113, 114, 115, 116, 117, 118, 119, 120, 121, 122, 123, 124, 125, 126, 127, 128, 129, 130, 131, 132, 133, 134, 135, 136, 137, 138, 139, 140, 141, 142, 143, 144, 145, 146, 147, 148, 149, 150, 151, 152, 153, 154, 155, 156, 157, 158, 159, 160, 161, 162, 163, 164, 165, 166, 167, 168, 169, 170, 171, 172, 173, 174, 175, 176, 177] (by decide +kernel) (by decide +kernel)
set_option maxRecDepth 20000 in
theorem gX6_silence_X6_sailTheText : GoodIn wsX6_silence (wsV RX6 112 RX6 yX6_sailTheText wsX6_sailTheText) := goodIn_app (goodIn_of _ (by decide +kernel)) ggX6_silence_X6_sailTheText
theorem dX6_silence_0 : decode cX6_silence 0 = .ok (.aload_n 0, 1) := by decide +kernel
theorem dX6_silence_1 : decode cX6_silence 1 = .ok (.iload_n 1, 1) := by decide +kernel
theorem dX6_silence_2 : decode cX6_silence 2 = .ok (.iconst 1, 1) := by decide +kernel
theorem dX6_silence_3 : decode cX6_silence 3 = .ok (.iconst 1, 1) := by decide +kernel
theorem dX6_silence_4 : decode cX6_silence 4 = .ok (.invokevirtual 112, 3) := by decide +kernel
theorem dX6_silence_7 : decode cX6_silence 7 = .ok (.istore_n 2, 1) := by decide +kernel
theorem dX6_silence_8 : decode cX6_silence 8 = .ok (.iload_n 2, 1) := by decide +kernel
theorem dX6_silence_9 : decode cX6_silence 9 = .ok (.ifCond .eq 5, 3) := by decide +kernel
theorem dX6_silence_12 : decode cX6_silence 12 = .ok (.iload_n 2, 1) := by decide +kernel
theorem dX6_silence_13 : decode cX6_silence 13 = .ok (.ireturn, 1) := by decide +kernel
theorem dX6_silence_14 : decode cX6_silence 14 = .ok (.iload_n 1, 1) := by decide +kernel
theorem dX6_silence_15 : decode cX6_silence 15 = .ok (.ifCond .ne 13, 3) := by decide +kernel
theorem dX6_silence_18 : decode cX6_silence 18 = .ok (.aload_n 0, 1) := by decide +kernel
theorem dX6_silence_19 : decode cX6_silence 19 = .ok (.getfield 26, 3) := by decide +kernel
theorem dX6_silence_22 : decode cX6_silence 22 = .ok (.getfield 145, 3) := by decide +kernel
theorem dX6_silence_25 : decode cX6_silence 25 = .ok (.goto 10, 3) := by decide +kernel
theorem dX6_silence_28 : decode cX6_silence 28 = .ok (.aload_n 0, 1) := by decide +kernel
theorem dX6_silence_29 : decode cX6_silence 29 = .ok (.getfield 26, 3) := by decide +kernel
theorem dX6_silence_32 : decode cX6_silence 32 = .ok (.getfield 148, 3) := by decide +kernel
theorem dX6_silence_35 : decode cX6_silence 35 = .ok (.ireturn, 1) := by decide +kernel
set_option maxRecDepth 20000 in
theorem ggX6_done_X6_sailTheText : GoodIn wsX6_done wsX6_sailTheText := goodIn_r _ [11, 4, 2, 1, 12, 13, 14, 10, 15, 16, 17, 18, 19, 20, 21, 22, 23, 24, 25, 26, 27, 28, 29, 30, 31, 32, 33, 34, 35, 36, 37, 38, 39, 40, 41, 42, 43, 44, 45, 46, 47, 48, 49, 50, 51, 52, 53, 54, 55, 56, 57, 58, 59, 60, 61, 62, 63, 64, 65, 66, 67, 68, 69, 70, 71, 72, 73, 74, 75, 76, 77, 78, 79, 80, 81, 82, 83, 84, 85, 86, 87, 88, 89, 90, 91, 92, 93, 94, 95, 96, 97, 98, 99, 100, 101, 102, 103, 104, 105, 106, 107, 108, 109, 110, 111, 112, 113, 114, 115, 116, 117, 118, 119, 120, 121, 122, 123, 124, 125, 126, 127, 128, 129, 130, 131, 132, 133, 134, 135, 136, 137, 138, 139, 140, 141, 142, 143, 144, 145, 146, 147, 148, 149, 150, 151, 153, 154, 155, 156, 157, 158, 159, 160, 161, 162, 163, 164, 165, 166, 167, 168, 169, 170, 171, 172, 173, 174, 175, 176, 177, 178, 179] (by decide +kernel) (by decide +kernel)
set_option maxRecDepth 20000 in
theorem gX6_done_X6_sailTheText : GoodIn wsX6_done (wsV RX6 112 RX6 yX6_sailTheText wsX6_sailTheText) := goodIn_app (goodIn_of _ (by decide +kernel)) ggX6_done_X6_sailTheText
set_option maxRecDepth 20000 in
theorem ggX6_done_X4_takeOver : GoodIn wsX6_done wsX4_takeOver := goodIn_r _ [65, 66, 67, 68, 69, 70, 71, 72, 73, 74, 75, 170, 171, 172, 173, 174, 175, 176, 177, 178, 179] (by decide +kernel) (by decide +kernel)
set_option maxRecDepth 20000 in
theorem gX6_done_X4_takeOver : GoodIn wsX6_done (wsV RX6 151 RX4 yX4_takeOver wsX4_takeOver) := goodIn_app (goodIn_of _ (by decide +kernel)) ggX6_done_X4_takeOver
theorem dX6_done_0 : decode cX6_done 0 = .ok (.aload_n 0, 1) := by decide +kernel
theorem dX6_done_1 : decode cX6_done 1 = .ok (.iconst 0, 1) := by decide +kernel
theorem dX6_done_2 : decode cX6_done 2 = .ok (.iconst 0, 1) := by decide +kernel
theorem dX6_done_3 : decode cX6_done 3 = .ok (.iconst 1, 1) := by decide +kernel
theorem dX6_done_4 : decode cX6_done 4 = .ok (.invokevirtual 112, 3) := by decide +kernel
theorem dX6_done_7 : decode cX6_done 7 = .ok (.istore_n 1, 1) := by decide +kernel
theorem dX6_done_8 : decode cX6_done 8 = .ok (.iload_n 1, 1) := by decide +kernel
theorem dX6_done_9 : decode cX6_done 9 = .ok (.ifCond .eq 5, 3) := by decide +kernel
theorem dX6_done_12 : decode cX6_done 12 = .ok (.iload_n 1, 1) := by decide +kernel
theorem dX6_done_13 : decode cX6_done 13 = .ok (.ireturn, 1) := by decide +kernel
theorem dX6_done_14 : decode cX6_done 14 = .ok (.aload_n 0, 1) := by decide +kernel
theorem dX6_done_15 : decode cX6_done 15 = .ok (.getfield 10, 3) := by decide +kernel
theorem dX6_done_18 : decode cX6_done 18 = .ok (.aload_n 0, 1) := by decide +kernel
theorem dX6_done_19 : decode cX6_done 19 = .ok (.getfield 26, 3) := by decide +kernel
theorem dX6_done_22 : decode cX6_done 22 = .ok (.getfield 125, 3) := by decide +kernel
theorem dX6_done_25 : decode cX6_done 25 = .ok (.invokevirtual 151, 3) := by decide +kernel
theorem dX6_done_28 : decode cX6_done 28 = .ok (.aload_n 0, 1) := by decide +kernel
theorem dX6_done_29 : decode cX6_done 29 = .ok (.getfield 19, 3) := by decide +kernel
theorem dX6_done_32 : decode cX6_done 32 = .ok (.iconst 0, 1) := by decide +kernel
theorem dX6_done_33 : decode cX6_done 33 = .ok (.putfield 105, 3) := by decide +kernel
theorem dX6_done_36 : decode cX6_done 36 = .ok (.aload_n 0, 1) := by decide +kernel
theorem dX6_done_37 : decode cX6_done 37 = .ok (.getfield 26, 3) := by decide +kernel
theorem dX6_done_40 : decode cX6_done 40 = .ok (.getfield 155, 3) := by decide +kernel
theorem dX6_done_43 : decode cX6_done 43 = .ok (.ireturn, 1) := by decide +kernel
set_option maxRecDepth 20000 in
theorem ggX6_course_X0_isCell : GoodIn wsX6_course wsX0_isCell := goodIn_r _ [4] (by decide +kernel) (by decide +kernel)
set_option maxRecDepth 20000 in
theorem gX6_course_X0_isCell : GoodIn wsX6_course (va_wsS RX6 52 yX0_isCell wsX0_isCell) := goodIn_app (goodIn_of _ (by decide +kernel)) ggX6_course_X0_isCell
set_option maxRecDepth 20000 in
theorem ggX6_course_X6_within : GoodIn wsX6_course wsX6_within := goodIn_r _ [8] (by decide +kernel) (by decide +kernel)
set_option maxRecDepth 20000 in
theorem gX6_course_X6_within : GoodIn wsX6_course (va_wsS RX6 58 yX6_within wsX6_within) := goodIn_app (goodIn_of _ (by decide +kernel)) ggX6_course_X6_within
set_option maxRecDepth 20000 in
theorem ggX6_course_X6_fewestSteps : GoodIn wsX6_course wsX6_fewestSteps := goodIn_r _ [12, 13, 14, 15, 16, 17, 18, 19, 20, 21, 22, 23, 3, 24, 25, 26, 27, 28, 29, 30, 31, 32, 33, 34, 35, 36, 37, 38, 39, 40, 41, 2, 4, 42, 43, 44, 45, 46, 47, 48, 49, 50, 51, 52, 53, 54, 55, 56, 57, 58, 59, 60, 61, 62] (by decide +kernel) (by decide +kernel)
set_option maxRecDepth 20000 in
theorem gX6_course_X6_fewestSteps : GoodIn wsX6_course (wsV RX6 158 RX6 yX6_fewestSteps wsX6_fewestSteps) := goodIn_app (goodIn_of _ (by decide +kernel)) ggX6_course_X6_fewestSteps
theorem dX6_course_0 : decode cX6_course 0 = .ok (.iload_n 1, 1) := by decide +kernel
theorem dX6_course_1 : decode cX6_course 1 = .ok (.invokestatic 52, 3) := by decide +kernel
theorem dX6_course_4 : decode cX6_course 4 = .ok (.ifCond .eq 10, 3) := by decide +kernel
theorem dX6_course_7 : decode cX6_course 7 = .ok (.iload_n 2, 1) := by decide +kernel
theorem dX6_course_8 : decode cX6_course 8 = .ok (.invokestatic 52, 3) := by decide +kernel
theorem dX6_course_11 : decode cX6_course 11 = .ok (.ifCond .ne 5, 3) := by decide +kernel
theorem dX6_course_14 : decode cX6_course 14 = .ok (.iconst (-1), 1) := by decide +kernel
theorem dX6_course_15 : decode cX6_course 15 = .ok (.ireturn, 1) := by decide +kernel
theorem dX6_course_16 : decode cX6_course 16 = .ok (.iload_n 3, 1) := by decide +kernel
theorem dX6_course_17 : decode cX6_course 17 = .ok (.iconst 0, 1) := by decide +kernel
theorem dX6_course_18 : decode cX6_course 18 = .ok (.iconst 1, 1) := by decide +kernel
theorem dX6_course_19 : decode cX6_course 19 = .ok (.invokestatic 58, 3) := by decide +kernel
theorem dX6_course_22 : decode cX6_course 22 = .ok (.ifCond .ne 6, 3) := by decide +kernel
theorem dX6_course_25 : decode cX6_course 25 = .ok (.bipush (-2), 2) := by decide +kernel
theorem dX6_course_27 : decode cX6_course 27 = .ok (.ireturn, 1) := by decide +kernel
theorem dX6_course_28 : decode cX6_course 28 = .ok (.aload_n 0, 1) := by decide +kernel
theorem dX6_course_29 : decode cX6_course 29 = .ok (.iload_n 1, 1) := by decide +kernel
theorem dX6_course_30 : decode cX6_course 30 = .ok (.iload_n 2, 1) := by decide +kernel
theorem dX6_course_31 : decode cX6_course 31 = .ok (.iload_n 3, 1) := by decide +kernel
theorem dX6_course_32 : decode cX6_course 32 = .ok (.invokevirtual 158, 3) := by decide +kernel
theorem dX6_course_35 : decode cX6_course 35 = .ok (.ireturn, 1) := by decide +kernel
set_option maxRecDepth 20000 in
theorem ggX6_cross_X0_isCell : GoodIn wsX6_cross wsX0_isCell := goodIn_r _ [4] (by decide +kernel) (by decide +kernel)
set_option maxRecDepth 20000 in
theorem gX6_cross_X0_isCell : GoodIn wsX6_cross (va_wsS RX6 52 yX0_isCell wsX0_isCell) := goodIn_app (goodIn_of _ (by decide +kernel)) ggX6_cross_X0_isCell
set_option maxRecDepth 20000 in
theorem ggX6_cross_X0_isWay : GoodIn wsX6_cross wsX0_isWay := goodIn_r _ [7] (by decide +kernel) (by decide +kernel)
set_option maxRecDepth 20000 in
theorem gX6_cross_X0_isWay : GoodIn wsX6_cross (va_wsS RX6 162 yX0_isWay wsX0_isWay) := goodIn_app (goodIn_of _ (by decide +kernel)) ggX6_cross_X0_isWay
set_option maxRecDepth 20000 in
theorem ggX6_cross_X6_within : GoodIn wsX6_cross wsX6_within := goodIn_r _ [11] (by decide +kernel) (by decide +kernel)
set_option maxRecDepth 20000 in
theorem gX6_cross_X6_within : GoodIn wsX6_cross (va_wsS RX6 58 yX6_within wsX6_within) := goodIn_app (goodIn_of _ (by decide +kernel)) ggX6_cross_X6_within
set_option maxRecDepth 20000 in
theorem ggX6_cross_X0_ray : GoodIn wsX6_cross wsX0_ray := goodIn_r _ [14, 15, 16, 3, 17, 18, 19, 20, 2, 4, 21, 22, 23, 24, 25, 26] (by decide +kernel) (by decide +kernel)
set_option maxRecDepth 20000 in
theorem gX6_cross_X0_ray : GoodIn wsX6_cross (va_wsS RX6 165 yX0_ray wsX0_ray) := goodIn_app (goodIn_of _ (by decide +kernel)) ggX6_cross_X0_ray
set_option maxRecDepth 20000 in
theorem ggX6_cross_J13_bitCount_95d88 : GoodIn wsX6_cross wsJ13_bitCount_95d88 := goodIn_r _ [30, 31, 32, 33] (by decide +kernel) (by decide +kernel)
set_option maxRecDepth 20000 in
theorem gX6_cross_J13_bitCount_95d88 : GoodIn wsX6_cross (va_wsS RX6 76 yJ13_bitCount_95d88 wsJ13_bitCount_95d88) := goodIn_app (goodIn_of _ (by decide +kernel)) ggX6_cross_J13_bitCount_95d88
set_option maxRecDepth 20000 in
theorem ggX6_cross_X0_least : GoodIn wsX6_cross wsX0_least := goodIn_r _ [36, 37, 28, 29, 30, 31, 32, 33] (by decide +kernel) (by decide +kernel)
set_option maxRecDepth 20000 in
theorem gX6_cross_X0_least : GoodIn wsX6_cross (va_wsS RX6 169 yX0_least wsX0_least) := goodIn_app (goodIn_of _ (by decide +kernel)) ggX6_cross_X0_least
theorem dX6_cross_0 : decode cX6_cross 0 = .ok (.iload_n 1, 1) := by decide +kernel
theorem dX6_cross_1 : decode cX6_cross 1 = .ok (.invokestatic 52, 3) := by decide +kernel
theorem dX6_cross_4 : decode cX6_cross 4 = .ok (.ifCond .eq 10, 3) := by decide +kernel
theorem dX6_cross_7 : decode cX6_cross 7 = .ok (.iload_n 3, 1) := by decide +kernel
theorem dX6_cross_8 : decode cX6_cross 8 = .ok (.invokestatic 52, 3) := by decide +kernel
theorem dX6_cross_11 : decode cX6_cross 11 = .ok (.ifCond .ne 5, 3) := by decide +kernel
theorem dX6_cross_14 : decode cX6_cross 14 = .ok (.iconst (-1), 1) := by decide +kernel
theorem dX6_cross_15 : decode cX6_cross 15 = .ok (.ireturn, 1) := by decide +kernel
theorem dX6_cross_16 : decode cX6_cross 16 = .ok (.iload_n 2, 1) := by decide +kernel
theorem dX6_cross_17 : decode cX6_cross 17 = .ok (.invokestatic 162, 3) := by decide +kernel
theorem dX6_cross_20 : decode cX6_cross 20 = .ok (.ifCond .eq 21, 3) := by decide +kernel
theorem dX6_cross_23 : decode cX6_cross 23 = .ok (.iload 4, 2) := by decide +kernel
theorem dX6_cross_25 : decode cX6_cross 25 = .ok (.invokestatic 162, 3) := by decide +kernel
theorem dX6_cross_28 : decode cX6_cross 28 = .ok (.ifCond .eq 13, 3) := by decide +kernel
theorem dX6_cross_31 : decode cX6_cross 31 = .ok (.iload 5, 2) := by decide +kernel
theorem dX6_cross_33 : decode cX6_cross 33 = .ok (.iconst 0, 1) := by decide +kernel
theorem dX6_cross_34 : decode cX6_cross 34 = .ok (.iconst 1, 1) := by decide +kernel
theorem dX6_cross_35 : decode cX6_cross 35 = .ok (.invokestatic 58, 3) := by decide +kernel
theorem dX6_cross_38 : decode cX6_cross 38 = .ok (.ifCond .ne 6, 3) := by decide +kernel
theorem dX6_cross_41 : decode cX6_cross 41 = .ok (.bipush (-2), 2) := by decide +kernel
theorem dX6_cross_43 : decode cX6_cross 43 = .ok (.ireturn, 1) := by decide +kernel
theorem dX6_cross_44 : decode cX6_cross 44 = .ok (.iload_n 1, 1) := by decide +kernel
theorem dX6_cross_45 : decode cX6_cross 45 = .ok (.iload_n 2, 1) := by decide +kernel
theorem dX6_cross_46 : decode cX6_cross 46 = .ok (.invokestatic 165, 3) := by decide +kernel
theorem dX6_cross_49 : decode cX6_cross 49 = .ok (.iload_n 3, 1) := by decide +kernel
theorem dX6_cross_50 : decode cX6_cross 50 = .ok (.iload 4, 2) := by decide +kernel
theorem dX6_cross_52 : decode cX6_cross 52 = .ok (.invokestatic 165, 3) := by decide +kernel
theorem dX6_cross_55 : decode cX6_cross 55 = .ok (.land, 1) := by decide +kernel
theorem dX6_cross_56 : decode cX6_cross 56 = .ok (.lstore 6, 2) := by decide +kernel
theorem dX6_cross_58 : decode cX6_cross 58 = .ok (.iload 5, 2) := by decide +kernel
theorem dX6_cross_60 : decode cX6_cross 60 = .ok (.ifCond .ne 11, 3) := by decide +kernel
theorem dX6_cross_63 : decode cX6_cross 63 = .ok (.lload 6, 2) := by decide +kernel
theorem dX6_cross_65 : decode cX6_cross 65 = .ok (.invokestatic 76, 3) := by decide +kernel
theorem dX6_cross_68 : decode cX6_cross 68 = .ok (.goto 8, 3) := by decide +kernel
theorem dX6_cross_71 : decode cX6_cross 71 = .ok (.lload 6, 2) := by decide +kernel
theorem dX6_cross_73 : decode cX6_cross 73 = .ok (.invokestatic 169, 3) := by decide +kernel
theorem dX6_cross_76 : decode cX6_cross 76 = .ok (.ireturn, 1) := by decide +kernel
set_option maxRecDepth 20000 in
theorem ggX6_ropes_X6_within : GoodIn wsX6_ropes wsX6_within := goodIn_r _ [5] (by decide +kernel) (by decide +kernel)
set_option maxRecDepth 20000 in
theorem gX6_ropes_X6_within : GoodIn wsX6_ropes (va_wsS RX6 58 yX6_within wsX6_within) := goodIn_app (goodIn_of _ (by decide +kernel)) ggX6_ropes_X6_within
set_option maxRecDepth 20000 in
theorem ggX6_ropes_X3_takePieces : GoodIn wsX6_ropes wsX3_takePieces := goodIn_r _ [10, 11, 12, 40, 41, 42] (by decide +kernel) (by decide +kernel)
set_option maxRecDepth 20000 in
theorem gX6_ropes_X3_takePieces : GoodIn wsX6_ropes (wsV RX6 172 RX3 yX3_takePieces wsX3_takePieces) := goodIn_app (goodIn_of _ (by decide +kernel)) ggX6_ropes_X3_takePieces
set_option maxRecDepth 20000 in
theorem ggX6_ropes_X3_fewestRopes : GoodIn wsX6_ropes wsX3_fewestRopes := goodIn_r _ [16, 11, 17, 18, 19, 20, 9, 21, 12, 22, 23, 24, 25, 26, 27, 28, 40, 41, 42] (by decide +kernel) (by decide +kernel)
set_option maxRecDepth 20000 in
theorem gX6_ropes_X3_fewestRopes : GoodIn wsX6_ropes (wsV RX6 176 RX3 yX3_fewestRopes wsX3_fewestRopes) := goodIn_app (goodIn_of _ (by decide +kernel)) ggX6_ropes_X3_fewestRopes
set_option maxRecDepth 20000 in
theorem ggX6_ropes_X3_mostFromOne : GoodIn wsX6_ropes wsX3_mostFromOne := goodIn_r _ [32, 11, 12, 40, 41, 42] (by decide +kernel) (by decide +kernel)
set_option maxRecDepth 20000 in
theorem gX6_ropes_X3_mostFromOne : GoodIn wsX6_ropes (wsV RX6 179 RX3 yX3_mostFromOne wsX3_mostFromOne) := goodIn_app (goodIn_of _ (by decide +kernel)) ggX6_ropes_X3_mostFromOne
theorem dX6_ropes_0 : decode cX6_ropes 0 = .ok (.iload_n 2, 1) := by decide +kernel
theorem dX6_ropes_1 : decode cX6_ropes 1 = .ok (.iconst 1, 1) := by decide +kernel
theorem dX6_ropes_2 : decode cX6_ropes 2 = .ok (.bipush 9, 2) := by decide +kernel
theorem dX6_ropes_4 : decode cX6_ropes 4 = .ok (.invokestatic 58, 3) := by decide +kernel
theorem dX6_ropes_7 : decode cX6_ropes 7 = .ok (.ifCond .eq 15, 3) := by decide +kernel
theorem dX6_ropes_10 : decode cX6_ropes 10 = .ok (.aload_n 0, 1) := by decide +kernel
theorem dX6_ropes_11 : decode cX6_ropes 11 = .ok (.getfield 33, 3) := by decide +kernel
theorem dX6_ropes_14 : decode cX6_ropes 14 = .ok (.iload_n 1, 1) := by decide +kernel
theorem dX6_ropes_15 : decode cX6_ropes 15 = .ok (.iload_n 2, 1) := by decide +kernel
theorem dX6_ropes_16 : decode cX6_ropes 16 = .ok (.invokevirtual 172, 3) := by decide +kernel
theorem dX6_ropes_19 : decode cX6_ropes 19 = .ok (.ifCond .ne 6, 3) := by decide +kernel
theorem dX6_ropes_22 : decode cX6_ropes 22 = .ok (.bipush (-2), 2) := by decide +kernel
theorem dX6_ropes_24 : decode cX6_ropes 24 = .ok (.ireturn, 1) := by decide +kernel
theorem dX6_ropes_25 : decode cX6_ropes 25 = .ok (.iload_n 3, 1) := by decide +kernel
theorem dX6_ropes_26 : decode cX6_ropes 26 = .ok (.bipush 9, 2) := by decide +kernel
theorem dX6_ropes_28 : decode cX6_ropes 28 = .ok (.bipush 30, 2) := by decide +kernel
theorem dX6_ropes_30 : decode cX6_ropes 30 = .ok (.invokestatic 58, 3) := by decide +kernel
theorem dX6_ropes_33 : decode cX6_ropes 33 = .ok (.ifCond .eq 13, 3) := by decide +kernel
theorem dX6_ropes_36 : decode cX6_ropes 36 = .ok (.iload 4, 2) := by decide +kernel
theorem dX6_ropes_38 : decode cX6_ropes 38 = .ok (.iconst 0, 1) := by decide +kernel
theorem dX6_ropes_39 : decode cX6_ropes 39 = .ok (.iconst 1, 1) := by decide +kernel
theorem dX6_ropes_40 : decode cX6_ropes 40 = .ok (.invokestatic 58, 3) := by decide +kernel
theorem dX6_ropes_43 : decode cX6_ropes 43 = .ok (.ifCond .ne 6, 3) := by decide +kernel
theorem dX6_ropes_46 : decode cX6_ropes 46 = .ok (.bipush (-2), 2) := by decide +kernel
theorem dX6_ropes_48 : decode cX6_ropes 48 = .ok (.ireturn, 1) := by decide +kernel
theorem dX6_ropes_49 : decode cX6_ropes 49 = .ok (.iload 4, 2) := by decide +kernel
theorem dX6_ropes_51 : decode cX6_ropes 51 = .ok (.ifCond .ne 14, 3) := by decide +kernel
theorem dX6_ropes_54 : decode cX6_ropes 54 = .ok (.aload_n 0, 1) := by decide +kernel
theorem dX6_ropes_55 : decode cX6_ropes 55 = .ok (.getfield 33, 3) := by decide +kernel
theorem dX6_ropes_58 : decode cX6_ropes 58 = .ok (.iload_n 3, 1) := by decide +kernel
theorem dX6_ropes_59 : decode cX6_ropes 59 = .ok (.invokevirtual 176, 3) := by decide +kernel
theorem dX6_ropes_62 : decode cX6_ropes 62 = .ok (.goto 11, 3) := by decide +kernel
theorem dX6_ropes_65 : decode cX6_ropes 65 = .ok (.aload_n 0, 1) := by decide +kernel
theorem dX6_ropes_66 : decode cX6_ropes 66 = .ok (.getfield 33, 3) := by decide +kernel
theorem dX6_ropes_69 : decode cX6_ropes 69 = .ok (.iload_n 3, 1) := by decide +kernel
theorem dX6_ropes_70 : decode cX6_ropes 70 = .ok (.invokevirtual 179, 3) := by decide +kernel
theorem dX6_ropes_73 : decode cX6_ropes 73 = .ok (.ireturn, 1) := by decide +kernel
set_option maxRecDepth 20000 in
theorem ggX6_look_X0_isCell : GoodIn wsX6_look wsX0_isCell := goodIn_r _ [8] (by decide +kernel) (by decide +kernel)
set_option maxRecDepth 20000 in
theorem gX6_look_X0_isCell : GoodIn wsX6_look (va_wsS RX6 52 yX0_isCell wsX0_isCell) := goodIn_app (goodIn_of _ (by decide +kernel)) ggX6_look_X0_isCell
set_option maxRecDepth 20000 in
theorem ggX6_look_X6_within : GoodIn wsX6_look wsX6_within := goodIn_r _ [12] (by decide +kernel) (by decide +kernel)
set_option maxRecDepth 20000 in
theorem gX6_look_X6_within : GoodIn wsX6_look (va_wsS RX6 58 yX6_within wsX6_within) := goodIn_app (goodIn_of _ (by decide +kernel)) ggX6_look_X6_within
set_option maxRecDepth 20000 in
theorem ggX6_look_X0_around : GoodIn wsX6_look wsX0_around := goodIn_r _ [15, 16, 17, 18, 19, 20, 21, 22, 23, 24, 25] (by decide +kernel) (by decide +kernel)
set_option maxRecDepth 20000 in
theorem gX6_look_X0_around : GoodIn wsX6_look (va_wsS RX6 185 yX0_around wsX0_around) := goodIn_app (goodIn_of _ (by decide +kernel)) ggX6_look_X0_around
theorem dX6_look_0 : decode cX6_look 0 = .ok (.iload_n 1, 1) := by decide +kernel
theorem dX6_look_1 : decode cX6_look 1 = .ok (.invokestatic 52, 3) := by decide +kernel
theorem dX6_look_4 : decode cX6_look 4 = .ok (.ifCond .ne 5, 3) := by decide +kernel
theorem dX6_look_7 : decode cX6_look 7 = .ok (.iconst (-1), 1) := by decide +kernel
theorem dX6_look_8 : decode cX6_look 8 = .ok (.ireturn, 1) := by decide +kernel
theorem dX6_look_9 : decode cX6_look 9 = .ok (.iload_n 2, 1) := by decide +kernel
theorem dX6_look_10 : decode cX6_look 10 = .ok (.iconst 0, 1) := by decide +kernel
theorem dX6_look_11 : decode cX6_look 11 = .ok (.bipush 7, 2) := by decide +kernel
theorem dX6_look_13 : decode cX6_look 13 = .ok (.invokestatic 58, 3) := by decide +kernel
theorem dX6_look_16 : decode cX6_look 16 = .ok (.ifCond .ne 6, 3) := by decide +kernel
theorem dX6_look_19 : decode cX6_look 19 = .ok (.bipush (-2), 2) := by decide +kernel
theorem dX6_look_21 : decode cX6_look 21 = .ok (.ireturn, 1) := by decide +kernel
theorem dX6_look_22 : decode cX6_look 22 = .ok (.aload_n 0, 1) := by decide +kernel
theorem dX6_look_23 : decode cX6_look 23 = .ok (.getfield 10, 3) := by decide +kernel
theorem dX6_look_26 : decode cX6_look 26 = .ok (.getfield 182, 3) := by decide +kernel
theorem dX6_look_29 : decode cX6_look 29 = .ok (.bipush 8, 2) := by decide +kernel
theorem dX6_look_31 : decode cX6_look 31 = .ok (.if_icmp .lt 6, 3) := by decide +kernel
theorem dX6_look_34 : decode cX6_look 34 = .ok (.bipush (-4), 2) := by decide +kernel
theorem dX6_look_36 : decode cX6_look 36 = .ok (.ireturn, 1) := by decide +kernel
theorem dX6_look_37 : decode cX6_look 37 = .ok (.iload_n 1, 1) := by decide +kernel
theorem dX6_look_38 : decode cX6_look 38 = .ok (.iload_n 2, 1) := by decide +kernel
theorem dX6_look_39 : decode cX6_look 39 = .ok (.invokestatic 185, 3) := by decide +kernel
theorem dX6_look_42 : decode cX6_look 42 = .ok (.lstore 4, 2) := by decide +kernel
theorem dX6_look_44 : decode cX6_look 44 = .ok (.aload_n 0, 1) := by decide +kernel
theorem dX6_look_45 : decode cX6_look 45 = .ok (.getfield 10, 3) := by decide +kernel
theorem dX6_look_48 : decode cX6_look 48 = .ok (.dup, 1) := by decide +kernel
theorem dX6_look_49 : decode cX6_look 49 = .ok (.getfield 188, 3) := by decide +kernel
theorem dX6_look_52 : decode cX6_look 52 = .ok (.iload_n 3, 1) := by decide +kernel
theorem dX6_look_53 : decode cX6_look 53 = .ok (.ifCond .eq 8, 3) := by decide +kernel
theorem dX6_look_56 : decode cX6_look 56 = .ok (.lload 4, 2) := by decide +kernel
theorem dX6_look_58 : decode cX6_look 58 = .ok (.goto 9, 3) := by decide +kernel
theorem dX6_look_61 : decode cX6_look 61 = .ok (.lload 4, 2) := by decide +kernel
theorem dX6_look_63 : decode cX6_look 63 = .ok (.ldc2_w 74, 3) := by decide +kernel
theorem dX6_look_66 : decode cX6_look 66 = .ok (.lxor, 1) := by decide +kernel
theorem dX6_look_67 : decode cX6_look 67 = .ok (.land, 1) := by decide +kernel
theorem dX6_look_68 : decode cX6_look 68 = .ok (.putfield 188, 3) := by decide +kernel
theorem dX6_look_71 : decode cX6_look 71 = .ok (.aload_n 0, 1) := by decide +kernel
theorem dX6_look_72 : decode cX6_look 72 = .ok (.getfield 10, 3) := by decide +kernel
theorem dX6_look_75 : decode cX6_look 75 = .ok (.dup, 1) := by decide +kernel
theorem dX6_look_76 : decode cX6_look 76 = .ok (.getfield 182, 3) := by decide +kernel
theorem dX6_look_79 : decode cX6_look 79 = .ok (.iconst 1, 1) := by decide +kernel
theorem dX6_look_80 : decode cX6_look 80 = .ok (.iadd, 1) := by decide +kernel
theorem dX6_look_81 : decode cX6_look 81 = .ok (.putfield 182, 3) := by decide +kernel
theorem dX6_look_84 : decode cX6_look 84 = .ok (.aload_n 0, 1) := by decide +kernel
theorem dX6_look_85 : decode cX6_look 85 = .ok (.getfield 10, 3) := by decide +kernel
theorem dX6_look_88 : decode cX6_look 88 = .ok (.getfield 182, 3) := by decide +kernel
theorem dX6_look_91 : decode cX6_look 91 = .ok (.ireturn, 1) := by decide +kernel
theorem dX6_forget_0 : decode cX6_forget 0 = .ok (.aload_n 0, 1) := by decide +kernel
theorem dX6_forget_1 : decode cX6_forget 1 = .ok (.getfield 10, 3) := by decide +kernel
theorem dX6_forget_4 : decode cX6_forget 4 = .ok (.getfield 182, 3) := by decide +kernel
theorem dX6_forget_7 : decode cX6_forget 7 = .ok (.istore_n 1, 1) := by decide +kernel
theorem dX6_forget_8 : decode cX6_forget 8 = .ok (.aload_n 0, 1) := by decide +kernel
theorem dX6_forget_9 : decode cX6_forget 9 = .ok (.getfield 10, 3) := by decide +kernel
theorem dX6_forget_12 : decode cX6_forget 12 = .ok (.iconst 0, 1) := by decide +kernel
theorem dX6_forget_13 : decode cX6_forget 13 = .ok (.putfield 182, 3) := by decide +kernel
theorem dX6_forget_16 : decode cX6_forget 16 = .ok (.aload_n 0, 1) := by decide +kernel
theorem dX6_forget_17 : decode cX6_forget 17 = .ok (.getfield 10, 3) := by decide +kernel
theorem dX6_forget_20 : decode cX6_forget 20 = .ok (.ldc2_w 74, 3) := by decide +kernel
theorem dX6_forget_23 : decode cX6_forget 23 = .ok (.putfield 188, 3) := by decide +kernel
theorem dX6_forget_26 : decode cX6_forget 26 = .ok (.iload_n 1, 1) := by decide +kernel
theorem dX6_forget_27 : decode cX6_forget 27 = .ok (.ireturn, 1) := by decide +kernel
set_option maxRecDepth 20000 in
theorem ggX6_light_J13_bitCount_95d88 : GoodIn wsX6_light wsJ13_bitCount_95d88 := goodIn_r _ [6, 7, 8, 9] (by decide +kernel) (by decide +kernel)
set_option maxRecDepth 20000 in
theorem gX6_light_J13_bitCount_95d88 : GoodIn wsX6_light (va_wsS RX6 76 yJ13_bitCount_95d88 wsJ13_bitCount_95d88) := goodIn_app (goodIn_of _ (by decide +kernel)) ggX6_light_J13_bitCount_95d88
set_option maxRecDepth 20000 in
theorem ggX6_light_X6_within : GoodIn wsX6_light wsX6_within := goodIn_r _ [13] (by decide +kernel) (by decide +kernel)
set_option maxRecDepth 20000 in
theorem gX6_light_X6_within : GoodIn wsX6_light (va_wsS RX6 58 yX6_within wsX6_within) := goodIn_app (goodIn_of _ (by decide +kernel)) ggX6_light_X6_within
set_option maxRecDepth 20000 in
theorem ggX6_light_X0_least : GoodIn wsX6_light wsX0_least := goodIn_r _ [17, 18, 4, 5, 6, 7, 8, 9] (by decide +kernel) (by decide +kernel)
set_option maxRecDepth 20000 in
theorem gX6_light_X0_least : GoodIn wsX6_light (va_wsS RX6 169 yX0_least wsX0_least) := goodIn_app (goodIn_of _ (by decide +kernel)) ggX6_light_X0_least
theorem dX6_light_0 : decode cX6_light 0 = .ok (.aload_n 0, 1) := by decide +kernel
theorem dX6_light_1 : decode cX6_light 1 = .ok (.getfield 10, 3) := by decide +kernel
theorem dX6_light_4 : decode cX6_light 4 = .ok (.getfield 188, 3) := by decide +kernel
theorem dX6_light_7 : decode cX6_light 7 = .ok (.invokestatic 76, 3) := by decide +kernel
theorem dX6_light_10 : decode cX6_light 10 = .ok (.istore_n 2, 1) := by decide +kernel
theorem dX6_light_11 : decode cX6_light 11 = .ok (.iload_n 1, 1) := by decide +kernel
theorem dX6_light_12 : decode cX6_light 12 = .ok (.iconst (-1), 1) := by decide +kernel
theorem dX6_light_13 : decode cX6_light 13 = .ok (.if_icmp .ne 5, 3) := by decide +kernel
theorem dX6_light_16 : decode cX6_light 16 = .ok (.iload_n 2, 1) := by decide +kernel
theorem dX6_light_17 : decode cX6_light 17 = .ok (.ireturn, 1) := by decide +kernel
theorem dX6_light_18 : decode cX6_light 18 = .ok (.iload_n 1, 1) := by decide +kernel
theorem dX6_light_19 : decode cX6_light 19 = .ok (.iconst 0, 1) := by decide +kernel
theorem dX6_light_20 : decode cX6_light 20 = .ok (.iload_n 2, 1) := by decide +kernel
theorem dX6_light_21 : decode cX6_light 21 = .ok (.iconst 1, 1) := by decide +kernel
theorem dX6_light_22 : decode cX6_light 22 = .ok (.isub, 1) := by decide +kernel
theorem dX6_light_23 : decode cX6_light 23 = .ok (.invokestatic 58, 3) := by decide +kernel
theorem dX6_light_26 : decode cX6_light 26 = .ok (.ifCond .ne 6, 3) := by decide +kernel
theorem dX6_light_29 : decode cX6_light 29 = .ok (.bipush (-6), 2) := by decide +kernel
theorem dX6_light_31 : decode cX6_light 31 = .ok (.ireturn, 1) := by decide +kernel
theorem dX6_light_32 : decode cX6_light 32 = .ok (.aload_n 0, 1) := by decide +kernel
theorem dX6_light_33 : decode cX6_light 33 = .ok (.getfield 10, 3) := by decide +kernel
theorem dX6_light_36 : decode cX6_light 36 = .ok (.getfield 188, 3) := by decide +kernel
theorem dX6_light_39 : decode cX6_light 39 = .ok (.lstore_n 3, 1) := by decide +kernel
theorem dX6_light_40 : decode cX6_light 40 = .ok (.iconst 0, 1) := by decide +kernel
theorem dX6_light_41 : decode cX6_light 41 = .ok (.istore 5, 2) := by decide +kernel
theorem dX6_light_43 : decode cX6_light 43 = .ok (.iload 5, 2) := by decide +kernel
theorem dX6_light_45 : decode cX6_light 45 = .ok (.iload_n 1, 1) := by decide +kernel
theorem dX6_light_46 : decode cX6_light 46 = .ok (.if_icmp .ge 15, 3) := by decide +kernel
theorem dX6_light_49 : decode cX6_light 49 = .ok (.lload_n 3, 1) := by decide +kernel
theorem dX6_light_50 : decode cX6_light 50 = .ok (.lload_n 3, 1) := by decide +kernel
theorem dX6_light_51 : decode cX6_light 51 = .ok (.lconst 1, 1) := by decide +kernel
theorem dX6_light_52 : decode cX6_light 52 = .ok (.lsub, 1) := by decide +kernel
theorem dX6_light_53 : decode cX6_light 53 = .ok (.land, 1) := by decide +kernel
theorem dX6_light_54 : decode cX6_light 54 = .ok (.lstore_n 3, 1) := by decide +kernel
theorem dX6_light_55 : decode cX6_light 55 = .ok (.iinc 5 1, 3) := by decide +kernel
theorem dX6_light_58 : decode cX6_light 58 = .ok (.goto (-15), 3) := by decide +kernel
theorem dX6_light_61 : decode cX6_light 61 = .ok (.lload_n 3, 1) := by decide +kernel
theorem dX6_light_62 : decode cX6_light 62 = .ok (.invokestatic 169, 3) := by decide +kernel
theorem dX6_light_65 : decode cX6_light 65 = .ok (.ireturn, 1) := by decide +kernel
set_option maxRecDepth 20000 in
theorem ggX6_ask_X6_within : GoodIn wsX6_ask wsX6_within := goodIn_r _ [6] (by decide +kernel) (by decide +kernel)
set_option maxRecDepth 20000 in
theorem gX6_ask_X6_within : GoodIn wsX6_ask (va_wsS RX6 58 yX6_within wsX6_within) := goodIn_app (goodIn_of _ (by decide +kernel)) ggX6_ask_X6_within
set_option maxRecDepth 20000 in
theorem ggX6_ask_X6_bestNextLook : GoodIn wsX6_ask wsX6_bestNextLook := goodIn_r _ [9, 10, 11, 12, 13, 14, 15, 16, 17, 18, 19, 20, 21, 22, 23, 24, 25, 26, 27, 28, 29, 30, 31] (by decide +kernel) (by decide +kernel)
set_option maxRecDepth 20000 in
theorem gX6_ask_X6_bestNextLook : GoodIn wsX6_ask (va_wsS RX6 191 yX6_bestNextLook wsX6_bestNextLook) := goodIn_app (goodIn_of _ (by decide +kernel)) ggX6_ask_X6_bestNextLook
theorem dX6_ask_0 : decode cX6_ask 0 = .ok (.iload_n 1, 1) := by decide +kernel
theorem dX6_ask_1 : decode cX6_ask 1 = .ok (.iconst 0, 1) := by decide +kernel
theorem dX6_ask_2 : decode cX6_ask 2 = .ok (.iconst 1, 1) := by decide +kernel
theorem dX6_ask_3 : decode cX6_ask 3 = .ok (.invokestatic 58, 3) := by decide +kernel
theorem dX6_ask_6 : decode cX6_ask 6 = .ok (.ifCond .ne 6, 3) := by decide +kernel
theorem dX6_ask_9 : decode cX6_ask 9 = .ok (.bipush (-2), 2) := by decide +kernel
theorem dX6_ask_11 : decode cX6_ask 11 = .ok (.ireturn, 1) := by decide +kernel
theorem dX6_ask_12 : decode cX6_ask 12 = .ok (.aload_n 0, 1) := by decide +kernel
theorem dX6_ask_13 : decode cX6_ask 13 = .ok (.getfield 10, 3) := by decide +kernel
theorem dX6_ask_16 : decode cX6_ask 16 = .ok (.getfield 188, 3) := by decide +kernel
theorem dX6_ask_19 : decode cX6_ask 19 = .ok (.lconst 0, 1) := by decide +kernel
theorem dX6_ask_20 : decode cX6_ask 20 = .ok (.lcmp, 1) := by decide +kernel
theorem dX6_ask_21 : decode cX6_ask 21 = .ok (.ifCond .ne 8, 3) := by decide +kernel
theorem dX6_ask_24 : decode cX6_ask 24 = .ok (.bipush (-6), 2) := by decide +kernel
theorem dX6_ask_26 : decode cX6_ask 26 = .ok (.goto 14, 3) := by decide +kernel
theorem dX6_ask_29 : decode cX6_ask 29 = .ok (.aload_n 0, 1) := by decide +kernel
theorem dX6_ask_30 : decode cX6_ask 30 = .ok (.getfield 10, 3) := by decide +kernel
theorem dX6_ask_33 : decode cX6_ask 33 = .ok (.getfield 188, 3) := by decide +kernel
theorem dX6_ask_36 : decode cX6_ask 36 = .ok (.iload_n 1, 1) := by decide +kernel
theorem dX6_ask_37 : decode cX6_ask 37 = .ok (.invokestatic 191, 3) := by decide +kernel
theorem dX6_ask_40 : decode cX6_ask 40 = .ok (.ireturn, 1) := by decide +kernel
set_option maxRecDepth 20000 in
theorem ggX6_tack_X0_isCell : GoodIn wsX6_tack wsX0_isCell := goodIn_r _ [4] (by decide +kernel) (by decide +kernel)
set_option maxRecDepth 20000 in
theorem gX6_tack_X0_isCell : GoodIn wsX6_tack (va_wsS RX6 52 yX0_isCell wsX0_isCell) := goodIn_app (goodIn_of _ (by decide +kernel)) ggX6_tack_X0_isCell
set_option maxRecDepth 20000 in
theorem ggX6_tack_X6_within : GoodIn wsX6_tack wsX6_within := goodIn_r _ [8] (by decide +kernel) (by decide +kernel)
set_option maxRecDepth 20000 in
theorem gX6_tack_X6_within : GoodIn wsX6_tack (va_wsS RX6 58 yX6_within wsX6_within) := goodIn_app (goodIn_of _ (by decide +kernel)) ggX6_tack_X6_within
set_option maxRecDepth 20000 in
theorem ggX6_tack_X0_tacksFrom : GoodIn wsX6_tack wsX0_tacksFrom := goodIn_r _ [11, 12, 13, 3, 14, 15, 16, 17] (by decide +kernel) (by decide +kernel)
set_option maxRecDepth 20000 in
theorem gX6_tack_X0_tacksFrom : GoodIn wsX6_tack (va_wsS RX6 195 yX0_tacksFrom wsX0_tacksFrom) := goodIn_app (goodIn_of _ (by decide +kernel)) ggX6_tack_X0_tacksFrom
set_option maxRecDepth 20000 in
theorem ggX6_tack_X0_cellsWhereTackingLoses : GoodIn wsX6_tack wsX0_cellsWhereTackingLoses := goodIn_r _ [20, 21, 22, 23, 24, 25, 26, 27, 28, 10, 3, 11, 12, 13, 14, 15, 16, 17] (by decide +kernel) (by decide +kernel)
set_option maxRecDepth 20000 in
theorem gX6_tack_X0_cellsWhereTackingLoses : GoodIn wsX6_tack (va_wsS RX6 198 yX0_cellsWhereTackingLoses wsX0_cellsWhereTackingLoses) := goodIn_app (goodIn_of _ (by decide +kernel)) ggX6_tack_X0_cellsWhereTackingLoses
set_option maxRecDepth 20000 in
theorem ggX6_tack_X0_least : GoodIn wsX6_tack wsX0_least := goodIn_r _ [31, 32, 33, 34, 35, 36, 37, 38] (by decide +kernel) (by decide +kernel)
set_option maxRecDepth 20000 in
theorem gX6_tack_X0_least : GoodIn wsX6_tack (va_wsS RX6 169 yX0_least wsX0_least) := goodIn_app (goodIn_of _ (by decide +kernel)) ggX6_tack_X0_least
theorem dX6_tack_0 : decode cX6_tack 0 = .ok (.iload_n 1, 1) := by decide +kernel
theorem dX6_tack_1 : decode cX6_tack 1 = .ok (.invokestatic 52, 3) := by decide +kernel
theorem dX6_tack_4 : decode cX6_tack 4 = .ok (.ifCond .ne 5, 3) := by decide +kernel
theorem dX6_tack_7 : decode cX6_tack 7 = .ok (.iconst (-1), 1) := by decide +kernel
theorem dX6_tack_8 : decode cX6_tack 8 = .ok (.ireturn, 1) := by decide +kernel
theorem dX6_tack_9 : decode cX6_tack 9 = .ok (.iload_n 2, 1) := by decide +kernel
theorem dX6_tack_10 : decode cX6_tack 10 = .ok (.iconst 0, 1) := by decide +kernel
theorem dX6_tack_11 : decode cX6_tack 11 = .ok (.iconst 1, 1) := by decide +kernel
theorem dX6_tack_12 : decode cX6_tack 12 = .ok (.invokestatic 58, 3) := by decide +kernel
theorem dX6_tack_15 : decode cX6_tack 15 = .ok (.ifCond .ne 6, 3) := by decide +kernel
theorem dX6_tack_18 : decode cX6_tack 18 = .ok (.bipush (-2), 2) := by decide +kernel
theorem dX6_tack_20 : decode cX6_tack 20 = .ok (.ireturn, 1) := by decide +kernel
theorem dX6_tack_21 : decode cX6_tack 21 = .ok (.iload_n 1, 1) := by decide +kernel
theorem dX6_tack_22 : decode cX6_tack 22 = .ok (.invokestatic 195, 3) := by decide +kernel
theorem dX6_tack_25 : decode cX6_tack 25 = .ok (.invokestatic 198, 3) := by decide +kernel
theorem dX6_tack_28 : decode cX6_tack 28 = .ok (.land, 1) := by decide +kernel
theorem dX6_tack_29 : decode cX6_tack 29 = .ok (.invokestatic 169, 3) := by decide +kernel
theorem dX6_tack_32 : decode cX6_tack 32 = .ok (.istore_n 3, 1) := by decide +kernel
theorem dX6_tack_33 : decode cX6_tack 33 = .ok (.iload_n 2, 1) := by decide +kernel
theorem dX6_tack_34 : decode cX6_tack 34 = .ok (.iconst 1, 1) := by decide +kernel
theorem dX6_tack_35 : decode cX6_tack 35 = .ok (.if_icmp .ne 5, 3) := by decide +kernel
theorem dX6_tack_38 : decode cX6_tack 38 = .ok (.iload_n 3, 1) := by decide +kernel
theorem dX6_tack_39 : decode cX6_tack 39 = .ok (.ireturn, 1) := by decide +kernel
theorem dX6_tack_40 : decode cX6_tack 40 = .ok (.iload_n 3, 1) := by decide +kernel
theorem dX6_tack_41 : decode cX6_tack 41 = .ok (.bipush (-6), 2) := by decide +kernel
theorem dX6_tack_43 : decode cX6_tack 43 = .ok (.if_icmp .ne 7, 3) := by decide +kernel
theorem dX6_tack_46 : decode cX6_tack 46 = .ok (.iconst 0, 1) := by decide +kernel
theorem dX6_tack_47 : decode cX6_tack 47 = .ok (.goto 4, 3) := by decide +kernel
theorem dX6_tack_50 : decode cX6_tack 50 = .ok (.iconst 1, 1) := by decide +kernel
theorem dX6_tack_51 : decode cX6_tack 51 = .ok (.ireturn, 1) := by decide +kernel
set_option maxRecDepth 20000 in
theorem ggX6_first_X6_within : GoodIn wsX6_first wsX6_within := goodIn_r _ [6] (by decide +kernel) (by decide +kernel)
set_option maxRecDepth 20000 in
theorem gX6_first_X6_within : GoodIn wsX6_first (va_wsS RX6 58 yX6_within wsX6_within) := goodIn_app (goodIn_of _ (by decide +kernel)) ggX6_first_X6_within
set_option maxRecDepth 20000 in
theorem ggX6_first_X1_watchByTurns : GoodIn wsX6_first wsX1_watchByTurns := goodIn_r _ [11, 12, 13, 14, 15, 16, 34, 35, 36, 37] (by decide +kernel) (by decide +kernel)
set_option maxRecDepth 20000 in
theorem gX6_first_X1_watchByTurns : GoodIn wsX6_first (wsV RX6 203 RX1 yX1_watchByTurns wsX1_watchByTurns) := goodIn_app (goodIn_of _ (by decide +kernel)) ggX6_first_X1_watchByTurns
set_option maxRecDepth 20000 in
theorem ggX6_first_X1_chance : GoodIn wsX6_first wsX1_chance := goodIn_r _ [20, 12, 13, 14, 21, 22, 23, 10, 24, 15, 25, 26, 34, 35, 36, 37] (by decide +kernel) (by decide +kernel)
set_option maxRecDepth 20000 in
theorem gX6_first_X1_chance : GoodIn wsX6_first (wsV RX6 207 RX1 yX1_chance wsX1_chance) := goodIn_app (goodIn_of _ (by decide +kernel)) ggX6_first_X1_chance
theorem dX6_first_0 : decode cX6_first 0 = .ok (.iload_n 1, 1) := by decide +kernel
theorem dX6_first_1 : decode cX6_first 1 = .ok (.iconst 0, 1) := by decide +kernel
theorem dX6_first_2 : decode cX6_first 2 = .ok (.bipush 10, 2) := by decide +kernel
theorem dX6_first_4 : decode cX6_first 4 = .ok (.invokestatic 58, 3) := by decide +kernel
theorem dX6_first_7 : decode cX6_first 7 = .ok (.ifCond .eq 23, 3) := by decide +kernel
theorem dX6_first_10 : decode cX6_first 10 = .ok (.iload_n 2, 1) := by decide +kernel
theorem dX6_first_11 : decode cX6_first 11 = .ok (.iconst 0, 1) := by decide +kernel
theorem dX6_first_12 : decode cX6_first 12 = .ok (.bipush 10, 2) := by decide +kernel
theorem dX6_first_14 : decode cX6_first 14 = .ok (.invokestatic 58, 3) := by decide +kernel
theorem dX6_first_17 : decode cX6_first 17 = .ok (.ifCond .eq 13, 3) := by decide +kernel
theorem dX6_first_20 : decode cX6_first 20 = .ok (.iload_n 3, 1) := by decide +kernel
theorem dX6_first_21 : decode cX6_first 21 = .ok (.iconst 0, 1) := by decide +kernel
theorem dX6_first_22 : decode cX6_first 22 = .ok (.bipush 16, 2) := by decide +kernel
theorem dX6_first_24 : decode cX6_first 24 = .ok (.invokestatic 58, 3) := by decide +kernel
theorem dX6_first_27 : decode cX6_first 27 = .ok (.ifCond .ne 7, 3) := by decide +kernel
theorem dX6_first_30 : decode cX6_first 30 = .ok (.ldc2_w 201, 3) := by decide +kernel
theorem dX6_first_33 : decode cX6_first 33 = .ok (.lreturn, 1) := by decide +kernel
theorem dX6_first_34 : decode cX6_first 34 = .ok (.iload 4, 2) := by decide +kernel
theorem dX6_first_36 : decode cX6_first 36 = .ok (.iconst 0, 1) := by decide +kernel
theorem dX6_first_37 : decode cX6_first 37 = .ok (.iconst 2, 1) := by decide +kernel
theorem dX6_first_38 : decode cX6_first 38 = .ok (.invokestatic 58, 3) := by decide +kernel
theorem dX6_first_41 : decode cX6_first 41 = .ok (.ifCond .eq 13, 3) := by decide +kernel
theorem dX6_first_44 : decode cX6_first 44 = .ok (.iload 5, 2) := by decide +kernel
theorem dX6_first_46 : decode cX6_first 46 = .ok (.iconst 0, 1) := by decide +kernel
theorem dX6_first_47 : decode cX6_first 47 = .ok (.iconst 1, 1) := by decide +kernel
theorem dX6_first_48 : decode cX6_first 48 = .ok (.invokestatic 58, 3) := by decide +kernel
theorem dX6_first_51 : decode cX6_first 51 = .ok (.ifCond .ne 7, 3) := by decide +kernel
theorem dX6_first_54 : decode cX6_first 54 = .ok (.ldc2_w 201, 3) := by decide +kernel
theorem dX6_first_57 : decode cX6_first 57 = .ok (.lreturn, 1) := by decide +kernel
theorem dX6_first_58 : decode cX6_first 58 = .ok (.aload_n 0, 1) := by decide +kernel
theorem dX6_first_59 : decode cX6_first 59 = .ok (.getfield 40, 3) := by decide +kernel
theorem dX6_first_62 : decode cX6_first 62 = .ok (.iload_n 1, 1) := by decide +kernel
theorem dX6_first_63 : decode cX6_first 63 = .ok (.iload_n 2, 1) := by decide +kernel
theorem dX6_first_64 : decode cX6_first 64 = .ok (.iload_n 3, 1) := by decide +kernel
theorem dX6_first_65 : decode cX6_first 65 = .ok (.invokevirtual 203, 3) := by decide +kernel
theorem dX6_first_68 : decode cX6_first 68 = .ok (.aload_n 0, 1) := by decide +kernel
theorem dX6_first_69 : decode cX6_first 69 = .ok (.getfield 40, 3) := by decide +kernel
theorem dX6_first_72 : decode cX6_first 72 = .ok (.iload 4, 2) := by decide +kernel
theorem dX6_first_74 : decode cX6_first 74 = .ok (.iload 5, 2) := by decide +kernel
theorem dX6_first_76 : decode cX6_first 76 = .ok (.invokevirtual 207, 3) := by decide +kernel
theorem dX6_first_79 : decode cX6_first 79 = .ok (.lreturn, 1) := by decide +kernel
set_option maxRecDepth 20000 in
theorem ggX6_year_X6_within : GoodIn wsX6_year wsX6_within := goodIn_r _ [10] (by decide +kernel) (by decide +kernel)
set_option maxRecDepth 20000 in
theorem gX6_year_X6_within : GoodIn wsX6_year (va_wsS RX6 58 yX6_within wsX6_within) := goodIn_app (goodIn_of _ (by decide +kernel)) ggX6_year_X6_within
set_option maxRecDepth 20000 in
theorem ggX6_year_X5_sailByDraws : GoodIn wsX6_year wsX5_sailByDraws := goodIn_r _ [15, 16, 17, 18, 19, 14, 20, 21, 22, 23, 24, 25, 26, 27, 28, 29, 30, 31, 32, 33, 34, 35, 36, 37, 38, 39, 40, 41, 42, 43, 44, 45, 46, 47, 48, 49, 50, 51, 52, 53, 54, 55, 56, 57, 58, 59, 60, 61, 62, 63, 64, 65, 66, 67, 68, 69, 70, 71, 72, 73, 74, 75, 76, 77, 78, 79, 80, 81, 82, 83, 84, 85, 86, 87, 88, 89, 90, 91, 92, 93, 94, 95, 96, 97, 98, 99, 100, 101, 102, 103, 104, 105, 106, 107, 108, 109, 110, 111, 112, 113, 114, 115, 116, 124, 125, 126, 127, 128, 129, 130, 131, 132, 133, 134, 135, 136, 137, 138, 139, 140, 141] (by decide +kernel) (by decide +kernel)
set_option maxRecDepth 20000 in
theorem gX6_year_X5_sailByDraws : GoodIn wsX6_year (wsV RX6 210 RX5 yX5_sailByDraws wsX5_sailByDraws) := goodIn_app (goodIn_of _ (by decide +kernel)) ggX6_year_X5_sailByDraws
theorem dX6_year_0 : decode cX6_year 0 = .ok (.iload_n 1, 1) := by decide +kernel
theorem dX6_year_1 : decode cX6_year 1 = .ok (.iconst 0, 1) := by decide +kernel
theorem dX6_year_2 : decode cX6_year 2 = .ok (.sipush 9999, 3) := by decide +kernel
theorem dX6_year_5 : decode cX6_year 5 = .ok (.invokestatic 58, 3) := by decide +kernel
theorem dX6_year_8 : decode cX6_year 8 = .ok (.ifCond .eq 22, 3) := by decide +kernel
theorem dX6_year_11 : decode cX6_year 11 = .ok (.iload_n 2, 1) := by decide +kernel
theorem dX6_year_12 : decode cX6_year 12 = .ok (.iconst 1, 1) := by decide +kernel
theorem dX6_year_13 : decode cX6_year 13 = .ok (.bipush 99, 2) := by decide +kernel
theorem dX6_year_15 : decode cX6_year 15 = .ok (.invokestatic 58, 3) := by decide +kernel
theorem dX6_year_18 : decode cX6_year 18 = .ok (.ifCond .eq 12, 3) := by decide +kernel
theorem dX6_year_21 : decode cX6_year 21 = .ok (.iload_n 3, 1) := by decide +kernel
theorem dX6_year_22 : decode cX6_year 22 = .ok (.iconst 0, 1) := by decide +kernel
theorem dX6_year_23 : decode cX6_year 23 = .ok (.iconst 2, 1) := by decide +kernel
theorem dX6_year_24 : decode cX6_year 24 = .ok (.invokestatic 58, 3) := by decide +kernel
theorem dX6_year_27 : decode cX6_year 27 = .ok (.ifCond .ne 6, 3) := by decide +kernel
theorem dX6_year_30 : decode cX6_year 30 = .ok (.bipush (-2), 2) := by decide +kernel
theorem dX6_year_32 : decode cX6_year 32 = .ok (.ireturn, 1) := by decide +kernel
theorem dX6_year_33 : decode cX6_year 33 = .ok (.aload_n 0, 1) := by decide +kernel
theorem dX6_year_34 : decode cX6_year 34 = .ok (.getfield 26, 3) := by decide +kernel
theorem dX6_year_37 : decode cX6_year 37 = .ok (.aload_n 0, 1) := by decide +kernel
theorem dX6_year_38 : decode cX6_year 38 = .ok (.getfield 10, 3) := by decide +kernel
theorem dX6_year_41 : decode cX6_year 41 = .ok (.iload_n 1, 1) := by decide +kernel
theorem dX6_year_42 : decode cX6_year 42 = .ok (.iload_n 2, 1) := by decide +kernel
theorem dX6_year_43 : decode cX6_year 43 = .ok (.invokevirtual 210, 3) := by decide +kernel
theorem dX6_year_46 : decode cX6_year 46 = .ok (.iload_n 3, 1) := by decide +kernel
theorem dX6_year_47 : decode cX6_year 47 = .ok (.lookupswitch 47 #[(0, 25), (1, 36)], 25) := by decide +kernel
theorem dX6_year_72 : decode cX6_year 72 = .ok (.aload_n 0, 1) := by decide +kernel
theorem dX6_year_73 : decode cX6_year 73 = .ok (.getfield 26, 3) := by decide +kernel
theorem dX6_year_76 : decode cX6_year 76 = .ok (.getfield 125, 3) := by decide +kernel
theorem dX6_year_79 : decode cX6_year 79 = .ok (.getfield 62, 3) := by decide +kernel
theorem dX6_year_82 : decode cX6_year 82 = .ok (.ireturn, 1) := by decide +kernel
theorem dX6_year_83 : decode cX6_year 83 = .ok (.aload_n 0, 1) := by decide +kernel
theorem dX6_year_84 : decode cX6_year 84 = .ok (.getfield 26, 3) := by decide +kernel
theorem dX6_year_87 : decode cX6_year 87 = .ok (.getfield 125, 3) := by decide +kernel
theorem dX6_year_90 : decode cX6_year 90 = .ok (.getfield 85, 3) := by decide +kernel
theorem dX6_year_93 : decode cX6_year 93 = .ok (.ireturn, 1) := by decide +kernel
theorem dX6_year_94 : decode cX6_year 94 = .ok (.aload_n 0, 1) := by decide +kernel
theorem dX6_year_95 : decode cX6_year 95 = .ok (.getfield 26, 3) := by decide +kernel
theorem dX6_year_98 : decode cX6_year 98 = .ok (.getfield 214, 3) := by decide +kernel
theorem dX6_year_101 : decode cX6_year 101 = .ok (.ireturn, 1) := by decide +kernel
set_option maxRecDepth 20000 in
theorem ggX6_image_X6_isImage : GoodIn wsX6_image wsX6_isImage := goodIn_r _ [8, 1, 3, 24, 25, 26, 27, 28, 29, 30] (by decide +kernel) (by decide +kernel)
set_option maxRecDepth 20000 in
theorem gX6_image_X6_isImage : GoodIn wsX6_image (wsV RX6 217 RX6 yX6_isImage wsX6_isImage) := goodIn_app (goodIn_of _ (by decide +kernel)) ggX6_image_X6_isImage
set_option maxRecDepth 20000 in
theorem ggX6_image_X4_takeOver : GoodIn wsX6_image wsX4_takeOver := goodIn_r _ [13, 14, 15, 16, 17, 18, 19, 20, 21, 22, 23, 31, 32, 33, 34, 35, 36, 37, 38, 39, 40] (by decide +kernel) (by decide +kernel)
set_option maxRecDepth 20000 in
theorem gX6_image_X4_takeOver : GoodIn wsX6_image (wsV RX6 151 RX4 yX4_takeOver wsX4_takeOver) := goodIn_app (goodIn_of _ (by decide +kernel)) ggX6_image_X4_takeOver
theorem dX6_image_0 : decode cX6_image 0 = .ok (.aload_n 0, 1) := by decide +kernel
theorem dX6_image_1 : decode cX6_image 1 = .ok (.iload_n 1, 1) := by decide +kernel
theorem dX6_image_2 : decode cX6_image 2 = .ok (.invokevirtual 217, 3) := by decide +kernel
theorem dX6_image_5 : decode cX6_image 5 = .ok (.ifCond .ne 6, 3) := by decide +kernel
theorem dX6_image_8 : decode cX6_image 8 = .ok (.bipush (-2), 2) := by decide +kernel
theorem dX6_image_10 : decode cX6_image 10 = .ok (.ireturn, 1) := by decide +kernel
theorem dX6_image_11 : decode cX6_image 11 = .ok (.aload_n 0, 1) := by decide +kernel
theorem dX6_image_12 : decode cX6_image 12 = .ok (.getfield 44, 3) := by decide +kernel
theorem dX6_image_15 : decode cX6_image 15 = .ok (.iload_n 1, 1) := by decide +kernel
theorem dX6_image_16 : decode cX6_image 16 = .ok (.aaload, 1) := by decide +kernel
theorem dX6_image_17 : decode cX6_image 17 = .ok (.aload_n 0, 1) := by decide +kernel
theorem dX6_image_18 : decode cX6_image 18 = .ok (.getfield 10, 3) := by decide +kernel
theorem dX6_image_21 : decode cX6_image 21 = .ok (.invokevirtual 151, 3) := by decide +kernel
theorem dX6_image_24 : decode cX6_image 24 = .ok (.aload_n 0, 1) := by decide +kernel
theorem dX6_image_25 : decode cX6_image 25 = .ok (.getfield 48, 3) := by decide +kernel
theorem dX6_image_28 : decode cX6_image 28 = .ok (.iload_n 1, 1) := by decide +kernel
theorem dX6_image_29 : decode cX6_image 29 = .ok (.iconst 1, 1) := by decide +kernel
theorem dX6_image_30 : decode cX6_image 30 = .ok (.bastore, 1) := by decide +kernel
theorem dX6_image_31 : decode cX6_image 31 = .ok (.iconst 1, 1) := by decide +kernel
theorem dX6_image_32 : decode cX6_image 32 = .ok (.ireturn, 1) := by decide +kernel
set_option maxRecDepth 20000 in
theorem ggX6_restore_X6_isImage : GoodIn wsX6_restore wsX6_isImage := goodIn_r _ [8, 3, 1, 24, 25, 26, 27, 28, 29, 30] (by decide +kernel) (by decide +kernel)
set_option maxRecDepth 20000 in
theorem gX6_restore_X6_isImage : GoodIn wsX6_restore (wsV RX6 217 RX6 yX6_isImage wsX6_isImage) := goodIn_app (goodIn_of _ (by decide +kernel)) ggX6_restore_X6_isImage
set_option maxRecDepth 20000 in
theorem ggX6_restore_X4_takeOver : GoodIn wsX6_restore wsX4_takeOver := goodIn_r _ [13, 14, 15, 16, 17, 18, 19, 20, 21, 22, 23, 31, 32, 33, 34, 35, 36, 37, 38, 39, 40] (by decide +kernel) (by decide +kernel)
set_option maxRecDepth 20000 in
theorem gX6_restore_X4_takeOver : GoodIn wsX6_restore (wsV RX6 151 RX4 yX4_takeOver wsX4_takeOver) := goodIn_app (goodIn_of _ (by decide +kernel)) ggX6_restore_X4_takeOver
theorem dX6_restore_0 : decode cX6_restore 0 = .ok (.aload_n 0, 1) := by decide +kernel
theorem dX6_restore_1 : decode cX6_restore 1 = .ok (.iload_n 1, 1) := by decide +kernel
theorem dX6_restore_2 : decode cX6_restore 2 = .ok (.invokevirtual 217, 3) := by decide +kernel
theorem dX6_restore_5 : decode cX6_restore 5 = .ok (.ifCond .ne 6, 3) := by decide +kernel
theorem dX6_restore_8 : decode cX6_restore 8 = .ok (.bipush (-2), 2) := by decide +kernel
theorem dX6_restore_10 : decode cX6_restore 10 = .ok (.ireturn, 1) := by decide +kernel
theorem dX6_restore_11 : decode cX6_restore 11 = .ok (.aload_n 0, 1) := by decide +kernel
theorem dX6_restore_12 : decode cX6_restore 12 = .ok (.getfield 48, 3) := by decide +kernel
theorem dX6_restore_15 : decode cX6_restore 15 = .ok (.iload_n 1, 1) := by decide +kernel
theorem dX6_restore_16 : decode cX6_restore 16 = .ok (.baload, 1) := by decide +kernel
theorem dX6_restore_17 : decode cX6_restore 17 = .ok (.ifCond .ne 6, 3) := by decide +kernel
theorem dX6_restore_20 : decode cX6_restore 20 = .ok (.bipush (-3), 2) := by decide +kernel
theorem dX6_restore_22 : decode cX6_restore 22 = .ok (.ireturn, 1) := by decide +kernel
theorem dX6_restore_23 : decode cX6_restore 23 = .ok (.aload_n 0, 1) := by decide +kernel
theorem dX6_restore_24 : decode cX6_restore 24 = .ok (.getfield 10, 3) := by decide +kernel
theorem dX6_restore_27 : decode cX6_restore 27 = .ok (.aload_n 0, 1) := by decide +kernel
theorem dX6_restore_28 : decode cX6_restore 28 = .ok (.getfield 44, 3) := by decide +kernel
theorem dX6_restore_31 : decode cX6_restore 31 = .ok (.iload_n 1, 1) := by decide +kernel
theorem dX6_restore_32 : decode cX6_restore 32 = .ok (.aaload, 1) := by decide +kernel
theorem dX6_restore_33 : decode cX6_restore 33 = .ok (.invokevirtual 151, 3) := by decide +kernel
theorem dX6_restore_36 : decode cX6_restore 36 = .ok (.iconst 1, 1) := by decide +kernel
theorem dX6_restore_37 : decode cX6_restore 37 = .ok (.ireturn, 1) := by decide +kernel
set_option maxRecDepth 20000 in
theorem ggX6_told_X6_within : GoodIn wsX6_told wsX6_within := goodIn_r _ [9] (by decide +kernel) (by decide +kernel)
set_option maxRecDepth 20000 in
theorem gX6_told_X6_within : GoodIn wsX6_told (va_wsS RX6 58 yX6_within wsX6_within) := goodIn_app (goodIn_of _ (by decide +kernel)) ggX6_told_X6_within
set_option maxRecDepth 20000 in
theorem ggX6_told_X6_shipAndWatch : GoodIn wsX6_told wsX6_shipAndWatch := goodIn_r _ [12, 13, 14, 15, 16, 17, 18, 57, 58, 59, 60, 61, 62, 63, 64, 65, 66] (by decide +kernel) (by decide +kernel)
set_option maxRecDepth 20000 in
theorem gX6_told_X6_shipAndWatch : GoodIn wsX6_told (va_wsS RX6 128 yX6_shipAndWatch wsX6_shipAndWatch) := goodIn_app (goodIn_of _ (by decide +kernel)) ggX6_told_X6_shipAndWatch
set_option maxRecDepth 20000 in
theorem ggX6_told_X4_isWatcher : GoodIn wsX6_told wsX4_isWatcher := goodIn_r _ [23, 24, 57, 58, 59, 60, 61, 62, 63, 64, 65, 66] (by decide +kernel) (by decide +kernel)
set_option maxRecDepth 20000 in
theorem gX6_told_X4_isWatcher : GoodIn wsX6_told (wsV RX6 88 RX4 yX4_isWatcher wsX4_isWatcher) := goodIn_app (goodIn_of _ (by decide +kernel)) ggX6_told_X4_isWatcher
set_option maxRecDepth 20000 in
theorem ggX6_told_X4_eyesOf : GoodIn wsX6_told wsX4_eyesOf := goodIn_r _ [28, 24, 57, 58, 59, 60, 61, 62, 63, 64, 65, 66] (by decide +kernel) (by decide +kernel)
set_option maxRecDepth 20000 in
theorem gX6_told_X4_eyesOf : GoodIn wsX6_told (wsV RX6 91 RX4 yX4_eyesOf wsX4_eyesOf) := goodIn_app (goodIn_of _ (by decide +kernel)) ggX6_told_X4_eyesOf
set_option maxRecDepth 20000 in
theorem ggX6_told_X0_isCell : GoodIn wsX6_told wsX0_isCell := goodIn_r _ [32] (by decide +kernel) (by decide +kernel)
set_option maxRecDepth 20000 in
theorem gX6_told_X0_isCell : GoodIn wsX6_told (va_wsS RX6 52 yX0_isCell wsX0_isCell) := goodIn_app (goodIn_of _ (by decide +kernel)) ggX6_told_X0_isCell
set_option maxRecDepth 20000 in
theorem ggX6_told_X4_isLand : GoodIn wsX6_told wsX4_isLand := goodIn_r _ [36, 37, 38, 39, 31, 40, 57, 58, 59, 60, 61, 62, 63, 64, 65, 66] (by decide +kernel) (by decide +kernel)
set_option maxRecDepth 20000 in
theorem gX6_told_X4_isLand : GoodIn wsX6_told (wsV RX6 82 RX4 yX4_isLand wsX4_isLand) := goodIn_app (goodIn_of _ (by decide +kernel)) ggX6_told_X4_isLand
set_option maxRecDepth 20000 in
theorem ggX6_told_J13_bitCount_95d88 : GoodIn wsX6_told wsJ13_bitCount_95d88 := goodIn_r _ [44, 45, 46, 47] (by decide +kernel) (by decide +kernel)
set_option maxRecDepth 20000 in
theorem gX6_told_J13_bitCount_95d88 : GoodIn wsX6_told (va_wsS RX6 76 yJ13_bitCount_95d88 wsJ13_bitCount_95d88) := goodIn_app (goodIn_of _ (by decide +kernel)) ggX6_told_J13_bitCount_95d88
theorem dX6_told_0 : decode cX6_told 0 = .ok (.iload_n 1, 1) := by decide +kernel
theorem dX6_told_1 : decode cX6_told 1 = .ok (.iconst 2, 1) := by decide +kernel
theorem dX6_told_2 : decode cX6_told 2 = .ok (.bipush 7, 2) := by decide +kernel
theorem dX6_told_4 : decode cX6_told 4 = .ok (.invokestatic 58, 3) := by decide +kernel
theorem dX6_told_7 : decode cX6_told 7 = .ok (.ifCond .eq 14, 3) := by decide +kernel
theorem dX6_told_10 : decode cX6_told 10 = .ok (.aload_n 0, 1) := by decide +kernel
theorem dX6_told_11 : decode cX6_told 11 = .ok (.getfield 10, 3) := by decide +kernel
theorem dX6_told_14 : decode cX6_told 14 = .ok (.iload_n 1, 1) := by decide +kernel
theorem dX6_told_15 : decode cX6_told 15 = .ok (.iconst 2, 1) := by decide +kernel
theorem dX6_told_16 : decode cX6_told 16 = .ok (.isub, 1) := by decide +kernel
theorem dX6_told_17 : decode cX6_told 17 = .ok (.invokestatic 128, 3) := by decide +kernel
theorem dX6_told_20 : decode cX6_told 20 = .ok (.ireturn, 1) := by decide +kernel
theorem dX6_told_21 : decode cX6_told 21 = .ok (.aload_n 0, 1) := by decide +kernel
theorem dX6_told_22 : decode cX6_told 22 = .ok (.getfield 10, 3) := by decide +kernel
theorem dX6_told_25 : decode cX6_told 25 = .ok (.iload_n 1, 1) := by decide +kernel
theorem dX6_told_26 : decode cX6_told 26 = .ok (.bipush 10, 2) := by decide +kernel
theorem dX6_told_28 : decode cX6_told 28 = .ok (.isub, 1) := by decide +kernel
theorem dX6_told_29 : decode cX6_told 29 = .ok (.invokevirtual 88, 3) := by decide +kernel
theorem dX6_told_32 : decode cX6_told 32 = .ok (.ifCond .eq 15, 3) := by decide +kernel
theorem dX6_told_35 : decode cX6_told 35 = .ok (.aload_n 0, 1) := by decide +kernel
theorem dX6_told_36 : decode cX6_told 36 = .ok (.getfield 10, 3) := by decide +kernel
theorem dX6_told_39 : decode cX6_told 39 = .ok (.iload_n 1, 1) := by decide +kernel
theorem dX6_told_40 : decode cX6_told 40 = .ok (.bipush 10, 2) := by decide +kernel
theorem dX6_told_42 : decode cX6_told 42 = .ok (.isub, 1) := by decide +kernel
theorem dX6_told_43 : decode cX6_told 43 = .ok (.invokevirtual 91, 3) := by decide +kernel
theorem dX6_told_46 : decode cX6_told 46 = .ok (.ireturn, 1) := by decide +kernel
theorem dX6_told_47 : decode cX6_told 47 = .ok (.iload_n 1, 1) := by decide +kernel
theorem dX6_told_48 : decode cX6_told 48 = .ok (.bipush 100, 2) := by decide +kernel
theorem dX6_told_50 : decode cX6_told 50 = .ok (.isub, 1) := by decide +kernel
theorem dX6_told_51 : decode cX6_told 51 = .ok (.invokestatic 52, 3) := by decide +kernel
theorem dX6_told_54 : decode cX6_told 54 = .ok (.ifCond .eq 23, 3) := by decide +kernel
theorem dX6_told_57 : decode cX6_told 57 = .ok (.aload_n 0, 1) := by decide +kernel
theorem dX6_told_58 : decode cX6_told 58 = .ok (.getfield 10, 3) := by decide +kernel
theorem dX6_told_61 : decode cX6_told 61 = .ok (.iload_n 1, 1) := by decide +kernel
theorem dX6_told_62 : decode cX6_told 62 = .ok (.bipush 100, 2) := by decide +kernel
theorem dX6_told_64 : decode cX6_told 64 = .ok (.isub, 1) := by decide +kernel
theorem dX6_told_65 : decode cX6_told 65 = .ok (.invokevirtual 82, 3) := by decide +kernel
theorem dX6_told_68 : decode cX6_told 68 = .ok (.ifCond .eq 7, 3) := by decide +kernel
theorem dX6_told_71 : decode cX6_told 71 = .ok (.iconst 1, 1) := by decide +kernel
theorem dX6_told_72 : decode cX6_told 72 = .ok (.goto 4, 3) := by decide +kernel
theorem dX6_told_75 : decode cX6_told 75 = .ok (.iconst 0, 1) := by decide +kernel
theorem dX6_told_76 : decode cX6_told 76 = .ok (.ireturn, 1) := by decide +kernel
theorem dX6_told_77 : decode cX6_told 77 = .ok (.iload_n 1, 1) := by decide +kernel
theorem dX6_told_78 : decode cX6_told 78 = .ok (.lookupswitch 61 #[(0, 34), (1, 42), (8, 53)], 34) := by decide +kernel
theorem dX6_told_112 : decode cX6_told 112 = .ok (.aload_n 0, 1) := by decide +kernel
theorem dX6_told_113 : decode cX6_told 113 = .ok (.getfield 19, 3) := by decide +kernel
theorem dX6_told_116 : decode cX6_told 116 = .ok (.getfield 105, 3) := by decide +kernel
theorem dX6_told_119 : decode cX6_told 119 = .ok (.ireturn, 1) := by decide +kernel
theorem dX6_told_120 : decode cX6_told 120 = .ok (.aload_n 0, 1) := by decide +kernel
theorem dX6_told_121 : decode cX6_told 121 = .ok (.getfield 10, 3) := by decide +kernel
theorem dX6_told_124 : decode cX6_told 124 = .ok (.getfield 70, 3) := by decide +kernel
theorem dX6_told_127 : decode cX6_told 127 = .ok (.invokestatic 76, 3) := by decide +kernel
theorem dX6_told_130 : decode cX6_told 130 = .ok (.ireturn, 1) := by decide +kernel
theorem dX6_told_131 : decode cX6_told 131 = .ok (.aload_n 0, 1) := by decide +kernel
theorem dX6_told_132 : decode cX6_told 132 = .ok (.getfield 10, 3) := by decide +kernel
theorem dX6_told_135 : decode cX6_told 135 = .ok (.getfield 182, 3) := by decide +kernel
theorem dX6_told_138 : decode cX6_told 138 = .ok (.ireturn, 1) := by decide +kernel
theorem dX6_told_139 : decode cX6_told 139 = .ok (.bipush (-2), 2) := by decide +kernel
theorem dX6_told_141 : decode cX6_told 141 = .ok (.ireturn, 1) := by decide +kernel
theorem dX6_within_0 : decode cX6_within 0 = .ok (.iload_n 0, 1) := by decide +kernel
theorem dX6_within_1 : decode cX6_within 1 = .ok (.iload_n 1, 1) := by decide +kernel
theorem dX6_within_2 : decode cX6_within 2 = .ok (.if_icmp .lt 12, 3) := by decide +kernel
theorem dX6_within_5 : decode cX6_within 5 = .ok (.iload_n 0, 1) := by decide +kernel
theorem dX6_within_6 : decode cX6_within 6 = .ok (.iload_n 2, 1) := by decide +kernel
theorem dX6_within_7 : decode cX6_within 7 = .ok (.if_icmp .gt 7, 3) := by decide +kernel
theorem dX6_within_10 : decode cX6_within 10 = .ok (.iconst 1, 1) := by decide +kernel
theorem dX6_within_11 : decode cX6_within 11 = .ok (.goto 4, 3) := by decide +kernel
theorem dX6_within_14 : decode cX6_within 14 = .ok (.iconst 0, 1) := by decide +kernel
theorem dX6_within_15 : decode cX6_within 15 = .ok (.ireturn, 1) := by decide +kernel
theorem dX6_isImage_0 : decode cX6_isImage 0 = .ok (.iload_n 1, 1) := by decide +kernel
theorem dX6_isImage_1 : decode cX6_isImage 1 = .ok (.ifCond .lt 34, 3) := by decide +kernel
theorem dX6_isImage_4 : decode cX6_isImage 4 = .ok (.iload_n 1, 1) := by decide +kernel
theorem dX6_isImage_5 : decode cX6_isImage 5 = .ok (.aload_n 0, 1) := by decide +kernel
theorem dX6_isImage_6 : decode cX6_isImage 6 = .ok (.getfield 44, 3) := by decide +kernel
theorem dX6_isImage_9 : decode cX6_isImage 9 = .ok (.arraylength, 1) := by decide +kernel
theorem dX6_isImage_10 : decode cX6_isImage 10 = .ok (.if_icmp .ge 25, 3) := by decide +kernel
theorem dX6_isImage_13 : decode cX6_isImage 13 = .ok (.iload_n 1, 1) := by decide +kernel
theorem dX6_isImage_14 : decode cX6_isImage 14 = .ok (.aload_n 0, 1) := by decide +kernel
theorem dX6_isImage_15 : decode cX6_isImage 15 = .ok (.getfield 48, 3) := by decide +kernel
theorem dX6_isImage_18 : decode cX6_isImage 18 = .ok (.arraylength, 1) := by decide +kernel
theorem dX6_isImage_19 : decode cX6_isImage 19 = .ok (.if_icmp .ge 16, 3) := by decide +kernel
theorem dX6_isImage_22 : decode cX6_isImage 22 = .ok (.aload_n 0, 1) := by decide +kernel
theorem dX6_isImage_23 : decode cX6_isImage 23 = .ok (.getfield 44, 3) := by decide +kernel
theorem dX6_isImage_26 : decode cX6_isImage 26 = .ok (.iload_n 1, 1) := by decide +kernel
theorem dX6_isImage_27 : decode cX6_isImage 27 = .ok (.aaload, 1) := by decide +kernel
theorem dX6_isImage_28 : decode cX6_isImage 28 = .ok (.ifnull 7, 3) := by decide +kernel
theorem dX6_isImage_31 : decode cX6_isImage 31 = .ok (.iconst 1, 1) := by decide +kernel
theorem dX6_isImage_32 : decode cX6_isImage 32 = .ok (.goto 4, 3) := by decide +kernel
theorem dX6_isImage_35 : decode cX6_isImage 35 = .ok (.iconst 0, 1) := by decide +kernel
theorem dX6_isImage_36 : decode cX6_isImage 36 = .ok (.ireturn, 1) := by decide +kernel
set_option maxRecDepth 20000 in
theorem ggX6_sailTheText_X6_within : GoodIn wsX6_sailTheText wsX6_within := goodIn_r _ [8] (by decide +kernel) (by decide +kernel)
set_option maxRecDepth 20000 in
theorem gX6_sailTheText_X6_within : GoodIn wsX6_sailTheText (va_wsS RX6 58 yX6_within wsX6_within) := goodIn_app (goodIn_of _ (by decide +kernel)) ggX6_sailTheText_X6_within
set_option maxRecDepth 20000 in
theorem ggX6_sailTheText_X2_firstFault : GoodIn wsX6_sailTheText wsX2_firstFault := goodIn_r _ [13, 14, 15, 16, 17, 12, 18, 19, 20, 21, 22, 23, 24, 25, 26, 27, 28, 29, 30, 31, 32, 33, 34, 35, 160, 161] (by decide +kernel) (by decide +kernel)
set_option maxRecDepth 20000 in
theorem gX6_sailTheText_X2_firstFault : GoodIn wsX6_sailTheText (wsV RX6 108 RX2 yX2_firstFault wsX2_firstFault) := goodIn_app (goodIn_of _ (by decide +kernel)) ggX6_sailTheText_X2_firstFault
set_option maxRecDepth 20000 in
theorem ggX6_sailTheText_X5_sailByText : GoodIn wsX6_sailTheText wsX5_sailByText := goodIn_r _ [40, 41, 42, 43, 44, 45, 46, 47, 39, 48, 49, 50, 51, 52, 53, 54, 55, 56, 57, 58, 59, 60, 61, 62, 63, 64, 65, 66, 67, 68, 69, 16, 17, 12, 18, 19, 20, 21, 22, 14, 23, 24, 25, 26, 27, 28, 29, 70, 71, 72, 73, 74, 75, 76, 77, 78, 79, 80, 81, 82, 83, 84, 85, 86, 87, 88, 89, 90, 91, 92, 93, 94, 95, 96, 97, 98, 99, 100, 101, 102, 103, 104, 105, 106, 107, 108, 109, 110, 111, 112, 113, 114, 115, 116, 117, 118, 119, 120, 121, 122, 123, 124, 125, 126, 127, 128, 129, 130, 131, 132, 133, 134, 135, 136, 137, 138, 139, 140, 141, 142, 143, 144, 34, 35, 160, 161, 152, 153, 154, 155, 156, 157, 158, 159, 162, 163, 164, 165, 166, 167, 168, 169, 170, 171] (by decide +kernel) (by decide +kernel)
set_option maxRecDepth 20000 in
theorem gX6_sailTheText_X5_sailByText : GoodIn wsX6_sailTheText (wsV RX6 220 RX5 yX5_sailByText wsX5_sailByText) := goodIn_app (goodIn_of _ (by decide +kernel)) ggX6_sailTheText_X5_sailByText
theorem dX6_sailTheText_0 : decode cX6_sailTheText 0 = .ok (.iload_n 1, 1) := by decide +kernel
theorem dX6_sailTheText_1 : decode cX6_sailTheText 1 = .ok (.iconst 0, 1) := by decide +kernel
theorem dX6_sailTheText_2 : decode cX6_sailTheText 2 = .ok (.iload_n 2, 1) := by decide +kernel
theorem dX6_sailTheText_3 : decode cX6_sailTheText 3 = .ok (.invokestatic 58, 3) := by decide +kernel
theorem dX6_sailTheText_6 : decode cX6_sailTheText 6 = .ok (.ifCond .ne 6, 3) := by decide +kernel
theorem dX6_sailTheText_9 : decode cX6_sailTheText 9 = .ok (.bipush (-2), 2) := by decide +kernel
theorem dX6_sailTheText_11 : decode cX6_sailTheText 11 = .ok (.ireturn, 1) := by decide +kernel
theorem dX6_sailTheText_12 : decode cX6_sailTheText 12 = .ok (.aload_n 0, 1) := by decide +kernel
theorem dX6_sailTheText_13 : decode cX6_sailTheText 13 = .ok (.getfield 19, 3) := by decide +kernel
theorem dX6_sailTheText_16 : decode cX6_sailTheText 16 = .ok (.invokevirtual 108, 3) := by decide +kernel
theorem dX6_sailTheText_19 : decode cX6_sailTheText 19 = .ok (.bipush (-6), 2) := by decide +kernel
theorem dX6_sailTheText_21 : decode cX6_sailTheText 21 = .ok (.if_icmp .eq 6, 3) := by decide +kernel
theorem dX6_sailTheText_24 : decode cX6_sailTheText 24 = .ok (.bipush (-5), 2) := by decide +kernel
theorem dX6_sailTheText_26 : decode cX6_sailTheText 26 = .ok (.ireturn, 1) := by decide +kernel
theorem dX6_sailTheText_27 : decode cX6_sailTheText 27 = .ok (.aload_n 0, 1) := by decide +kernel
theorem dX6_sailTheText_28 : decode cX6_sailTheText 28 = .ok (.getfield 26, 3) := by decide +kernel
theorem dX6_sailTheText_31 : decode cX6_sailTheText 31 = .ok (.aload_n 0, 1) := by decide +kernel
theorem dX6_sailTheText_32 : decode cX6_sailTheText 32 = .ok (.getfield 10, 3) := by decide +kernel
theorem dX6_sailTheText_35 : decode cX6_sailTheText 35 = .ok (.aload_n 0, 1) := by decide +kernel
theorem dX6_sailTheText_36 : decode cX6_sailTheText 36 = .ok (.getfield 19, 3) := by decide +kernel
theorem dX6_sailTheText_39 : decode cX6_sailTheText 39 = .ok (.invokevirtual 220, 3) := by decide +kernel
theorem dX6_sailTheText_42 : decode cX6_sailTheText 42 = .ok (.iload_n 3, 1) := by decide +kernel
theorem dX6_sailTheText_43 : decode cX6_sailTheText 43 = .ok (.ifCond .eq 20, 3) := by decide +kernel
theorem dX6_sailTheText_46 : decode cX6_sailTheText 46 = .ok (.aload_n 0, 1) := by decide +kernel
theorem dX6_sailTheText_47 : decode cX6_sailTheText 47 = .ok (.getfield 26, 3) := by decide +kernel
theorem dX6_sailTheText_50 : decode cX6_sailTheText 50 = .ok (.getfield 116, 3) := by decide +kernel
theorem dX6_sailTheText_53 : decode cX6_sailTheText 53 = .ok (.bipush (-6), 2) := by decide +kernel
theorem dX6_sailTheText_55 : decode cX6_sailTheText 55 = .ok (.if_icmp .eq 8, 3) := by decide +kernel
theorem dX6_sailTheText_58 : decode cX6_sailTheText 58 = .ok (.bipush (-3), 2) := by decide +kernel
theorem dX6_sailTheText_60 : decode cX6_sailTheText 60 = .ok (.goto 4, 3) := by decide +kernel
theorem dX6_sailTheText_63 : decode cX6_sailTheText 63 = .ok (.iconst 0, 1) := by decide +kernel
theorem dX6_sailTheText_64 : decode cX6_sailTheText 64 = .ok (.ireturn, 1) := by decide +kernel
theorem dX6_shipAndWatch_0 : decode cX6_shipAndWatch 0 = .ok (.iload_n 1, 1) := by decide +kernel
theorem dX6_shipAndWatch_1 : decode cX6_shipAndWatch 1 = .ok (.tableswitch 74 0 4 #[35, 40, 45, 50, 69], 35) := by decide +kernel
theorem dX6_shipAndWatch_36 : decode cX6_shipAndWatch 36 = .ok (.aload_n 0, 1) := by decide +kernel
theorem dX6_shipAndWatch_37 : decode cX6_shipAndWatch 37 = .ok (.getfield 62, 3) := by decide +kernel
theorem dX6_shipAndWatch_40 : decode cX6_shipAndWatch 40 = .ok (.ireturn, 1) := by decide +kernel
theorem dX6_shipAndWatch_41 : decode cX6_shipAndWatch 41 = .ok (.aload_n 0, 1) := by decide +kernel
theorem dX6_shipAndWatch_42 : decode cX6_shipAndWatch 42 = .ok (.getfield 85, 3) := by decide +kernel
theorem dX6_shipAndWatch_45 : decode cX6_shipAndWatch 45 = .ok (.ireturn, 1) := by decide +kernel
theorem dX6_shipAndWatch_46 : decode cX6_shipAndWatch 46 = .ok (.aload_n 0, 1) := by decide +kernel
theorem dX6_shipAndWatch_47 : decode cX6_shipAndWatch 47 = .ok (.getfield 132, 3) := by decide +kernel
theorem dX6_shipAndWatch_50 : decode cX6_shipAndWatch 50 = .ok (.ireturn, 1) := by decide +kernel
theorem dX6_shipAndWatch_51 : decode cX6_shipAndWatch 51 = .ok (.aload_n 0, 1) := by decide +kernel
theorem dX6_shipAndWatch_52 : decode cX6_shipAndWatch 52 = .ok (.getfield 132, 3) := by decide +kernel
theorem dX6_shipAndWatch_55 : decode cX6_shipAndWatch 55 = .ok (.bipush (-6), 2) := by decide +kernel
theorem dX6_shipAndWatch_57 : decode cX6_shipAndWatch 57 = .ok (.if_icmp .ne 8, 3) := by decide +kernel
theorem dX6_shipAndWatch_60 : decode cX6_shipAndWatch 60 = .ok (.bipush (-6), 2) := by decide +kernel
theorem dX6_shipAndWatch_62 : decode cX6_shipAndWatch 62 = .ok (.goto 7, 3) := by decide +kernel
theorem dX6_shipAndWatch_65 : decode cX6_shipAndWatch 65 = .ok (.aload_n 0, 1) := by decide +kernel
theorem dX6_shipAndWatch_66 : decode cX6_shipAndWatch 66 = .ok (.getfield 224, 3) := by decide +kernel
theorem dX6_shipAndWatch_69 : decode cX6_shipAndWatch 69 = .ok (.ireturn, 1) := by decide +kernel
theorem dX6_shipAndWatch_70 : decode cX6_shipAndWatch 70 = .ok (.aload_n 0, 1) := by decide +kernel
theorem dX6_shipAndWatch_71 : decode cX6_shipAndWatch 71 = .ok (.getfield 99, 3) := by decide +kernel
theorem dX6_shipAndWatch_74 : decode cX6_shipAndWatch 74 = .ok (.ireturn, 1) := by decide +kernel
theorem dX6_shipAndWatch_75 : decode cX6_shipAndWatch 75 = .ok (.aload_n 0, 1) := by decide +kernel
theorem dX6_shipAndWatch_76 : decode cX6_shipAndWatch 76 = .ok (.getfield 227, 3) := by decide +kernel
theorem dX6_shipAndWatch_79 : decode cX6_shipAndWatch 79 = .ok (.ireturn, 1) := by decide +kernel
set_option maxRecDepth 20000 in
theorem ggX6_fewestSteps_X4_isLand : GoodIn wsX6_fewestSteps wsX4_isLand := goodIn_r _ [8, 9, 10, 11, 12, 13, 44, 45, 46, 47, 48, 49, 50, 51, 52, 53] (by decide +kernel) (by decide +kernel)
set_option maxRecDepth 20000 in
theorem gX6_fewestSteps_X4_isLand : GoodIn wsX6_fewestSteps (wsV RX6 82 RX4 yX4_isLand wsX4_isLand) := goodIn_app (goodIn_of _ (by decide +kernel)) ggX6_fewestSteps_X4_isLand
set_option maxRecDepth 20000 in
theorem ggX6_fewestSteps_X0_only : GoodIn wsX6_fewestSteps wsX0_only := goodIn_r _ [16] (by decide +kernel) (by decide +kernel)
set_option maxRecDepth 20000 in
theorem gX6_fewestSteps_X0_only : GoodIn wsX6_fewestSteps (va_wsS RX6 66 yX0_only wsX0_only) := goodIn_app (goodIn_of _ (by decide +kernel)) ggX6_fewestSteps_X0_only
set_option maxRecDepth 20000 in
theorem ggX6_fewestSteps_X0_spread : GoodIn wsX6_fewestSteps wsX0_spread := goodIn_r _ [19, 20] (by decide +kernel) (by decide +kernel)
set_option maxRecDepth 20000 in
theorem gX6_fewestSteps_X0_spread : GoodIn wsX6_fewestSteps (va_wsS RX6 230 yX0_spread wsX0_spread) := goodIn_app (goodIn_of _ (by decide +kernel)) ggX6_fewestSteps_X0_spread
set_option maxRecDepth 20000 in
theorem ggX6_fewestSteps_X0_holds : GoodIn wsX6_fewestSteps wsX0_holds := goodIn_r _ [13] (by decide +kernel) (by decide +kernel)
set_option maxRecDepth 20000 in
theorem gX6_fewestSteps_X0_holds : GoodIn wsX6_fewestSteps (va_wsS RX6 234 yX0_holds wsX0_holds) := goodIn_app (goodIn_of _ (by decide +kernel)) ggX6_fewestSteps_X0_holds
set_option maxRecDepth 20000 in
theorem ggX6_fewestSteps_X0_leastWayInto : GoodIn wsX6_fewestSteps wsX0_leastWayInto := goodIn_r _ [24, 25, 26, 12, 27, 28, 29, 30, 31, 32, 33, 34, 35, 36, 11, 13] (by decide +kernel) (by decide +kernel)
set_option maxRecDepth 20000 in
theorem gX6_fewestSteps_X0_leastWayInto : GoodIn wsX6_fewestSteps (va_wsS RX6 238 yX0_leastWayInto wsX0_leastWayInto) := goodIn_app (goodIn_of _ (by decide +kernel)) ggX6_fewestSteps_X0_leastWayInto
theorem dX6_fewestSteps_0 : decode cX6_fewestSteps 0 = .ok (.aload_n 0, 1) := by decide +kernel
theorem dX6_fewestSteps_1 : decode cX6_fewestSteps 1 = .ok (.getfield 10, 3) := by decide +kernel
theorem dX6_fewestSteps_4 : decode cX6_fewestSteps 4 = .ok (.iload_n 1, 1) := by decide +kernel
theorem dX6_fewestSteps_5 : decode cX6_fewestSteps 5 = .ok (.invokevirtual 82, 3) := by decide +kernel
theorem dX6_fewestSteps_8 : decode cX6_fewestSteps 8 = .ok (.ifCond .ne 14, 3) := by decide +kernel
theorem dX6_fewestSteps_11 : decode cX6_fewestSteps 11 = .ok (.aload_n 0, 1) := by decide +kernel
theorem dX6_fewestSteps_12 : decode cX6_fewestSteps 12 = .ok (.getfield 10, 3) := by decide +kernel
theorem dX6_fewestSteps_15 : decode cX6_fewestSteps 15 = .ok (.iload_n 2, 1) := by decide +kernel
theorem dX6_fewestSteps_16 : decode cX6_fewestSteps 16 = .ok (.invokevirtual 82, 3) := by decide +kernel
theorem dX6_fewestSteps_19 : decode cX6_fewestSteps 19 = .ok (.ifCond .eq 6, 3) := by decide +kernel
theorem dX6_fewestSteps_22 : decode cX6_fewestSteps 22 = .ok (.bipush (-6), 2) := by decide +kernel
theorem dX6_fewestSteps_24 : decode cX6_fewestSteps 24 = .ok (.ireturn, 1) := by decide +kernel
theorem dX6_fewestSteps_25 : decode cX6_fewestSteps 25 = .ok (.iload_n 1, 1) := by decide +kernel
theorem dX6_fewestSteps_26 : decode cX6_fewestSteps 26 = .ok (.iload_n 2, 1) := by decide +kernel
theorem dX6_fewestSteps_27 : decode cX6_fewestSteps 27 = .ok (.if_icmp .ne 14, 3) := by decide +kernel
theorem dX6_fewestSteps_30 : decode cX6_fewestSteps 30 = .ok (.iload_n 3, 1) := by decide +kernel
theorem dX6_fewestSteps_31 : decode cX6_fewestSteps 31 = .ok (.ifCond .ne 7, 3) := by decide +kernel
theorem dX6_fewestSteps_34 : decode cX6_fewestSteps 34 = .ok (.iconst 0, 1) := by decide +kernel
theorem dX6_fewestSteps_35 : decode cX6_fewestSteps 35 = .ok (.goto 5, 3) := by decide +kernel
theorem dX6_fewestSteps_38 : decode cX6_fewestSteps 38 = .ok (.bipush (-6), 2) := by decide +kernel
theorem dX6_fewestSteps_40 : decode cX6_fewestSteps 40 = .ok (.ireturn, 1) := by decide +kernel
theorem dX6_fewestSteps_41 : decode cX6_fewestSteps 41 = .ok (.iload_n 2, 1) := by decide +kernel
theorem dX6_fewestSteps_42 : decode cX6_fewestSteps 42 = .ok (.invokestatic 66, 3) := by decide +kernel
theorem dX6_fewestSteps_45 : decode cX6_fewestSteps 45 = .ok (.lstore 4, 2) := by decide +kernel
theorem dX6_fewestSteps_47 : decode cX6_fewestSteps 47 = .ok (.iconst 1, 1) := by decide +kernel
theorem dX6_fewestSteps_48 : decode cX6_fewestSteps 48 = .ok (.istore 6, 2) := by decide +kernel
theorem dX6_fewestSteps_50 : decode cX6_fewestSteps 50 = .ok (.iload 6, 2) := by decide +kernel
theorem dX6_fewestSteps_52 : decode cX6_fewestSteps 52 = .ok (.bipush 64, 2) := by decide +kernel
theorem dX6_fewestSteps_54 : decode cX6_fewestSteps 54 = .ok (.if_icmp .ge 57, 3) := by decide +kernel
theorem dX6_fewestSteps_57 : decode cX6_fewestSteps 57 = .ok (.lload 4, 2) := by decide +kernel
theorem dX6_fewestSteps_59 : decode cX6_fewestSteps 59 = .ok (.invokestatic 230, 3) := by decide +kernel
theorem dX6_fewestSteps_62 : decode cX6_fewestSteps 62 = .ok (.aload_n 0, 1) := by decide +kernel
theorem dX6_fewestSteps_63 : decode cX6_fewestSteps 63 = .ok (.getfield 10, 3) := by decide +kernel
theorem dX6_fewestSteps_66 : decode cX6_fewestSteps 66 = .ok (.getfield 70, 3) := by decide +kernel
theorem dX6_fewestSteps_69 : decode cX6_fewestSteps 69 = .ok (.ldc2_w 74, 3) := by decide +kernel
theorem dX6_fewestSteps_72 : decode cX6_fewestSteps 72 = .ok (.lxor, 1) := by decide +kernel
theorem dX6_fewestSteps_73 : decode cX6_fewestSteps 73 = .ok (.land, 1) := by decide +kernel
theorem dX6_fewestSteps_74 : decode cX6_fewestSteps 74 = .ok (.lstore 7, 2) := by decide +kernel
theorem dX6_fewestSteps_76 : decode cX6_fewestSteps 76 = .ok (.lload 7, 2) := by decide +kernel
theorem dX6_fewestSteps_78 : decode cX6_fewestSteps 78 = .ok (.iload_n 1, 1) := by decide +kernel
theorem dX6_fewestSteps_79 : decode cX6_fewestSteps 79 = .ok (.invokestatic 234, 3) := by decide +kernel
theorem dX6_fewestSteps_82 : decode cX6_fewestSteps 82 = .ok (.ifCond .eq 19, 3) := by decide +kernel
theorem dX6_fewestSteps_85 : decode cX6_fewestSteps 85 = .ok (.iload_n 3, 1) := by decide +kernel
theorem dX6_fewestSteps_86 : decode cX6_fewestSteps 86 = .ok (.ifCond .ne 8, 3) := by decide +kernel
theorem dX6_fewestSteps_89 : decode cX6_fewestSteps 89 = .ok (.iload 6, 2) := by decide +kernel
theorem dX6_fewestSteps_91 : decode cX6_fewestSteps 91 = .ok (.goto 9, 3) := by decide +kernel
theorem dX6_fewestSteps_94 : decode cX6_fewestSteps 94 = .ok (.iload_n 1, 1) := by decide +kernel
theorem dX6_fewestSteps_95 : decode cX6_fewestSteps 95 = .ok (.lload 4, 2) := by decide +kernel
theorem dX6_fewestSteps_97 : decode cX6_fewestSteps 97 = .ok (.invokestatic 238, 3) := by decide +kernel
theorem dX6_fewestSteps_100 : decode cX6_fewestSteps 100 = .ok (.ireturn, 1) := by decide +kernel
theorem dX6_fewestSteps_101 : decode cX6_fewestSteps 101 = .ok (.lload 7, 2) := by decide +kernel
theorem dX6_fewestSteps_103 : decode cX6_fewestSteps 103 = .ok (.lstore 4, 2) := by decide +kernel
theorem dX6_fewestSteps_105 : decode cX6_fewestSteps 105 = .ok (.iinc 6 1, 3) := by decide +kernel
theorem dX6_fewestSteps_108 : decode cX6_fewestSteps 108 = .ok (.goto (-58), 3) := by decide +kernel
theorem dX6_fewestSteps_111 : decode cX6_fewestSteps 111 = .ok (.bipush (-6), 2) := by decide +kernel
theorem dX6_fewestSteps_113 : decode cX6_fewestSteps 113 = .ok (.ireturn, 1) := by decide +kernel
set_option maxRecDepth 20000 in
theorem ggX6_bestNextLook_J13_bitCount_95d88 : GoodIn wsX6_bestNextLook wsJ13_bitCount_95d88 := goodIn_r _ [8, 9, 10, 11] (by decide +kernel) (by decide +kernel)
set_option maxRecDepth 20000 in
theorem gX6_bestNextLook_J13_bitCount_95d88 : GoodIn wsX6_bestNextLook (va_wsS RX6 76 yJ13_bitCount_95d88 wsJ13_bitCount_95d88) := goodIn_app (goodIn_of _ (by decide +kernel)) ggX6_bestNextLook_J13_bitCount_95d88
set_option maxRecDepth 20000 in
theorem ggX6_bestNextLook_X0_around : GoodIn wsX6_bestNextLook wsX0_around := goodIn_r _ [15, 16, 2, 3, 4, 17, 18, 19, 20, 21, 22] (by decide +kernel) (by decide +kernel)
set_option maxRecDepth 20000 in
theorem gX6_bestNextLook_X0_around : GoodIn wsX6_bestNextLook (va_wsS RX6 185 yX0_around wsX0_around) := goodIn_app (goodIn_of _ (by decide +kernel)) ggX6_bestNextLook_X0_around
theorem dX6_bestNextLook_0 : decode cX6_bestNextLook 0 = .ok (.lload_n 0, 1) := by decide +kernel
theorem dX6_bestNextLook_1 : decode cX6_bestNextLook 1 = .ok (.invokestatic 76, 3) := by decide +kernel
theorem dX6_bestNextLook_4 : decode cX6_bestNextLook 4 = .ok (.istore_n 3, 1) := by decide +kernel
theorem dX6_bestNextLook_5 : decode cX6_bestNextLook 5 = .ok (.iload_n 3, 1) := by decide +kernel
theorem dX6_bestNextLook_6 : decode cX6_bestNextLook 6 = .ok (.iconst 1, 1) := by decide +kernel
theorem dX6_bestNextLook_7 : decode cX6_bestNextLook 7 = .ok (.iadd, 1) := by decide +kernel
theorem dX6_bestNextLook_8 : decode cX6_bestNextLook 8 = .ok (.istore 4, 2) := by decide +kernel
theorem dX6_bestNextLook_10 : decode cX6_bestNextLook 10 = .ok (.bipush (-6), 2) := by decide +kernel
theorem dX6_bestNextLook_12 : decode cX6_bestNextLook 12 = .ok (.istore 5, 2) := by decide +kernel
theorem dX6_bestNextLook_14 : decode cX6_bestNextLook 14 = .ok (.iconst 0, 1) := by decide +kernel
theorem dX6_bestNextLook_15 : decode cX6_bestNextLook 15 = .ok (.istore 6, 2) := by decide +kernel
theorem dX6_bestNextLook_17 : decode cX6_bestNextLook 17 = .ok (.iload 6, 2) := by decide +kernel
theorem dX6_bestNextLook_19 : decode cX6_bestNextLook 19 = .ok (.bipush 64, 2) := by decide +kernel
theorem dX6_bestNextLook_21 : decode cX6_bestNextLook 21 = .ok (.if_icmp .ge 71, 3) := by decide +kernel
theorem dX6_bestNextLook_24 : decode cX6_bestNextLook 24 = .ok (.iconst 0, 1) := by decide +kernel
theorem dX6_bestNextLook_25 : decode cX6_bestNextLook 25 = .ok (.istore 7, 2) := by decide +kernel
theorem dX6_bestNextLook_27 : decode cX6_bestNextLook 27 = .ok (.iload 7, 2) := by decide +kernel
theorem dX6_bestNextLook_29 : decode cX6_bestNextLook 29 = .ok (.bipush 7, 2) := by decide +kernel
theorem dX6_bestNextLook_31 : decode cX6_bestNextLook 31 = .ok (.if_icmp .gt 55, 3) := by decide +kernel
theorem dX6_bestNextLook_34 : decode cX6_bestNextLook 34 = .ok (.lload_n 0, 1) := by decide +kernel
theorem dX6_bestNextLook_35 : decode cX6_bestNextLook 35 = .ok (.iload 6, 2) := by decide +kernel
theorem dX6_bestNextLook_37 : decode cX6_bestNextLook 37 = .ok (.iload 7, 2) := by decide +kernel
theorem dX6_bestNextLook_39 : decode cX6_bestNextLook 39 = .ok (.invokestatic 185, 3) := by decide +kernel
theorem dX6_bestNextLook_42 : decode cX6_bestNextLook 42 = .ok (.land, 1) := by decide +kernel
theorem dX6_bestNextLook_43 : decode cX6_bestNextLook 43 = .ok (.invokestatic 76, 3) := by decide +kernel
theorem dX6_bestNextLook_46 : decode cX6_bestNextLook 46 = .ok (.istore 8, 2) := by decide +kernel
theorem dX6_bestNextLook_48 : decode cX6_bestNextLook 48 = .ok (.iload 8, 2) := by decide +kernel
theorem dX6_bestNextLook_50 : decode cX6_bestNextLook 50 = .ok (.iload_n 3, 1) := by decide +kernel
theorem dX6_bestNextLook_51 : decode cX6_bestNextLook 51 = .ok (.iload 8, 2) := by decide +kernel
theorem dX6_bestNextLook_53 : decode cX6_bestNextLook 53 = .ok (.isub, 1) := by decide +kernel
theorem dX6_bestNextLook_54 : decode cX6_bestNextLook 54 = .ok (.invokestatic 242, 3) := by decide +kernel
theorem dX6_bestNextLook_57 : decode cX6_bestNextLook 57 = .ok (.istore 9, 2) := by decide +kernel
theorem dX6_bestNextLook_59 : decode cX6_bestNextLook 59 = .ok (.iload 9, 2) := by decide +kernel
theorem dX6_bestNextLook_61 : decode cX6_bestNextLook 61 = .ok (.iload 4, 2) := by decide +kernel
theorem dX6_bestNextLook_63 : decode cX6_bestNextLook 63 = .ok (.if_icmp .ge 17, 3) := by decide +kernel
theorem dX6_bestNextLook_66 : decode cX6_bestNextLook 66 = .ok (.iload 9, 2) := by decide +kernel
theorem dX6_bestNextLook_68 : decode cX6_bestNextLook 68 = .ok (.istore 4, 2) := by decide +kernel
theorem dX6_bestNextLook_70 : decode cX6_bestNextLook 70 = .ok (.bipush 10, 2) := by decide +kernel
theorem dX6_bestNextLook_72 : decode cX6_bestNextLook 72 = .ok (.iload 6, 2) := by decide +kernel
theorem dX6_bestNextLook_74 : decode cX6_bestNextLook 74 = .ok (.imul, 1) := by decide +kernel
theorem dX6_bestNextLook_75 : decode cX6_bestNextLook 75 = .ok (.iload 7, 2) := by decide +kernel
theorem dX6_bestNextLook_77 : decode cX6_bestNextLook 77 = .ok (.iadd, 1) := by decide +kernel
theorem dX6_bestNextLook_78 : decode cX6_bestNextLook 78 = .ok (.istore 5, 2) := by decide +kernel
theorem dX6_bestNextLook_80 : decode cX6_bestNextLook 80 = .ok (.iinc 7 1, 3) := by decide +kernel
theorem dX6_bestNextLook_83 : decode cX6_bestNextLook 83 = .ok (.goto (-56), 3) := by decide +kernel
theorem dX6_bestNextLook_86 : decode cX6_bestNextLook 86 = .ok (.iinc 6 1, 3) := by decide +kernel
theorem dX6_bestNextLook_89 : decode cX6_bestNextLook 89 = .ok (.goto (-72), 3) := by decide +kernel
theorem dX6_bestNextLook_92 : decode cX6_bestNextLook 92 = .ok (.iload_n 2, 1) := by decide +kernel
theorem dX6_bestNextLook_93 : decode cX6_bestNextLook 93 = .ok (.ifCond .ne 8, 3) := by decide +kernel
theorem dX6_bestNextLook_96 : decode cX6_bestNextLook 96 = .ok (.iload 5, 2) := by decide +kernel
theorem dX6_bestNextLook_98 : decode cX6_bestNextLook 98 = .ok (.goto 5, 3) := by decide +kernel
theorem dX6_bestNextLook_101 : decode cX6_bestNextLook 101 = .ok (.iload 4, 2) := by decide +kernel
theorem dX6_bestNextLook_103 : decode cX6_bestNextLook 103 = .ok (.ireturn, 1) := by decide +kernel
