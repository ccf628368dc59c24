theorem dX7_extend_115 : decode cX7_extend 115 = .ok (.ior, 1) := by decide +kernel
theorem dX7_extend_116 : decode cX7_extend 116 = .ok (.iload 5, 2) := by decide +kernel
theorem dX7_extend_118 : decode cX7_extend 118 = .ok (.iconst 1, 1) := by decide +kernel
theorem dX7_extend_119 : decode cX7_extend 119 = .ok (.iload 7, 2) := by decide +kernel
theorem dX7_extend_121 : decode cX7_extend 121 = .ok (.ishl, 1) := by decide +kernel
theorem dX7_extend_122 : decode cX7_extend 122 = .ok (.ior, 1) := by decide +kernel
theorem dX7_extend_123 : decode cX7_extend 123 = .ok (.iload 9, 2) := by decide +kernel
theorem dX7_extend_125 : decode cX7_extend 125 = .ok (.invokevirtual 29, 3) := by decide +kernel
theorem dX7_extend_128 : decode cX7_extend 128 = .ok (.iinc 7 1, 3) := by decide +kernel
theorem dX7_extend_131 : decode cX7_extend 131 = .ok (.goto (-117), 3) := by decide +kernel
theorem dX7_extend_134 : decode cX7_extend 134 = .ok (.return_, 1) := by decide +kernel
theorem dX7_compare_0 : decode cX7_compare 0 = .ok (.aload_n 0, 1) := by decide +kernel
theorem dX7_compare_1 : decode cX7_compare 1 = .ok (.getfield 15, 3) := by decide +kernel
theorem dX7_compare_4 : decode cX7_compare 4 = .ok (.ifCond .eq 11, 3) := by decide +kernel
theorem dX7_compare_7 : decode cX7_compare 7 = .ok (.iload_n 3, 1) := by decide +kernel
theorem dX7_compare_8 : decode cX7_compare 8 = .ok (.aload_n 0, 1) := by decide +kernel
theorem dX7_compare_9 : decode cX7_compare 9 = .ok (.getfield 18, 3) := by decide +kernel
theorem dX7_compare_12 : decode cX7_compare 12 = .ok (.if_icmp .le 7, 3) := by decide +kernel
theorem dX7_compare_15 : decode cX7_compare 15 = .ok (.iconst 1, 1) := by decide +kernel
theorem dX7_compare_16 : decode cX7_compare 16 = .ok (.goto 4, 3) := by decide +kernel
theorem dX7_compare_19 : decode cX7_compare 19 = .ok (.iconst 0, 1) := by decide +kernel
theorem dX7_compare_20 : decode cX7_compare 20 = .ok (.istore 4, 2) := by decide +kernel
theorem dX7_compare_22 : decode cX7_compare 22 = .ok (.iload 4, 2) := by decide +kernel
theorem dX7_compare_24 : decode cX7_compare 24 = .ok (.ifCond .ne 42, 3) := by decide +kernel
theorem dX7_compare_27 : decode cX7_compare 27 = .ok (.iload_n 3, 1) := by decide +kernel
theorem dX7_compare_28 : decode cX7_compare 28 = .ok (.aload_n 0, 1) := by decide +kernel
theorem dX7_compare_29 : decode cX7_compare 29 = .ok (.getfield 18, 3) := by decide +kernel
theorem dX7_compare_32 : decode cX7_compare 32 = .ok (.if_icmp .ne 34, 3) := by decide +kernel
theorem dX7_compare_35 : decode cX7_compare 35 = .ok (.iload_n 1, 1) := by decide +kernel
theorem dX7_compare_36 : decode cX7_compare 36 = .ok (.aload_n 0, 1) := by decide +kernel
theorem dX7_compare_37 : decode cX7_compare 37 = .ok (.getfield 9, 3) := by decide +kernel
theorem dX7_compare_40 : decode cX7_compare 40 = .ok (.if_icmp .lt 19, 3) := by decide +kernel
theorem dX7_compare_43 : decode cX7_compare 43 = .ok (.iload_n 1, 1) := by decide +kernel
theorem dX7_compare_44 : decode cX7_compare 44 = .ok (.aload_n 0, 1) := by decide +kernel
theorem dX7_compare_45 : decode cX7_compare 45 = .ok (.getfield 9, 3) := by decide +kernel
theorem dX7_compare_48 : decode cX7_compare 48 = .ok (.if_icmp .ne 15, 3) := by decide +kernel
theorem dX7_compare_51 : decode cX7_compare 51 = .ok (.iload_n 2, 1) := by decide +kernel
theorem dX7_compare_52 : decode cX7_compare 52 = .ok (.aload_n 0, 1) := by decide +kernel
theorem dX7_compare_53 : decode cX7_compare 53 = .ok (.getfield 15, 3) := by decide +kernel
theorem dX7_compare_56 : decode cX7_compare 56 = .ok (.if_icmp .ge 7, 3) := by decide +kernel
theorem dX7_compare_59 : decode cX7_compare 59 = .ok (.iconst 1, 1) := by decide +kernel
theorem dX7_compare_60 : decode cX7_compare 60 = .ok (.goto 4, 3) := by decide +kernel
theorem dX7_compare_63 : decode cX7_compare 63 = .ok (.iconst 0, 1) := by decide +kernel
theorem dX7_compare_64 : decode cX7_compare 64 = .ok (.istore 4, 2) := by decide +kernel
theorem dX7_compare_66 : decode cX7_compare 66 = .ok (.iload 4, 2) := by decide +kernel
theorem dX7_compare_68 : decode cX7_compare 68 = .ok (.ifCond .eq 18, 3) := by decide +kernel
theorem dX7_compare_71 : decode cX7_compare 71 = .ok (.aload_n 0, 1) := by decide +kernel
theorem dX7_compare_72 : decode cX7_compare 72 = .ok (.iload_n 3, 1) := by decide +kernel
theorem dX7_compare_73 : decode cX7_compare 73 = .ok (.putfield 18, 3) := by decide +kernel
theorem dX7_compare_76 : decode cX7_compare 76 = .ok (.aload_n 0, 1) := by decide +kernel
theorem dX7_compare_77 : decode cX7_compare 77 = .ok (.iload_n 1, 1) := by decide +kernel
theorem dX7_compare_78 : decode cX7_compare 78 = .ok (.putfield 9, 3) := by decide +kernel
theorem dX7_compare_81 : decode cX7_compare 81 = .ok (.aload_n 0, 1) := by decide +kernel
theorem dX7_compare_82 : decode cX7_compare 82 = .ok (.iload_n 2, 1) := by decide +kernel
theorem dX7_compare_83 : decode cX7_compare 83 = .ok (.putfield 15, 3) := by decide +kernel
theorem dX7_compare_86 : decode cX7_compare 86 = .ok (.return_, 1) := by decide +kernel
theorem dX8_init_0 : decode cX8_init 0 = .ok (.aload_n 0, 1) := by decide +kernel
theorem dX8_init_1 : decode cX8_init 1 = .ok (.invokespecial 3, 3) := by decide +kernel
theorem dX8_init_4 : decode cX8_init 4 = .ok (.aload_n 0, 1) := by decide +kernel
theorem dX8_init_5 : decode cX8_init 5 = .ok (.bipush 9, 2) := by decide +kernel
theorem dX8_init_7 : decode cX8_init 7 = .ok (.newarray .int, 2) := by decide +kernel
theorem dX8_init_9 : decode cX8_init 9 = .ok (.putfield 9, 3) := by decide +kernel
theorem dX8_init_12 : decode cX8_init 12 = .ok (.aload_n 0, 1) := by decide +kernel
theorem dX8_init_13 : decode cX8_init 13 = .ok (.iconst (-1), 1) := by decide +kernel
theorem dX8_init_14 : decode cX8_init 14 = .ok (.putfield 15, 3) := by decide +kernel
theorem dX8_init_17 : decode cX8_init 17 = .ok (.aload_n 0, 1) := by decide +kernel
theorem dX8_init_18 : decode cX8_init 18 = .ok (.iconst (-1), 1) := by decide +kernel
theorem dX8_init_19 : decode cX8_init 19 = .ok (.putfield 19, 3) := by decide +kernel
theorem dX8_init_22 : decode cX8_init 22 = .ok (.return_, 1) := by decide +kernel
theorem dX8_begin_0 : decode cX8_begin 0 = .ok (.aload_n 1, 1) := by decide +kernel
theorem dX8_begin_1 : decode cX8_begin 1 = .ok (.getfield 22, 3) := by decide +kernel
theorem dX8_begin_4 : decode cX8_begin 4 = .ok (.iconst 0, 1) := by decide +kernel
theorem dX8_begin_5 : decode cX8_begin 5 = .ok (.aload_n 0, 1) := by decide +kernel
theorem dX8_begin_6 : decode cX8_begin 6 = .ok (.getfield 9, 3) := by decide +kernel
theorem dX8_begin_9 : decode cX8_begin 9 = .ok (.iconst 0, 1) := by decide +kernel
theorem dX8_begin_10 : decode cX8_begin 10 = .ok (.bipush 9, 2) := by decide +kernel
theorem dX8_begin_12 : decode cX8_begin 12 = .ok (.invokestatic 25, 3) := by decide +kernel
theorem dX8_begin_15 : decode cX8_begin 15 = .ok (.aload_n 0, 1) := by decide +kernel
theorem dX8_begin_16 : decode cX8_begin 16 = .ok (.iconst 0, 1) := by decide +kernel
theorem dX8_begin_17 : decode cX8_begin 17 = .ok (.putfield 31, 3) := by decide +kernel
theorem dX8_begin_20 : decode cX8_begin 20 = .ok (.aload_n 0, 1) := by decide +kernel
theorem dX8_begin_21 : decode cX8_begin 21 = .ok (.iconst 0, 1) := by decide +kernel
theorem dX8_begin_22 : decode cX8_begin 22 = .ok (.putfield 34, 3) := by decide +kernel
theorem dX8_begin_25 : decode cX8_begin 25 = .ok (.aload_n 0, 1) := by decide +kernel
theorem dX8_begin_26 : decode cX8_begin 26 = .ok (.iconst 0, 1) := by decide +kernel
theorem dX8_begin_27 : decode cX8_begin 27 = .ok (.putfield 37, 3) := by decide +kernel
theorem dX8_begin_30 : decode cX8_begin 30 = .ok (.aload_n 0, 1) := by decide +kernel
theorem dX8_begin_31 : decode cX8_begin 31 = .ok (.iconst (-1), 1) := by decide +kernel
theorem dX8_begin_32 : decode cX8_begin 32 = .ok (.putfield 15, 3) := by decide +kernel
theorem dX8_begin_35 : decode cX8_begin 35 = .ok (.aload_n 0, 1) := by decide +kernel
theorem dX8_begin_36 : decode cX8_begin 36 = .ok (.iconst (-1), 1) := by decide +kernel
theorem dX8_begin_37 : decode cX8_begin 37 = .ok (.putfield 19, 3) := by decide +kernel
theorem dX8_begin_40 : decode cX8_begin 40 = .ok (.return_, 1) := by decide +kernel
theorem dX8_copy_0 : decode cX8_copy 0 = .ok (.aload_n 1, 1) := by decide +kernel
theorem dX8_copy_1 : decode cX8_copy 1 = .ok (.getfield 9, 3) := by decide +kernel
theorem dX8_copy_4 : decode cX8_copy 4 = .ok (.iconst 0, 1) := by decide +kernel
theorem dX8_copy_5 : decode cX8_copy 5 = .ok (.aload_n 0, 1) := by decide +kernel
theorem dX8_copy_6 : decode cX8_copy 6 = .ok (.getfield 9, 3) := by decide +kernel
theorem dX8_copy_9 : decode cX8_copy 9 = .ok (.iconst 0, 1) := by decide +kernel
theorem dX8_copy_10 : decode cX8_copy 10 = .ok (.bipush 9, 2) := by decide +kernel
theorem dX8_copy_12 : decode cX8_copy 12 = .ok (.invokestatic 25, 3) := by decide +kernel
theorem dX8_copy_15 : decode cX8_copy 15 = .ok (.aload_n 0, 1) := by decide +kernel
theorem dX8_copy_16 : decode cX8_copy 16 = .ok (.aload_n 1, 1) := by decide +kernel
theorem dX8_copy_17 : decode cX8_copy 17 = .ok (.getfield 31, 3) := by decide +kernel
theorem dX8_copy_20 : decode cX8_copy 20 = .ok (.putfield 31, 3) := by decide +kernel
theorem dX8_copy_23 : decode cX8_copy 23 = .ok (.aload_n 0, 1) := by decide +kernel
theorem dX8_copy_24 : decode cX8_copy 24 = .ok (.aload_n 1, 1) := by decide +kernel
theorem dX8_copy_25 : decode cX8_copy 25 = .ok (.getfield 34, 3) := by decide +kernel
theorem dX8_copy_28 : decode cX8_copy 28 = .ok (.putfield 34, 3) := by decide +kernel
theorem dX8_copy_31 : decode cX8_copy 31 = .ok (.aload_n 0, 1) := by decide +kernel
theorem dX8_copy_32 : decode cX8_copy 32 = .ok (.aload_n 1, 1) := by decide +kernel
theorem dX8_copy_33 : decode cX8_copy 33 = .ok (.getfield 37, 3) := by decide +kernel
theorem dX8_copy_36 : decode cX8_copy 36 = .ok (.putfield 37, 3) := by decide +kernel
theorem dX8_copy_39 : decode cX8_copy 39 = .ok (.aload_n 0, 1) := by decide +kernel
theorem dX8_copy_40 : decode cX8_copy 40 = .ok (.aload_n 1, 1) := by decide +kernel
theorem dX8_copy_41 : decode cX8_copy 41 = .ok (.getfield 15, 3) := by decide +kernel
theorem dX8_copy_44 : decode cX8_copy 44 = .ok (.putfield 15, 3) := by decide +kernel
theorem dX8_copy_47 : decode cX8_copy 47 = .ok (.aload_n 0, 1) := by decide +kernel
theorem dX8_copy_48 : decode cX8_copy 48 = .ok (.aload_n 1, 1) := by decide +kernel
theorem dX8_copy_49 : decode cX8_copy 49 = .ok (.getfield 19, 3) := by decide +kernel
theorem dX8_copy_52 : decode cX8_copy 52 = .ok (.putfield 19, 3) := by decide +kernel
theorem dX8_copy_55 : decode cX8_copy 55 = .ok (.return_, 1) := by decide +kernel
theorem dX8_move_0 : decode cX8_move 0 = .ok (.aload_n 0, 1) := by decide +kernel
theorem dX8_move_1 : decode cX8_move 1 = .ok (.getfield 9, 3) := by decide +kernel
theorem dX8_move_4 : decode cX8_move 4 = .ok (.iload_n 1, 1) := by decide +kernel
theorem dX8_move_5 : decode cX8_move 5 = .ok (.dup2, 1) := by decide +kernel
theorem dX8_move_6 : decode cX8_move 6 = .ok (.iaload, 1) := by decide +kernel
theorem dX8_move_7 : decode cX8_move 7 = .ok (.iload_n 2, 1) := by decide +kernel
theorem dX8_move_8 : decode cX8_move 8 = .ok (.iadd, 1) := by decide +kernel
theorem dX8_move_9 : decode cX8_move 9 = .ok (.iastore, 1) := by decide +kernel
theorem dX8_move_10 : decode cX8_move 10 = .ok (.aload_n 0, 1) := by decide +kernel
theorem dX8_move_11 : decode cX8_move 11 = .ok (.dup, 1) := by decide +kernel
theorem dX8_move_12 : decode cX8_move 12 = .ok (.getfield 31, 3) := by decide +kernel
theorem dX8_move_15 : decode cX8_move 15 = .ok (.iconst 1, 1) := by decide +kernel
theorem dX8_move_16 : decode cX8_move 16 = .ok (.iload_n 1, 1) := by decide +kernel
theorem dX8_move_17 : decode cX8_move 17 = .ok (.ishl, 1) := by decide +kernel
theorem dX8_move_18 : decode cX8_move 18 = .ok (.ior, 1) := by decide +kernel
theorem dX8_move_19 : decode cX8_move 19 = .ok (.putfield 31, 3) := by decide +kernel
theorem dX8_move_22 : decode cX8_move 22 = .ok (.return_, 1) := by decide +kernel
set_option maxRecDepth 20000 in
theorem ggX8_goBy_X2_holding : GoodIn wsX8_goBy wsX2_holding := goodIn_r _ [9, 10, 11, 12, 13, 8, 14, 15, 16, 17, 18, 19, 20, 21, 22, 23, 24, 25, 26, 27, 28, 29, 30, 31, 32, 33, 48, 49, 50, 51, 52, 53, 54, 55, 56, 57, 58, 59, 60] rfl (by decide +kernel)
set_option maxRecDepth 20000 in
theorem gX8_goBy_X2_holding : GoodIn wsX8_goBy (wsV RX8 40 RX2 yX2_holding wsX2_holding) := goodIn_app (goodIn_of _ (by decide +kernel)) ggX8_goBy_X2_holding
set_option maxRecDepth 20000 in
theorem ggX8_goBy_X8_breakTreaty : GoodIn wsX8_goBy wsX8_breakTreaty := goodIn_r _ [38, 39, 4, 40, 41, 42, 43, 44, 45, 46, 47] rfl (by decide +kernel)
set_option maxRecDepth 20000 in
theorem gX8_goBy_X8_breakTreaty : GoodIn wsX8_goBy (wsV RX8 47 RX8 yX8_breakTreaty wsX8_breakTreaty) := goodIn_app (goodIn_of _ (by decide +kernel)) ggX8_goBy_X8_breakTreaty
theorem dX8_goBy_0 : decode cX8_goBy 0 = .ok (.aload_n 1, 1) := by decide +kernel
theorem dX8_goBy_1 : decode cX8_goBy 1 = .ok (.aload_n 0, 1) := by decide +kernel
theorem dX8_goBy_2 : decode cX8_goBy 2 = .ok (.getfield 9, 3) := by decide +kernel
theorem dX8_goBy_5 : decode cX8_goBy 5 = .ok (.invokevirtual 40, 3) := by decide +kernel
theorem dX8_goBy_8 : decode cX8_goBy 8 = .ok (.istore_n 3, 1) := by decide +kernel
theorem dX8_goBy_9 : decode cX8_goBy 9 = .ok (.iconst 0, 1) := by decide +kernel
theorem dX8_goBy_10 : decode cX8_goBy 10 = .ok (.istore 4, 2) := by decide +kernel
theorem dX8_goBy_12 : decode cX8_goBy 12 = .ok (.iload 4, 2) := by decide +kernel
theorem dX8_goBy_14 : decode cX8_goBy 14 = .ok (.aload_n 1, 1) := by decide +kernel
theorem dX8_goBy_15 : decode cX8_goBy 15 = .ok (.getfield 44, 3) := by decide +kernel
theorem dX8_goBy_18 : decode cX8_goBy 18 = .ok (.if_icmp .ge 24, 3) := by decide +kernel
theorem dX8_goBy_21 : decode cX8_goBy 21 = .ok (.iload_n 3, 1) := by decide +kernel
theorem dX8_goBy_22 : decode cX8_goBy 22 = .ok (.iload 4, 2) := by decide +kernel
theorem dX8_goBy_24 : decode cX8_goBy 24 = .ok (.ishr, 1) := by decide +kernel
theorem dX8_goBy_25 : decode cX8_goBy 25 = .ok (.iconst 1, 1) := by decide +kernel
theorem dX8_goBy_26 : decode cX8_goBy 26 = .ok (.iand, 1) := by decide +kernel
theorem dX8_goBy_27 : decode cX8_goBy 27 = .ok (.ifCond .ne 9, 3) := by decide +kernel
theorem dX8_goBy_30 : decode cX8_goBy 30 = .ok (.aload_n 0, 1) := by decide +kernel
theorem dX8_goBy_31 : decode cX8_goBy 31 = .ok (.iload 4, 2) := by decide +kernel
theorem dX8_goBy_33 : decode cX8_goBy 33 = .ok (.invokevirtual 47, 3) := by decide +kernel
theorem dX8_goBy_36 : decode cX8_goBy 36 = .ok (.iinc 4 1, 3) := by decide +kernel
theorem dX8_goBy_39 : decode cX8_goBy 39 = .ok (.goto (-27), 3) := by decide +kernel
theorem dX8_goBy_42 : decode cX8_goBy 42 = .ok (.aload_n 0, 1) := by decide +kernel
theorem dX8_goBy_43 : decode cX8_goBy 43 = .ok (.iconst 0, 1) := by decide +kernel
theorem dX8_goBy_44 : decode cX8_goBy 44 = .ok (.putfield 31, 3) := by decide +kernel
theorem dX8_goBy_47 : decode cX8_goBy 47 = .ok (.aload_n 0, 1) := by decide +kernel
theorem dX8_goBy_48 : decode cX8_goBy 48 = .ok (.dup, 1) := by decide +kernel
theorem dX8_goBy_49 : decode cX8_goBy 49 = .ok (.getfield 34, 3) := by decide +kernel
theorem dX8_goBy_52 : decode cX8_goBy 52 = .ok (.iload_n 2, 1) := by decide +kernel
theorem dX8_goBy_53 : decode cX8_goBy 53 = .ok (.iadd, 1) := by decide +kernel
theorem dX8_goBy_54 : decode cX8_goBy 54 = .ok (.putfield 34, 3) := by decide +kernel
theorem dX8_goBy_57 : decode cX8_goBy 57 = .ok (.return_, 1) := by decide +kernel
theorem dX8_breakTreaty_0 : decode cX8_breakTreaty 0 = .ok (.aload_n 0, 1) := by decide +kernel
theorem dX8_breakTreaty_1 : decode cX8_breakTreaty 1 = .ok (.getfield 15, 3) := by decide +kernel
theorem dX8_breakTreaty_4 : decode cX8_breakTreaty 4 = .ok (.iconst (-1), 1) := by decide +kernel
theorem dX8_breakTreaty_5 : decode cX8_breakTreaty 5 = .ok (.if_icmp .ne 16, 3) := by decide +kernel
theorem dX8_breakTreaty_8 : decode cX8_breakTreaty 8 = .ok (.aload_n 0, 1) := by decide +kernel
theorem dX8_breakTreaty_9 : decode cX8_breakTreaty 9 = .ok (.iload_n 1, 1) := by decide +kernel
theorem dX8_breakTreaty_10 : decode cX8_breakTreaty 10 = .ok (.putfield 15, 3) := by decide +kernel
theorem dX8_breakTreaty_13 : decode cX8_breakTreaty 13 = .ok (.aload_n 0, 1) := by decide +kernel
theorem dX8_breakTreaty_14 : decode cX8_breakTreaty 14 = .ok (.aload_n 0, 1) := by decide +kernel
theorem dX8_breakTreaty_15 : decode cX8_breakTreaty 15 = .ok (.getfield 34, 3) := by decide +kernel
theorem dX8_breakTreaty_18 : decode cX8_breakTreaty 18 = .ok (.putfield 19, 3) := by decide +kernel
theorem dX8_breakTreaty_21 : decode cX8_breakTreaty 21 = .ok (.aload_n 0, 1) := by decide +kernel
theorem dX8_breakTreaty_22 : decode cX8_breakTreaty 22 = .ok (.dup, 1) := by decide +kernel
theorem dX8_breakTreaty_23 : decode cX8_breakTreaty 23 = .ok (.getfield 37, 3) := by decide +kernel
theorem dX8_breakTreaty_26 : decode cX8_breakTreaty 26 = .ok (.iconst 1, 1) := by decide +kernel
theorem dX8_breakTreaty_27 : decode cX8_breakTreaty 27 = .ok (.iload_n 1, 1) := by decide +kernel
theorem dX8_breakTreaty_28 : decode cX8_breakTreaty 28 = .ok (.ishl, 1) := by decide +kernel
theorem dX8_breakTreaty_29 : decode cX8_breakTreaty 29 = .ok (.ior, 1) := by decide +kernel
theorem dX8_breakTreaty_30 : decode cX8_breakTreaty 30 = .ok (.putfield 37, 3) := by decide +kernel
theorem dX8_breakTreaty_33 : decode cX8_breakTreaty 33 = .ok (.return_, 1) := by decide +kernel
theorem dX8_level_0 : decode cX8_level 0 = .ok (.iconst 0, 1) := by decide +kernel
theorem dX8_level_1 : decode cX8_level 1 = .ok (.istore_n 2, 1) := by decide +kernel
theorem dX8_level_2 : decode cX8_level 2 = .ok (.iconst 0, 1) := by decide +kernel
theorem dX8_level_3 : decode cX8_level 3 = .ok (.istore_n 3, 1) := by decide +kernel
theorem dX8_level_4 : decode cX8_level 4 = .ok (.iload_n 3, 1) := by decide +kernel
theorem dX8_level_5 : decode cX8_level 5 = .ok (.aload_n 1, 1) := by decide +kernel
theorem dX8_level_6 : decode cX8_level 6 = .ok (.getfield 51, 3) := by decide +kernel
theorem dX8_level_9 : decode cX8_level 9 = .ok (.if_icmp .ge 39, 3) := by decide +kernel
theorem dX8_level_12 : decode cX8_level 12 = .ok (.aload_n 0, 1) := by decide +kernel
theorem dX8_level_13 : decode cX8_level 13 = .ok (.getfield 9, 3) := by decide +kernel
theorem dX8_level_16 : decode cX8_level 16 = .ok (.iload_n 3, 1) := by decide +kernel
theorem dX8_level_17 : decode cX8_level 17 = .ok (.iaload, 1) := by decide +kernel
theorem dX8_level_18 : decode cX8_level 18 = .ok (.aload_n 1, 1) := by decide +kernel
theorem dX8_level_19 : decode cX8_level 19 = .ok (.getfield 54, 3) := by decide +kernel
theorem dX8_level_22 : decode cX8_level 22 = .ok (.iload_n 3, 1) := by decide +kernel
theorem dX8_level_23 : decode cX8_level 23 = .ok (.iaload, 1) := by decide +kernel
theorem dX8_level_24 : decode cX8_level 24 = .ok (.if_icmp .eq 18, 3) := by decide +kernel
theorem dX8_level_27 : decode cX8_level 27 = .ok (.iinc 2 1, 3) := by decide +kernel
theorem dX8_level_30 : decode cX8_level 30 = .ok (.aload_n 0, 1) := by decide +kernel
theorem dX8_level_31 : decode cX8_level 31 = .ok (.getfield 9, 3) := by decide +kernel
theorem dX8_level_34 : decode cX8_level 34 = .ok (.iload_n 3, 1) := by decide +kernel
theorem dX8_level_35 : decode cX8_level 35 = .ok (.aload_n 1, 1) := by decide +kernel
theorem dX8_level_36 : decode cX8_level 36 = .ok (.getfield 54, 3) := by decide +kernel
theorem dX8_level_39 : decode cX8_level 39 = .ok (.iload_n 3, 1) := by decide +kernel
theorem dX8_level_40 : decode cX8_level 40 = .ok (.iaload, 1) := by decide +kernel
theorem dX8_level_41 : decode cX8_level 41 = .ok (.iastore, 1) := by decide +kernel
theorem dX8_level_42 : decode cX8_level 42 = .ok (.iinc 3 1, 3) := by decide +kernel
theorem dX8_level_45 : decode cX8_level 45 = .ok (.goto (-41), 3) := by decide +kernel
theorem dX8_level_48 : decode cX8_level 48 = .ok (.aload_n 0, 1) := by decide +kernel
theorem dX8_level_49 : decode cX8_level 49 = .ok (.iconst 0, 1) := by decide +kernel
theorem dX8_level_50 : decode cX8_level 50 = .ok (.putfield 31, 3) := by decide +kernel
theorem dX8_level_53 : decode cX8_level 53 = .ok (.iload_n 2, 1) := by decide +kernel
theorem dX8_level_54 : decode cX8_level 54 = .ok (.ireturn, 1) := by decide +kernel
theorem dX9_init_0 : decode cX9_init 0 = .ok (.aload_n 0, 1) := by decide +kernel
theorem dX9_init_1 : decode cX9_init 1 = .ok (.invokespecial 3, 3) := by decide +kernel
theorem dX9_init_4 : decode cX9_init 4 = .ok (.aload_n 0, 1) := by decide +kernel
theorem dX9_init_5 : decode cX9_init 5 = .ok (.bipush 6, 2) := by decide +kernel
theorem dX9_init_7 : decode cX9_init 7 = .ok (.newarray .int, 2) := by decide +kernel
theorem dX9_init_9 : decode cX9_init 9 = .ok (.putfield 9, 3) := by decide +kernel
theorem dX9_init_12 : decode cX9_init 12 = .ok (.aload_n 0, 1) := by decide +kernel
theorem dX9_init_13 : decode cX9_init 13 = .ok (.bipush 6, 2) := by decide +kernel
theorem dX9_init_15 : decode cX9_init 15 = .ok (.newarray .int, 2) := by decide +kernel
theorem dX9_init_17 : decode cX9_init 17 = .ok (.putfield 15, 3) := by decide +kernel
theorem dX9_init_20 : decode cX9_init 20 = .ok (.return_, 1) := by decide +kernel
set_option maxRecDepth 20000 in
theorem ggX9_least_X9_measure : GoodIn wsX9_least wsX9_measure := goodIn_r _ [7, 1, 2, 8, 9, 10, 11, 12, 13, 14, 15, 16, 17, 18, 19, 20, 21, 22, 23, 24, 25, 26, 27, 28, 29, 30, 31, 32, 33, 34, 35] rfl (by decide +kernel)
set_option maxRecDepth 20000 in
theorem gX9_least_X9_measure : GoodIn wsX9_least (wsV RX9 18 RX9 yX9_measure wsX9_measure) := goodIn_app (goodIn_of _ (by decide +kernel)) ggX9_least_X9_measure
theorem dX9_least_0 : decode cX9_least 0 = .ok (.aload_n 0, 1) := by decide +kernel
theorem dX9_least_1 : decode cX9_least 1 = .ok (.aload_n 1, 1) := by decide +kernel
theorem dX9_least_2 : decode cX9_least 2 = .ok (.aload_n 2, 1) := by decide +kernel
theorem dX9_least_3 : decode cX9_least 3 = .ok (.iload 4, 2) := by decide +kernel
theorem dX9_least_5 : decode cX9_least 5 = .ok (.invokevirtual 18, 3) := by decide +kernel
theorem dX9_least_8 : decode cX9_least 8 = .ok (.aload_n 0, 1) := by decide +kernel
theorem dX9_least_9 : decode cX9_least 9 = .ok (.getfield 9, 3) := by decide +kernel
theorem dX9_least_12 : decode cX9_least 12 = .ok (.iload_n 3, 1) := by decide +kernel
theorem dX9_least_13 : decode cX9_least 13 = .ok (.iaload, 1) := by decide +kernel
theorem dX9_least_14 : decode cX9_least 14 = .ok (.ldc 22, 2) := by decide +kernel
theorem dX9_least_16 : decode cX9_least 16 = .ok (.if_icmp .ge 12, 3) := by decide +kernel
theorem dX9_least_19 : decode cX9_least 19 = .ok (.aload_n 0, 1) := by decide +kernel
theorem dX9_least_20 : decode cX9_least 20 = .ok (.getfield 9, 3) := by decide +kernel
theorem dX9_least_23 : decode cX9_least 23 = .ok (.iload_n 3, 1) := by decide +kernel
theorem dX9_least_24 : decode cX9_least 24 = .ok (.iaload, 1) := by decide +kernel
theorem dX9_least_25 : decode cX9_least 25 = .ok (.goto 4, 3) := by decide +kernel
theorem dX9_least_28 : decode cX9_least 28 = .ok (.iconst (-1), 1) := by decide +kernel
theorem dX9_least_29 : decode cX9_least 29 = .ok (.ireturn, 1) := by decide +kernel
set_option maxRecDepth 20000 in
theorem ggX9_go_X9_least : GoodIn wsX9_go wsX9_least := goodIn_r _ [7, 8, 9, 10, 11, 12, 6, 13, 14, 15, 16, 17, 18, 19, 20, 21, 22, 23, 24, 25, 37, 38, 39, 40, 41, 42, 43, 44, 45, 46, 47, 48, 49, 50, 51, 52] rfl (by decide +kernel)
set_option maxRecDepth 20000 in
theorem gX9_go_X9_least : GoodIn wsX9_go (wsV RX9 27 RX9 yX9_least wsX9_least) := goodIn_app (goodIn_of _ (by decide +kernel)) ggX9_go_X9_least
set_option maxRecDepth 20000 in
theorem ggX9_go_X9_firstOnward : GoodIn wsX9_go wsX9_firstOnward := goodIn_r _ [29, 15, 8, 30, 31, 32, 33, 34, 35, 36, 40, 41, 42, 43, 44, 45, 46, 47, 48, 49, 50, 51, 52, 37, 38, 39] rfl (by decide +kernel)
set_option maxRecDepth 20000 in
theorem gX9_go_X9_firstOnward : GoodIn wsX9_go (wsV RX9 31 RX9 yX9_firstOnward wsX9_firstOnward) := goodIn_app (goodIn_of _ (by decide +kernel)) ggX9_go_X9_firstOnward
set_option maxRecDepth 20000 in
theorem ggX9_go_X2_otherEnd : GoodIn wsX9_go wsX2_otherEnd := goodIn_r _ [34, 35, 36, 40, 41, 42, 43, 44, 45, 46, 47, 48, 49, 50, 51, 52] rfl (by decide +kernel)
set_option maxRecDepth 20000 in
theorem gX9_go_X2_otherEnd : GoodIn wsX9_go (wsV RX9 35 RX2 yX2_otherEnd wsX2_otherEnd) := goodIn_app (goodIn_of _ (by decide +kernel)) ggX9_go_X2_otherEnd
theorem dX9_go_0 : decode cX9_go 0 = .ok (.aload_n 0, 1) := by decide +kernel
theorem dX9_go_1 : decode cX9_go 1 = .ok (.iconst 0, 1) := by decide +kernel
theorem dX9_go_2 : decode cX9_go 2 = .ok (.putfield 23, 3) := by decide +kernel
theorem dX9_go_5 : decode cX9_go 5 = .ok (.aload_n 0, 1) := by decide +kernel
theorem dX9_go_6 : decode cX9_go 6 = .ok (.aload_n 1, 1) := by decide +kernel
theorem dX9_go_7 : decode cX9_go 7 = .ok (.aload_n 2, 1) := by decide +kernel
theorem dX9_go_8 : decode cX9_go 8 = .ok (.iload_n 3, 1) := by decide +kernel
theorem dX9_go_9 : decode cX9_go 9 = .ok (.iload 4, 2) := by decide +kernel
theorem dX9_go_11 : decode cX9_go 11 = .ok (.invokevirtual 27, 3) := by decide +kernel
theorem dX9_go_14 : decode cX9_go 14 = .ok (.iconst (-1), 1) := by decide +kernel
theorem dX9_go_15 : decode cX9_go 15 = .ok (.if_icmp .ne 5, 3) := by decide +kernel
theorem dX9_go_18 : decode cX9_go 18 = .ok (.iconst 0, 1) := by decide +kernel
theorem dX9_go_19 : decode cX9_go 19 = .ok (.ireturn, 1) := by decide +kernel
theorem dX9_go_20 : decode cX9_go 20 = .ok (.iload_n 3, 1) := by decide +kernel
theorem dX9_go_21 : decode cX9_go 21 = .ok (.istore 5, 2) := by decide +kernel
theorem dX9_go_23 : decode cX9_go 23 = .ok (.iconst 0, 1) := by decide +kernel
theorem dX9_go_24 : decode cX9_go 24 = .ok (.istore 6, 2) := by decide +kernel
theorem dX9_go_26 : decode cX9_go 26 = .ok (.iload 6, 2) := by decide +kernel
theorem dX9_go_28 : decode cX9_go 28 = .ok (.bipush 6, 2) := by decide +kernel
theorem dX9_go_30 : decode cX9_go 30 = .ok (.if_icmp .ge 65, 3) := by decide +kernel
theorem dX9_go_33 : decode cX9_go 33 = .ok (.iload 5, 2) := by decide +kernel
theorem dX9_go_35 : decode cX9_go 35 = .ok (.iload 4, 2) := by decide +kernel
theorem dX9_go_37 : decode cX9_go 37 = .ok (.if_icmp .eq 58, 3) := by decide +kernel
theorem dX9_go_40 : decode cX9_go 40 = .ok (.aload_n 0, 1) := by decide +kernel
theorem dX9_go_41 : decode cX9_go 41 = .ok (.aload_n 1, 1) := by decide +kernel
theorem dX9_go_42 : decode cX9_go 42 = .ok (.aload_n 2, 1) := by decide +kernel
theorem dX9_go_43 : decode cX9_go 43 = .ok (.iload 5, 2) := by decide +kernel
theorem dX9_go_45 : decode cX9_go 45 = .ok (.invokevirtual 31, 3) := by decide +kernel
theorem dX9_go_48 : decode cX9_go 48 = .ok (.istore 7, 2) := by decide +kernel
theorem dX9_go_50 : decode cX9_go 50 = .ok (.iload 7, 2) := by decide +kernel
theorem dX9_go_52 : decode cX9_go 52 = .ok (.iconst (-1), 1) := by decide +kernel
theorem dX9_go_53 : decode cX9_go 53 = .ok (.if_icmp .ne 5, 3) := by decide +kernel
theorem dX9_go_56 : decode cX9_go 56 = .ok (.iconst 0, 1) := by decide +kernel
theorem dX9_go_57 : decode cX9_go 57 = .ok (.ireturn, 1) := by decide +kernel
theorem dX9_go_58 : decode cX9_go 58 = .ok (.aload_n 0, 1) := by decide +kernel
theorem dX9_go_59 : decode cX9_go 59 = .ok (.getfield 15, 3) := by decide +kernel
theorem dX9_go_62 : decode cX9_go 62 = .ok (.aload_n 0, 1) := by decide +kernel
theorem dX9_go_63 : decode cX9_go 63 = .ok (.getfield 23, 3) := by decide +kernel
theorem dX9_go_66 : decode cX9_go 66 = .ok (.iload 7, 2) := by decide +kernel
theorem dX9_go_68 : decode cX9_go 68 = .ok (.iastore, 1) := by decide +kernel
theorem dX9_go_69 : decode cX9_go 69 = .ok (.aload_n 0, 1) := by decide +kernel
theorem dX9_go_70 : decode cX9_go 70 = .ok (.dup, 1) := by decide +kernel
theorem dX9_go_71 : decode cX9_go 71 = .ok (.getfield 23, 3) := by decide +kernel
theorem dX9_go_74 : decode cX9_go 74 = .ok (.iconst 1, 1) := by decide +kernel
theorem dX9_go_75 : decode cX9_go 75 = .ok (.iadd, 1) := by decide +kernel
theorem dX9_go_76 : decode cX9_go 76 = .ok (.putfield 23, 3) := by decide +kernel
theorem dX9_go_79 : decode cX9_go 79 = .ok (.aload_n 1, 1) := by decide +kernel
theorem dX9_go_80 : decode cX9_go 80 = .ok (.iload 7, 2) := by decide +kernel
theorem dX9_go_82 : decode cX9_go 82 = .ok (.iload 5, 2) := by decide +kernel
theorem dX9_go_84 : decode cX9_go 84 = .ok (.invokevirtual 35, 3) := by decide +kernel
theorem dX9_go_87 : decode cX9_go 87 = .ok (.istore 5, 2) := by decide +kernel
theorem dX9_go_89 : decode cX9_go 89 = .ok (.iinc 6 1, 3) := by decide +kernel
theorem dX9_go_92 : decode cX9_go 92 = .ok (.goto (-66), 3) := by decide +kernel
theorem dX9_go_95 : decode cX9_go 95 = .ok (.iload 5, 2) := by decide +kernel
theorem dX9_go_97 : decode cX9_go 97 = .ok (.iload 4, 2) := by decide +kernel
theorem dX9_go_99 : decode cX9_go 99 = .ok (.if_icmp .ne 7, 3) := by decide +kernel
theorem dX9_go_102 : decode cX9_go 102 = .ok (.iconst 1, 1) := by decide +kernel
theorem dX9_go_103 : decode cX9_go 103 = .ok (.goto 4, 3) := by decide +kernel
theorem dX9_go_106 : decode cX9_go 106 = .ok (.iconst 0, 1) := by decide +kernel
theorem dX9_go_107 : decode cX9_go 107 = .ok (.ireturn, 1) := by decide +kernel
theorem dX9_together_0 : decode cX9_together 0 = .ok (.iconst 0, 1) := by decide +kernel
theorem dX9_together_1 : decode cX9_together 1 = .ok (.istore_n 2, 1) := by decide +kernel
theorem dX9_together_2 : decode cX9_together 2 = .ok (.iconst 0, 1) := by decide +kernel
theorem dX9_together_3 : decode cX9_together 3 = .ok (.istore_n 3, 1) := by decide +kernel
theorem dX9_together_4 : decode cX9_together 4 = .ok (.iload_n 3, 1) := by decide +kernel
theorem dX9_together_5 : decode cX9_together 5 = .ok (.aload_n 0, 1) := by decide +kernel
theorem dX9_together_6 : decode cX9_together 6 = .ok (.getfield 23, 3) := by decide +kernel
theorem dX9_together_9 : decode cX9_together 9 = .ok (.if_icmp .ge 20, 3) := by decide +kernel
theorem dX9_together_12 : decode cX9_together 12 = .ok (.iload_n 2, 1) := by decide +kernel
theorem dX9_together_13 : decode cX9_together 13 = .ok (.aload_n 1, 1) := by decide +kernel
theorem dX9_together_14 : decode cX9_together 14 = .ok (.aload_n 0, 1) := by decide +kernel
theorem dX9_together_15 : decode cX9_together 15 = .ok (.getfield 15, 3) := by decide +kernel
theorem dX9_together_18 : decode cX9_together 18 = .ok (.iload_n 3, 1) := by decide +kernel
theorem dX9_together_19 : decode cX9_together 19 = .ok (.iaload, 1) := by decide +kernel
theorem dX9_together_20 : decode cX9_together 20 = .ok (.iaload, 1) := by decide +kernel
theorem dX9_together_21 : decode cX9_together 21 = .ok (.iadd, 1) := by decide +kernel
theorem dX9_together_22 : decode cX9_together 22 = .ok (.istore_n 2, 1) := by decide +kernel
theorem dX9_together_23 : decode cX9_together 23 = .ok (.iinc 3 1, 3) := by decide +kernel
theorem dX9_together_26 : decode cX9_together 26 = .ok (.goto (-22), 3) := by decide +kernel
theorem dX9_together_29 : decode cX9_together 29 = .ok (.iload_n 2, 1) := by decide +kernel
theorem dX9_together_30 : decode cX9_together 30 = .ok (.ireturn, 1) := by decide +kernel
theorem dX9_ownedBy_0 : decode cX9_ownedBy 0 = .ok (.iconst 0, 1) := by decide +kernel
theorem dX9_ownedBy_1 : decode cX9_ownedBy 1 = .ok (.istore 4, 2) := by decide +kernel
theorem dX9_ownedBy_3 : decode cX9_ownedBy 3 = .ok (.iconst 0, 1) := by decide +kernel
theorem dX9_ownedBy_4 : decode cX9_ownedBy 4 = .ok (.istore 5, 2) := by decide +kernel
theorem dX9_ownedBy_6 : decode cX9_ownedBy 6 = .ok (.iload 5, 2) := by decide +kernel
theorem dX9_ownedBy_8 : decode cX9_ownedBy 8 = .ok (.aload_n 0, 1) := by decide +kernel
theorem dX9_ownedBy_9 : decode cX9_ownedBy 9 = .ok (.getfield 23, 3) := by decide +kernel
theorem dX9_ownedBy_12 : decode cX9_ownedBy 12 = .ok (.if_icmp .ge 39, 3) := by decide +kernel
theorem dX9_ownedBy_15 : decode cX9_ownedBy 15 = .ok (.aload_n 1, 1) := by decide +kernel
theorem dX9_ownedBy_16 : decode cX9_ownedBy 16 = .ok (.getfield 41, 3) := by decide +kernel
theorem dX9_ownedBy_19 : decode cX9_ownedBy 19 = .ok (.aload_n 0, 1) := by decide +kernel
theorem dX9_ownedBy_20 : decode cX9_ownedBy 20 = .ok (.getfield 15, 3) := by decide +kernel
theorem dX9_ownedBy_23 : decode cX9_ownedBy 23 = .ok (.iload 5, 2) := by decide +kernel
theorem dX9_ownedBy_25 : decode cX9_ownedBy 25 = .ok (.iaload, 1) := by decide +kernel
theorem dX9_ownedBy_26 : decode cX9_ownedBy 26 = .ok (.iaload, 1) := by decide +kernel
theorem dX9_ownedBy_27 : decode cX9_ownedBy 27 = .ok (.iload_n 3, 1) := by decide +kernel
theorem dX9_ownedBy_28 : decode cX9_ownedBy 28 = .ok (.if_icmp .ne 17, 3) := by decide +kernel
theorem dX9_ownedBy_31 : decode cX9_ownedBy 31 = .ok (.iload 4, 2) := by decide +kernel
theorem dX9_ownedBy_33 : decode cX9_ownedBy 33 = .ok (.aload_n 2, 1) := by decide +kernel
theorem dX9_ownedBy_34 : decode cX9_ownedBy 34 = .ok (.aload_n 0, 1) := by decide +kernel
theorem dX9_ownedBy_35 : decode cX9_ownedBy 35 = .ok (.getfield 15, 3) := by decide +kernel
theorem dX9_ownedBy_38 : decode cX9_ownedBy 38 = .ok (.iload 5, 2) := by decide +kernel
theorem dX9_ownedBy_40 : decode cX9_ownedBy 40 = .ok (.iaload, 1) := by decide +kernel
theorem dX9_ownedBy_41 : decode cX9_ownedBy 41 = .ok (.iaload, 1) := by decide +kernel
theorem dX9_ownedBy_42 : decode cX9_ownedBy 42 = .ok (.iadd, 1) := by decide +kernel
theorem dX9_ownedBy_43 : decode cX9_ownedBy 43 = .ok (.istore 4, 2) := by decide +kernel
theorem dX9_ownedBy_45 : decode cX9_ownedBy 45 = .ok (.iinc 5 1, 3) := by decide +kernel
theorem dX9_ownedBy_48 : decode cX9_ownedBy 48 = .ok (.goto (-42), 3) := by decide +kernel
theorem dX9_ownedBy_51 : decode cX9_ownedBy 51 = .ok (.iload 4, 2) := by decide +kernel
theorem dX9_ownedBy_53 : decode cX9_ownedBy 53 = .ok (.ireturn, 1) := by decide +kernel
set_option maxRecDepth 20000 in
theorem ggX9_measure_J7_fill_53178 : GoodIn wsX9_measure wsJ7_fill_53178 := goodIn_r _ [14] rfl (by decide +kernel)
set_option maxRecDepth 20000 in
theorem gX9_measure_J7_fill_53178 : GoodIn wsX9_measure (va_wsS RX9 44 yJ7_fill_53178 wsJ7_fill_53178) := goodIn_app (goodIn_of _ (by decide +kernel)) ggX9_measure_J7_fill_53178
theorem dX9_measure_0 : decode cX9_measure 0 = .ok (.aload_n 0, 1) := by decide +kernel
theorem dX9_measure_1 : decode cX9_measure 1 = .ok (.getfield 9, 3) := by decide +kernel
theorem dX9_measure_4 : decode cX9_measure 4 = .ok (.ldc 22, 2) := by decide +kernel
theorem dX9_measure_6 : decode cX9_measure 6 = .ok (.invokestatic 44, 3) := by decide +kernel
theorem dX9_measure_9 : decode cX9_measure 9 = .ok (.aload_n 0, 1) := by decide +kernel
theorem dX9_measure_10 : decode cX9_measure 10 = .ok (.getfield 9, 3) := by decide +kernel
theorem dX9_measure_13 : decode cX9_measure 13 = .ok (.iload_n 3, 1) := by decide +kernel
theorem dX9_measure_14 : decode cX9_measure 14 = .ok (.iconst 0, 1) := by decide +kernel
theorem dX9_measure_15 : decode cX9_measure 15 = .ok (.iastore, 1) := by decide +kernel
theorem dX9_measure_16 : decode cX9_measure 16 = .ok (.iconst 1, 1) := by decide +kernel
theorem dX9_measure_17 : decode cX9_measure 17 = .ok (.istore 4, 2) := by decide +kernel
theorem dX9_measure_19 : decode cX9_measure 19 = .ok (.iload 4, 2) := by decide +kernel
theorem dX9_measure_21 : decode cX9_measure 21 = .ok (.aload_n 1, 1) := by decide +kernel
theorem dX9_measure_22 : decode cX9_measure 22 = .ok (.getfield 50, 3) := by decide +kernel
theorem dX9_measure_25 : decode cX9_measure 25 = .ok (.if_icmp .ge 103, 3) := by decide +kernel
theorem dX9_measure_28 : decode cX9_measure 28 = .ok (.iconst 0, 1) := by decide +kernel
theorem dX9_measure_29 : decode cX9_measure 29 = .ok (.istore 5, 2) := by decide +kernel
theorem dX9_measure_31 : decode cX9_measure 31 = .ok (.iload 5, 2) := by decide +kernel
theorem dX9_measure_33 : decode cX9_measure 33 = .ok (.aload_n 1, 1) := by decide +kernel
theorem dX9_measure_34 : decode cX9_measure 34 = .ok (.getfield 53, 3) := by decide +kernel
theorem dX9_measure_37 : decode cX9_measure 37 = .ok (.if_icmp .ge 85, 3) := by decide +kernel
theorem dX9_measure_40 : decode cX9_measure 40 = .ok (.aload_n 1, 1) := by decide +kernel
theorem dX9_measure_41 : decode cX9_measure 41 = .ok (.getfield 56, 3) := by decide +kernel
theorem dX9_measure_44 : decode cX9_measure 44 = .ok (.iload 5, 2) := by decide +kernel
theorem dX9_measure_46 : decode cX9_measure 46 = .ok (.iaload, 1) := by decide +kernel
theorem dX9_measure_47 : decode cX9_measure 47 = .ok (.istore 6, 2) := by decide +kernel
theorem dX9_measure_49 : decode cX9_measure 49 = .ok (.aload_n 1, 1) := by decide +kernel
theorem dX9_measure_50 : decode cX9_measure 50 = .ok (.getfield 59, 3) := by decide +kernel
theorem dX9_measure_53 : decode cX9_measure 53 = .ok (.iload 5, 2) := by decide +kernel
theorem dX9_measure_55 : decode cX9_measure 55 = .ok (.iaload, 1) := by decide +kernel
theorem dX9_measure_56 : decode cX9_measure 56 = .ok (.istore 7, 2) := by decide +kernel
theorem dX9_measure_58 : decode cX9_measure 58 = .ok (.aload_n 0, 1) := by decide +kernel
theorem dX9_measure_59 : decode cX9_measure 59 = .ok (.getfield 9, 3) := by decide +kernel
theorem dX9_measure_62 : decode cX9_measure 62 = .ok (.iload 6, 2) := by decide +kernel
theorem dX9_measure_64 : decode cX9_measure 64 = .ok (.aload_n 0, 1) := by decide +kernel
theorem dX9_measure_65 : decode cX9_measure 65 = .ok (.getfield 9, 3) := by decide +kernel
theorem dX9_measure_68 : decode cX9_measure 68 = .ok (.iload 6, 2) := by decide +kernel
theorem dX9_measure_70 : decode cX9_measure 70 = .ok (.iaload, 1) := by decide +kernel
theorem dX9_measure_71 : decode cX9_measure 71 = .ok (.aload_n 0, 1) := by decide +kernel
theorem dX9_measure_72 : decode cX9_measure 72 = .ok (.getfield 9, 3) := by decide +kernel
theorem dX9_measure_75 : decode cX9_measure 75 = .ok (.iload 7, 2) := by decide +kernel
theorem dX9_measure_77 : decode cX9_measure 77 = .ok (.iaload, 1) := by decide +kernel
theorem dX9_measure_78 : decode cX9_measure 78 = .ok (.aload_n 2, 1) := by decide +kernel
theorem dX9_measure_79 : decode cX9_measure 79 = .ok (.iload 5, 2) := by decide +kernel
theorem dX9_measure_81 : decode cX9_measure 81 = .ok (.iaload, 1) := by decide +kernel
theorem dX9_measure_82 : decode cX9_measure 82 = .ok (.iadd, 1) := by decide +kernel
theorem dX9_measure_83 : decode cX9_measure 83 = .ok (.invokestatic 62, 3) := by decide +kernel
theorem dX9_measure_86 : decode cX9_measure 86 = .ok (.iastore, 1) := by decide +kernel
theorem dX9_measure_87 : decode cX9_measure 87 = .ok (.aload_n 0, 1) := by decide +kernel
theorem dX9_measure_88 : decode cX9_measure 88 = .ok (.getfield 9, 3) := by decide +kernel
theorem dX9_measure_91 : decode cX9_measure 91 = .ok (.iload 7, 2) := by decide +kernel
theorem dX9_measure_93 : decode cX9_measure 93 = .ok (.aload_n 0, 1) := by decide +kernel
theorem dX9_measure_94 : decode cX9_measure 94 = .ok (.getfield 9, 3) := by decide +kernel
theorem dX9_measure_97 : decode cX9_measure 97 = .ok (.iload 7, 2) := by decide +kernel
theorem dX9_measure_99 : decode cX9_measure 99 = .ok (.iaload, 1) := by decide +kernel
theorem dX9_measure_100 : decode cX9_measure 100 = .ok (.aload_n 0, 1) := by decide +kernel
theorem dX9_measure_101 : decode cX9_measure 101 = .ok (.getfield 9, 3) := by decide +kernel
theorem dX9_measure_104 : decode cX9_measure 104 = .ok (.iload 6, 2) := by decide +kernel
theorem dX9_measure_106 : decode cX9_measure 106 = .ok (.iaload, 1) := by decide +kernel
theorem dX9_measure_107 : decode cX9_measure 107 = .ok (.aload_n 2, 1) := by decide +kernel
theorem dX9_measure_108 : decode cX9_measure 108 = .ok (.iload 5, 2) := by decide +kernel
theorem dX9_measure_110 : decode cX9_measure 110 = .ok (.iaload, 1) := by decide +kernel
theorem dX9_measure_111 : decode cX9_measure 111 = .ok (.iadd, 1) := by decide +kernel
theorem dX9_measure_112 : decode cX9_measure 112 = .ok (.invokestatic 62, 3) := by decide +kernel
theorem dX9_measure_115 : decode cX9_measure 115 = .ok (.iastore, 1) := by decide +kernel
theorem dX9_measure_116 : decode cX9_measure 116 = .ok (.iinc 5 1, 3) := by decide +kernel
theorem dX9_measure_119 : decode cX9_measure 119 = .ok (.goto (-88), 3) := by decide +kernel
theorem dX9_measure_122 : decode cX9_measure 122 = .ok (.iinc 4 1, 3) := by decide +kernel
theorem dX9_measure_125 : decode cX9_measure 125 = .ok (.goto (-106), 3) := by decide +kernel
theorem dX9_measure_128 : decode cX9_measure 128 = .ok (.return_, 1) := by decide +kernel
set_option maxRecDepth 20000 in
theorem ggX9_firstOnward_X2_otherEnd : GoodIn wsX9_firstOnward wsX2_otherEnd := goodIn_r _ [7, 8, 9, 10, 11, 12, 13, 14, 15, 16, 17, 18, 19, 20, 21, 22] rfl (by decide +kernel)
set_option maxRecDepth 20000 in
theorem gX9_firstOnward_X2_otherEnd : GoodIn wsX9_firstOnward (wsV RX9 35 RX2 yX2_otherEnd wsX2_otherEnd) := goodIn_app (goodIn_of _ (by decide +kernel)) ggX9_firstOnward_X2_otherEnd
theorem dX9_firstOnward_0 : decode cX9_firstOnward 0 = .ok (.iconst 0, 1) := by decide +kernel
theorem dX9_firstOnward_1 : decode cX9_firstOnward 1 = .ok (.istore 4, 2) := by decide +kernel
theorem dX9_firstOnward_3 : decode cX9_firstOnward 3 = .ok (.iload 4, 2) := by decide +kernel
theorem dX9_firstOnward_5 : decode cX9_firstOnward 5 = .ok (.aload_n 1, 1) := by decide +kernel
theorem dX9_firstOnward_6 : decode cX9_firstOnward 6 = .ok (.getfield 53, 3) := by decide +kernel
theorem dX9_firstOnward_9 : decode cX9_firstOnward 9 = .ok (.if_icmp .ge 48, 3) := by decide +kernel
theorem dX9_firstOnward_12 : decode cX9_firstOnward 12 = .ok (.aload_n 1, 1) := by decide +kernel
theorem dX9_firstOnward_13 : decode cX9_firstOnward 13 = .ok (.iload 4, 2) := by decide +kernel
theorem dX9_firstOnward_15 : decode cX9_firstOnward 15 = .ok (.iload_n 3, 1) := by decide +kernel
theorem dX9_firstOnward_16 : decode cX9_firstOnward 16 = .ok (.invokevirtual 35, 3) := by decide +kernel
theorem dX9_firstOnward_19 : decode cX9_firstOnward 19 = .ok (.istore 5, 2) := by decide +kernel
theorem dX9_firstOnward_21 : decode cX9_firstOnward 21 = .ok (.iload 5, 2) := by decide +kernel
theorem dX9_firstOnward_23 : decode cX9_firstOnward 23 = .ok (.iconst (-1), 1) := by decide +kernel
theorem dX9_firstOnward_24 : decode cX9_firstOnward 24 = .ok (.if_icmp .eq 27, 3) := by decide +kernel
theorem dX9_firstOnward_27 : decode cX9_firstOnward 27 = .ok (.aload_n 0, 1) := by decide +kernel
theorem dX9_firstOnward_28 : decode cX9_firstOnward 28 = .ok (.getfield 9, 3) := by decide +kernel
theorem dX9_firstOnward_31 : decode cX9_firstOnward 31 = .ok (.iload 5, 2) := by decide +kernel
theorem dX9_firstOnward_33 : decode cX9_firstOnward 33 = .ok (.iaload, 1) := by decide +kernel
theorem dX9_firstOnward_34 : decode cX9_firstOnward 34 = .ok (.aload_n 2, 1) := by decide +kernel
theorem dX9_firstOnward_35 : decode cX9_firstOnward 35 = .ok (.iload 4, 2) := by decide +kernel
theorem dX9_firstOnward_37 : decode cX9_firstOnward 37 = .ok (.iaload, 1) := by decide +kernel
theorem dX9_firstOnward_38 : decode cX9_firstOnward 38 = .ok (.iadd, 1) := by decide +kernel
theorem dX9_firstOnward_39 : decode cX9_firstOnward 39 = .ok (.aload_n 0, 1) := by decide +kernel
theorem dX9_firstOnward_40 : decode cX9_firstOnward 40 = .ok (.getfield 9, 3) := by decide +kernel
theorem dX9_firstOnward_43 : decode cX9_firstOnward 43 = .ok (.iload_n 3, 1) := by decide +kernel
theorem dX9_firstOnward_44 : decode cX9_firstOnward 44 = .ok (.iaload, 1) := by decide +kernel
theorem dX9_firstOnward_45 : decode cX9_firstOnward 45 = .ok (.if_icmp .ne 6, 3) := by decide +kernel
theorem dX9_firstOnward_48 : decode cX9_firstOnward 48 = .ok (.iload 4, 2) := by decide +kernel
theorem dX9_firstOnward_50 : decode cX9_firstOnward 50 = .ok (.ireturn, 1) := by decide +kernel
theorem dX9_firstOnward_51 : decode cX9_firstOnward 51 = .ok (.iinc 4 1, 3) := by decide +kernel
theorem dX9_firstOnward_54 : decode cX9_firstOnward 54 = .ok (.goto (-51), 3) := by decide +kernel
theorem dX9_firstOnward_57 : decode cX9_firstOnward 57 = .ok (.iconst (-1), 1) := by decide +kernel
theorem dX9_firstOnward_58 : decode cX9_firstOnward 58 = .ok (.ireturn, 1) := by decide +kernel
set_option maxRecDepth 20000 in
theorem ggX10_init_X6_init : GoodIn wsX10_init wsX6_init := goodIn_r _ [47, 48, 2, 3, 44, 49, 50, 9, 10, 51, 52, 53, 54, 55, 56, 57, 58, 59, 60, 61, 62, 63, 107, 108, 109, 110, 111, 112, 113, 114, 127, 128, 129, 130, 131, 132, 133, 134, 135, 136, 137, 138, 139] rfl (by decide +kernel)
set_option maxRecDepth 20000 in
theorem gX10_init_X6_init_n9 : GoodIn wsX10_init (wsX6_init) := ggX10_init_X6_init
set_option maxRecDepth 20000 in
theorem ggX10_init_X2_init : GoodIn wsX10_init wsX2_init := goodIn_r _ [54, 55, 2, 3, 44, 56, 57, 58, 59, 60, 61, 62, 63, 127, 128, 129, 130, 131, 132, 133, 134, 135, 136, 137, 138, 139] rfl (by decide +kernel)
set_option maxRecDepth 20000 in
theorem gX10_init_X2_init_n18 : GoodIn wsX10_init (wsX2_init) := ggX10_init_X2_init
set_option maxRecDepth 20000 in
theorem ggX10_init_X8_init : GoodIn wsX10_init wsX8_init := goodIn_r _ [65, 66, 2, 3, 44, 67, 68, 69, 140, 141, 142, 143, 144, 145] rfl (by decide +kernel)
set_option maxRecDepth 20000 in
theorem gX10_init_X8_init_n25 : GoodIn wsX10_init (wsX8_init) := ggX10_init_X8_init
set_option maxRecDepth 20000 in
theorem ggX10_init_X0_init : GoodIn wsX10_init wsX0_init := goodIn_r _ [71, 72, 2, 3, 73, 74, 146, 147, 148] rfl (by decide +kernel)
set_option maxRecDepth 20000 in
theorem gX10_init_X0_init_n32 : GoodIn wsX10_init (wsX0_init) := ggX10_init_X0_init
set_option maxRecDepth 20000 in
theorem ggX10_init_X1_init : GoodIn wsX10_init wsX1_init := goodIn_r _ [76, 77, 2, 3, 78, 13, 14, 79, 64, 65, 66, 44, 67, 68, 69, 140, 141, 142, 143, 144, 145, 149, 150, 151] rfl (by decide +kernel)
set_option maxRecDepth 20000 in
theorem gX10_init_X1_init_n39 : GoodIn wsX10_init (wsX1_init) := ggX10_init_X1_init
set_option maxRecDepth 20000 in
theorem ggX10_init_X5_init : GoodIn wsX10_init wsX5_init := goodIn_r _ [81, 82, 2, 3, 44, 83, 84, 85, 86, 87, 88, 152, 153, 154, 155, 156, 157, 158, 159] rfl (by decide +kernel)
set_option maxRecDepth 20000 in
theorem gX10_init_X5_init_n46 : GoodIn wsX10_init (wsX5_init) := ggX10_init_X5_init
set_option maxRecDepth 20000 in
theorem ggX10_init_X9_init : GoodIn wsX10_init wsX9_init := goodIn_r _ [90, 91, 2, 3, 44, 92, 93, 160, 161, 162] rfl (by decide +kernel)
set_option maxRecDepth 20000 in
theorem gX10_init_X9_init_n53 : GoodIn wsX10_init (wsX9_init) := ggX10_init_X9_init
set_option maxRecDepth 20000 in
theorem ggX10_init_X3_init : GoodIn wsX10_init wsX3_init := goodIn_r _ [95, 96, 2, 3, 44, 97, 98, 163, 164] rfl (by decide +kernel)
set_option maxRecDepth 20000 in
theorem gX10_init_X3_init_n60 : GoodIn wsX10_init (wsX3_init) := ggX10_init_X3_init
set_option maxRecDepth 20000 in
theorem ggX10_init_X4_init : GoodIn wsX10_init wsX4_init := goodIn_r _ [100, 101, 2, 3, 44, 102, 103, 165, 166, 167, 168] rfl (by decide +kernel)
set_option maxRecDepth 20000 in
theorem gX10_init_X4_init_n67 : GoodIn wsX10_init (wsX4_init) := ggX10_init_X4_init
set_option maxRecDepth 20000 in
theorem ggX10_init_X7_init : GoodIn wsX10_init wsX7_init := goodIn_r _ [105, 106, 2, 3] rfl (by decide +kernel)
set_option maxRecDepth 20000 in
theorem gX10_init_X7_init_n74 : GoodIn wsX10_init (wsX7_init) := ggX10_init_X7_init
theorem dX10_init_0 : decode cX10_init 0 = .ok (.aload_n 0, 1) := by decide +kernel
theorem dX10_init_1 : decode cX10_init 1 = .ok (.invokespecial 1, 3) := by decide +kernel
theorem dX10_init_4 : decode cX10_init 4 = .ok (.aload_n 0, 1) := by decide +kernel
theorem dX10_init_5 : decode cX10_init 5 = .ok (.new 7, 3) := by decide +kernel
theorem dX10_init_8 : decode cX10_init 8 = .ok (.dup, 1) := by decide +kernel
theorem dX10_init_9 : decode cX10_init 9 = .ok (.invokespecial 9, 3) := by decide +kernel
theorem dX10_init_12 : decode cX10_init 12 = .ok (.putfield 10, 3) := by decide +kernel
theorem dX10_init_15 : decode cX10_init 15 = .ok (.aload_n 0, 1) := by decide +kernel
theorem dX10_init_16 : decode cX10_init 16 = .ok (.new 16, 3) := by decide +kernel
theorem dX10_init_19 : decode cX10_init 19 = .ok (.dup, 1) := by decide +kernel
theorem dX10_init_20 : decode cX10_init 20 = .ok (.invokespecial 18, 3) := by decide +kernel
theorem dX10_init_23 : decode cX10_init 23 = .ok (.putfield 19, 3) := by decide +kernel
theorem dX10_init_26 : decode cX10_init 26 = .ok (.aload_n 0, 1) := by decide +kernel
theorem dX10_init_27 : decode cX10_init 27 = .ok (.new 23, 3) := by decide +kernel
theorem dX10_init_30 : decode cX10_init 30 = .ok (.dup, 1) := by decide +kernel
theorem dX10_init_31 : decode cX10_init 31 = .ok (.invokespecial 25, 3) := by decide +kernel
theorem dX10_init_34 : decode cX10_init 34 = .ok (.putfield 26, 3) := by decide +kernel
theorem dX10_init_37 : decode cX10_init 37 = .ok (.aload_n 0, 1) := by decide +kernel
theorem dX10_init_38 : decode cX10_init 38 = .ok (.new 30, 3) := by decide +kernel
theorem dX10_init_41 : decode cX10_init 41 = .ok (.dup, 1) := by decide +kernel
theorem dX10_init_42 : decode cX10_init 42 = .ok (.invokespecial 32, 3) := by decide +kernel
theorem dX10_init_45 : decode cX10_init 45 = .ok (.putfield 33, 3) := by decide +kernel
theorem dX10_init_48 : decode cX10_init 48 = .ok (.aload_n 0, 1) := by decide +kernel
theorem dX10_init_49 : decode cX10_init 49 = .ok (.iconst 2, 1) := by decide +kernel
theorem dX10_init_50 : decode cX10_init 50 = .ok (.anewarray 37, 3) := by decide +kernel
theorem dX10_init_53 : decode cX10_init 53 = .ok (.dup, 1) := by decide +kernel
theorem dX10_init_54 : decode cX10_init 54 = .ok (.iconst 0, 1) := by decide +kernel
theorem dX10_init_55 : decode cX10_init 55 = .ok (.new 37, 3) := by decide +kernel
theorem dX10_init_58 : decode cX10_init 58 = .ok (.dup, 1) := by decide +kernel
theorem dX10_init_59 : decode cX10_init 59 = .ok (.invokespecial 39, 3) := by decide +kernel
theorem dX10_init_62 : decode cX10_init 62 = .ok (.aastore, 1) := by decide +kernel
theorem dX10_init_63 : decode cX10_init 63 = .ok (.dup, 1) := by decide +kernel
theorem dX10_init_64 : decode cX10_init 64 = .ok (.iconst 1, 1) := by decide +kernel
theorem dX10_init_65 : decode cX10_init 65 = .ok (.new 37, 3) := by decide +kernel
theorem dX10_init_68 : decode cX10_init 68 = .ok (.dup, 1) := by decide +kernel
theorem dX10_init_69 : decode cX10_init 69 = .ok (.invokespecial 39, 3) := by decide +kernel
theorem dX10_init_72 : decode cX10_init 72 = .ok (.aastore, 1) := by decide +kernel
theorem dX10_init_73 : decode cX10_init 73 = .ok (.putfield 40, 3) := by decide +kernel
theorem dX10_init_76 : decode cX10_init 76 = .ok (.aload_n 0, 1) := by decide +kernel
theorem dX10_init_77 : decode cX10_init 77 = .ok (.new 44, 3) := by decide +kernel
theorem dX10_init_80 : decode cX10_init 80 = .ok (.dup, 1) := by decide +kernel
theorem dX10_init_81 : decode cX10_init 81 = .ok (.invokespecial 46, 3) := by decide +kernel
theorem dX10_init_84 : decode cX10_init 84 = .ok (.putfield 47, 3) := by decide +kernel
theorem dX10_init_87 : decode cX10_init 87 = .ok (.aload_n 0, 1) := by decide +kernel
theorem dX10_init_88 : decode cX10_init 88 = .ok (.new 51, 3) := by decide +kernel
theorem dX10_init_91 : decode cX10_init 91 = .ok (.dup, 1) := by decide +kernel
theorem dX10_init_92 : decode cX10_init 92 = .ok (.invokespecial 53, 3) := by decide +kernel
theorem dX10_init_95 : decode cX10_init 95 = .ok (.putfield 54, 3) := by decide +kernel
theorem dX10_init_98 : decode cX10_init 98 = .ok (.aload_n 0, 1) := by decide +kernel
theorem dX10_init_99 : decode cX10_init 99 = .ok (.new 58, 3) := by decide +kernel
theorem dX10_init_102 : decode cX10_init 102 = .ok (.dup, 1) := by decide +kernel
theorem dX10_init_103 : decode cX10_init 103 = .ok (.invokespecial 60, 3) := by decide +kernel
theorem dX10_init_106 : decode cX10_init 106 = .ok (.putfield 61, 3) := by decide +kernel
theorem dX10_init_109 : decode cX10_init 109 = .ok (.aload_n 0, 1) := by decide +kernel
theorem dX10_init_110 : decode cX10_init 110 = .ok (.new 65, 3) := by decide +kernel
theorem dX10_init_113 : decode cX10_init 113 = .ok (.dup, 1) := by decide +kernel
theorem dX10_init_114 : decode cX10_init 114 = .ok (.invokespecial 67, 3) := by decide +kernel
theorem dX10_init_117 : decode cX10_init 117 = .ok (.putfield 68, 3) := by decide +kernel
theorem dX10_init_120 : decode cX10_init 120 = .ok (.aload_n 0, 1) := by decide +kernel
theorem dX10_init_121 : decode cX10_init 121 = .ok (.new 72, 3) := by decide +kernel
theorem dX10_init_124 : decode cX10_init 124 = .ok (.dup, 1) := by decide +kernel
theorem dX10_init_125 : decode cX10_init 125 = .ok (.invokespecial 74, 3) := by decide +kernel
theorem dX10_init_128 : decode cX10_init 128 = .ok (.putfield 75, 3) := by decide +kernel
theorem dX10_init_131 : decode cX10_init 131 = .ok (.aload_n 0, 1) := by decide +kernel
theorem dX10_init_132 : decode cX10_init 132 = .ok (.bipush 9, 2) := by decide +kernel
theorem dX10_init_134 : decode cX10_init 134 = .ok (.newarray .int, 2) := by decide +kernel
theorem dX10_init_136 : decode cX10_init 136 = .ok (.putfield 79, 3) := by decide +kernel
theorem dX10_init_139 : decode cX10_init 139 = .ok (.return_, 1) := by decide +kernel
set_option maxRecDepth 20000 in
theorem ggX10_feed_X6_add : GoodIn wsX10_feed wsX6_add := goodIn_r _ [9, 10, 11, 24, 25, 26, 27, 28, 29, 30, 31] rfl (by decide +kernel)
set_option maxRecDepth 20000 in
theorem gX10_feed_X6_add : GoodIn wsX10_feed (wsV RX10 84 RX6 yX6_add wsX6_add) := goodIn_app (goodIn_of _ (by decide +kernel)) ggX10_feed_X6_add
theorem dX10_feed_0 : decode cX10_feed 0 = .ok (.iload_n 1, 1) := by decide +kernel
theorem dX10_feed_1 : decode cX10_feed 1 = .ok (.ifCond .lt 10, 3) := by decide +kernel
theorem dX10_feed_4 : decode cX10_feed 4 = .ok (.iload_n 1, 1) := by decide +kernel
theorem dX10_feed_5 : decode cX10_feed 5 = .ok (.sipush 255, 3) := by decide +kernel
theorem dX10_feed_8 : decode cX10_feed 8 = .ok (.if_icmp .le 6, 3) := by decide +kernel
theorem dX10_feed_11 : decode cX10_feed 11 = .ok (.ldc 83, 2) := by decide +kernel
theorem dX10_feed_13 : decode cX10_feed 13 = .ok (.ireturn, 1) := by decide +kernel
theorem dX10_feed_14 : decode cX10_feed 14 = .ok (.aload_n 0, 1) := by decide +kernel
theorem dX10_feed_15 : decode cX10_feed 15 = .ok (.getfield 10, 3) := by decide +kernel
