set_option maxRecDepth 20000 in
theorem gX4_plan_X2_holding : GoodIn wsX4_plan (wsV RX4 24 RX2 yX2_holding wsX2_holding) := goodIn_app (goodIn_of _ (by decide +kernel)) ggX4_plan_X2_holding
set_option maxRecDepth 20000 in
theorem ggX4_plan_J6_bitCount_0f7a4 : GoodIn wsX4_plan wsJ6_bitCount_0f7a4 := goodIn_r _ [41, 42, 43, 44] rfl (by decide +kernel)
set_option maxRecDepth 20000 in
theorem gX4_plan_J6_bitCount_0f7a4 : GoodIn wsX4_plan (va_wsS RX4 37 yJ6_bitCount_0f7a4 wsJ6_bitCount_0f7a4) := goodIn_app (goodIn_of _ (by decide +kernel)) ggX4_plan_J6_bitCount_0f7a4
set_option maxRecDepth 20000 in
theorem ggX4_plan_X4_place : GoodIn wsX4_plan wsX4_place := goodIn_r _ [49, 7, 1, 50, 6, 9, 10, 11, 12, 13, 14, 15, 16, 17, 18, 19, 20, 21, 22, 23, 24, 25, 26, 27, 28, 29, 30, 31, 32, 33, 34, 35, 36, 37, 45, 46, 47, 48, 55, 56, 57, 58, 59, 60, 61, 62, 63, 64, 65, 66, 67, 51, 52, 53, 54] rfl (by decide +kernel)
set_option maxRecDepth 20000 in
theorem gX4_plan_X4_place : GoodIn wsX4_plan (wsV RX4 46 RX4 yX4_place wsX4_place) := goodIn_app (goodIn_of _ (by decide +kernel)) ggX4_plan_X4_place
theorem dX4_plan_0 : decode cX4_plan 0 = .ok (.aload_n 2, 1) := by decide +kernel
theorem dX4_plan_1 : decode cX4_plan 1 = .ok (.iconst 0, 1) := by decide +kernel
theorem dX4_plan_2 : decode cX4_plan 2 = .ok (.aload_n 0, 1) := by decide +kernel
theorem dX4_plan_3 : decode cX4_plan 3 = .ok (.getfield 15, 3) := by decide +kernel
theorem dX4_plan_6 : decode cX4_plan 6 = .ok (.iconst 0, 1) := by decide +kernel
theorem dX4_plan_7 : decode cX4_plan 7 = .ok (.bipush 9, 2) := by decide +kernel
theorem dX4_plan_9 : decode cX4_plan 9 = .ok (.invokestatic 18, 3) := by decide +kernel
theorem dX4_plan_12 : decode cX4_plan 12 = .ok (.aload_n 0, 1) := by decide +kernel
theorem dX4_plan_13 : decode cX4_plan 13 = .ok (.aload_n 1, 1) := by decide +kernel
theorem dX4_plan_14 : decode cX4_plan 14 = .ok (.aload_n 2, 1) := by decide +kernel
theorem dX4_plan_15 : decode cX4_plan 15 = .ok (.invokevirtual 24, 3) := by decide +kernel
theorem dX4_plan_18 : decode cX4_plan 18 = .ok (.putfield 30, 3) := by decide +kernel
theorem dX4_plan_21 : decode cX4_plan 21 = .ok (.iconst 0, 1) := by decide +kernel
theorem dX4_plan_22 : decode cX4_plan 22 = .ok (.istore 4, 2) := by decide +kernel
theorem dX4_plan_24 : decode cX4_plan 24 = .ok (.iconst 0, 1) := by decide +kernel
theorem dX4_plan_25 : decode cX4_plan 25 = .ok (.istore 5, 2) := by decide +kernel
theorem dX4_plan_27 : decode cX4_plan 27 = .ok (.iload 5, 2) := by decide +kernel
theorem dX4_plan_29 : decode cX4_plan 29 = .ok (.aload_n 1, 1) := by decide +kernel
theorem dX4_plan_30 : decode cX4_plan 30 = .ok (.getfield 34, 3) := by decide +kernel
theorem dX4_plan_33 : decode cX4_plan 33 = .ok (.if_icmp .ge 36, 3) := by decide +kernel
theorem dX4_plan_36 : decode cX4_plan 36 = .ok (.aload_n 3, 1) := by decide +kernel
theorem dX4_plan_37 : decode cX4_plan 37 = .ok (.iload 5, 2) := by decide +kernel
theorem dX4_plan_39 : decode cX4_plan 39 = .ok (.iaload, 1) := by decide +kernel
theorem dX4_plan_40 : decode cX4_plan 40 = .ok (.ifCond .eq 23, 3) := by decide +kernel
theorem dX4_plan_43 : decode cX4_plan 43 = .ok (.aload_n 3, 1) := by decide +kernel
theorem dX4_plan_44 : decode cX4_plan 44 = .ok (.iload 5, 2) := by decide +kernel
theorem dX4_plan_46 : decode cX4_plan 46 = .ok (.iaload, 1) := by decide +kernel
theorem dX4_plan_47 : decode cX4_plan 47 = .ok (.aload_n 2, 1) := by decide +kernel
theorem dX4_plan_48 : decode cX4_plan 48 = .ok (.iload 5, 2) := by decide +kernel
theorem dX4_plan_50 : decode cX4_plan 50 = .ok (.iaload, 1) := by decide +kernel
theorem dX4_plan_51 : decode cX4_plan 51 = .ok (.if_icmp .eq 12, 3) := by decide +kernel
theorem dX4_plan_54 : decode cX4_plan 54 = .ok (.iload 4, 2) := by decide +kernel
theorem dX4_plan_56 : decode cX4_plan 56 = .ok (.iconst 1, 1) := by decide +kernel
theorem dX4_plan_57 : decode cX4_plan 57 = .ok (.iload 5, 2) := by decide +kernel
theorem dX4_plan_59 : decode cX4_plan 59 = .ok (.ishl, 1) := by decide +kernel
theorem dX4_plan_60 : decode cX4_plan 60 = .ok (.ior, 1) := by decide +kernel
theorem dX4_plan_61 : decode cX4_plan 61 = .ok (.istore 4, 2) := by decide +kernel
theorem dX4_plan_63 : decode cX4_plan 63 = .ok (.iinc 5 1, 3) := by decide +kernel
theorem dX4_plan_66 : decode cX4_plan 66 = .ok (.goto (-39), 3) := by decide +kernel
theorem dX4_plan_69 : decode cX4_plan 69 = .ok (.aload_n 0, 1) := by decide +kernel
theorem dX4_plan_70 : decode cX4_plan 70 = .ok (.iload 4, 2) := by decide +kernel
theorem dX4_plan_72 : decode cX4_plan 72 = .ok (.invokestatic 37, 3) := by decide +kernel
theorem dX4_plan_75 : decode cX4_plan 75 = .ok (.putfield 43, 3) := by decide +kernel
theorem dX4_plan_78 : decode cX4_plan 78 = .ok (.aload_n 0, 1) := by decide +kernel
theorem dX4_plan_79 : decode cX4_plan 79 = .ok (.aload_n 1, 1) := by decide +kernel
theorem dX4_plan_80 : decode cX4_plan 80 = .ok (.aload_n 3, 1) := by decide +kernel
theorem dX4_plan_81 : decode cX4_plan 81 = .ok (.iload 4, 2) := by decide +kernel
theorem dX4_plan_83 : decode cX4_plan 83 = .ok (.iconst 0, 1) := by decide +kernel
theorem dX4_plan_84 : decode cX4_plan 84 = .ok (.invokevirtual 46, 3) := by decide +kernel
theorem dX4_plan_87 : decode cX4_plan 87 = .ok (.ireturn, 1) := by decide +kernel
set_option maxRecDepth 20000 in
theorem ggX4_place_X2_holding : GoodIn wsX4_place wsX2_holding := goodIn_r _ [9, 10, 11, 12, 13, 8, 14, 15, 16, 17, 18, 19, 20, 21, 22, 23, 24, 25, 26, 27, 28, 29, 30, 31, 32, 33, 38, 39, 40, 41, 42, 43, 44, 45, 46, 47, 48, 49, 50] rfl (by decide +kernel)
set_option maxRecDepth 20000 in
theorem gX4_place_X2_holding : GoodIn wsX4_place (wsV RX4 24 RX2 yX2_holding wsX2_holding) := goodIn_app (goodIn_of _ (by decide +kernel)) ggX4_place_X2_holding
set_option maxRecDepth 20000 in
theorem ggX4_place_X4_place : GoodIn wsX4_place wsX4_place := goodIn_r _ [0, 1, 2, 3, 4, 5, 6, 7, 8, 9, 10, 11, 12, 13, 14, 15, 16, 17, 18, 19, 20, 21, 22, 23, 24, 25, 26, 27, 28, 29, 30, 31, 32, 33, 34, 35, 36, 37, 38, 39, 40, 41, 42, 43, 44, 45, 46, 47, 48, 49, 50, 51, 52, 53, 54] rfl (by decide +kernel)
set_option maxRecDepth 20000 in
theorem gX4_place_X4_place : GoodIn wsX4_place (wsV RX4 46 RX4 yX4_place wsX4_place) := goodIn_app (goodIn_of _ (by decide +kernel)) ggX4_place_X4_place
theorem dX4_place_0 : decode cX4_place 0 = .ok (.iload_n 3, 1) := by decide +kernel
theorem dX4_place_1 : decode cX4_place 1 = .ok (.ifCond .eq 9, 3) := by decide +kernel
theorem dX4_place_4 : decode cX4_place 4 = .ok (.iload 4, 2) := by decide +kernel
theorem dX4_place_6 : decode cX4_place 6 = .ok (.iconst 5, 1) := by decide +kernel
theorem dX4_place_7 : decode cX4_place 7 = .ok (.if_icmp .lt 13, 3) := by decide +kernel
theorem dX4_place_10 : decode cX4_place 10 = .ok (.iload_n 3, 1) := by decide +kernel
theorem dX4_place_11 : decode cX4_place 11 = .ok (.ifCond .ne 7, 3) := by decide +kernel
theorem dX4_place_14 : decode cX4_place 14 = .ok (.iconst 1, 1) := by decide +kernel
theorem dX4_place_15 : decode cX4_place 15 = .ok (.goto 4, 3) := by decide +kernel
theorem dX4_place_18 : decode cX4_place 18 = .ok (.iconst 0, 1) := by decide +kernel
theorem dX4_place_19 : decode cX4_place 19 = .ok (.ireturn, 1) := by decide +kernel
theorem dX4_place_20 : decode cX4_place 20 = .ok (.iconst 0, 1) := by decide +kernel
theorem dX4_place_21 : decode cX4_place 21 = .ok (.istore 5, 2) := by decide +kernel
theorem dX4_place_23 : decode cX4_place 23 = .ok (.iload 5, 2) := by decide +kernel
theorem dX4_place_25 : decode cX4_place 25 = .ok (.aload_n 1, 1) := by decide +kernel
theorem dX4_place_26 : decode cX4_place 26 = .ok (.getfield 34, 3) := by decide +kernel
theorem dX4_place_29 : decode cX4_place 29 = .ok (.if_icmp .ge 100, 3) := by decide +kernel
theorem dX4_place_32 : decode cX4_place 32 = .ok (.iload_n 3, 1) := by decide +kernel
theorem dX4_place_33 : decode cX4_place 33 = .ok (.iload 5, 2) := by decide +kernel
theorem dX4_place_35 : decode cX4_place 35 = .ok (.ishr, 1) := by decide +kernel
theorem dX4_place_36 : decode cX4_place 36 = .ok (.iconst 1, 1) := by decide +kernel
theorem dX4_place_37 : decode cX4_place 37 = .ok (.iand, 1) := by decide +kernel
theorem dX4_place_38 : decode cX4_place 38 = .ok (.ifCond .ne 6, 3) := by decide +kernel
theorem dX4_place_41 : decode cX4_place 41 = .ok (.goto 82, 3) := by decide +kernel
theorem dX4_place_44 : decode cX4_place 44 = .ok (.aload_n 0, 1) := by decide +kernel
theorem dX4_place_45 : decode cX4_place 45 = .ok (.getfield 15, 3) := by decide +kernel
theorem dX4_place_48 : decode cX4_place 48 = .ok (.iload 5, 2) := by decide +kernel
theorem dX4_place_50 : decode cX4_place 50 = .ok (.iaload, 1) := by decide +kernel
theorem dX4_place_51 : decode cX4_place 51 = .ok (.istore 6, 2) := by decide +kernel
theorem dX4_place_53 : decode cX4_place 53 = .ok (.aload_n 0, 1) := by decide +kernel
theorem dX4_place_54 : decode cX4_place 54 = .ok (.getfield 15, 3) := by decide +kernel
theorem dX4_place_57 : decode cX4_place 57 = .ok (.iload 5, 2) := by decide +kernel
theorem dX4_place_59 : decode cX4_place 59 = .ok (.aload_n 2, 1) := by decide +kernel
theorem dX4_place_60 : decode cX4_place 60 = .ok (.iload 5, 2) := by decide +kernel
theorem dX4_place_62 : decode cX4_place 62 = .ok (.iaload, 1) := by decide +kernel
theorem dX4_place_63 : decode cX4_place 63 = .ok (.iastore, 1) := by decide +kernel
theorem dX4_place_64 : decode cX4_place 64 = .ok (.aload_n 0, 1) := by decide +kernel
theorem dX4_place_65 : decode cX4_place 65 = .ok (.getfield 9, 3) := by decide +kernel
theorem dX4_place_68 : decode cX4_place 68 = .ok (.iload 4, 2) := by decide +kernel
theorem dX4_place_70 : decode cX4_place 70 = .ok (.iload 5, 2) := by decide +kernel
theorem dX4_place_72 : decode cX4_place 72 = .ok (.iastore, 1) := by decide +kernel
theorem dX4_place_73 : decode cX4_place 73 = .ok (.aload_n 0, 1) := by decide +kernel
theorem dX4_place_74 : decode cX4_place 74 = .ok (.getfield 30, 3) := by decide +kernel
theorem dX4_place_77 : decode cX4_place 77 = .ok (.aload_n 1, 1) := by decide +kernel
theorem dX4_place_78 : decode cX4_place 78 = .ok (.aload_n 0, 1) := by decide +kernel
theorem dX4_place_79 : decode cX4_place 79 = .ok (.getfield 15, 3) := by decide +kernel
theorem dX4_place_82 : decode cX4_place 82 = .ok (.invokevirtual 24, 3) := by decide +kernel
theorem dX4_place_85 : decode cX4_place 85 = .ok (.iconst (-1), 1) := by decide +kernel
theorem dX4_place_86 : decode cX4_place 86 = .ok (.ixor, 1) := by decide +kernel
theorem dX4_place_87 : decode cX4_place 87 = .ok (.iand, 1) := by decide +kernel
theorem dX4_place_88 : decode cX4_place 88 = .ok (.ifCond .ne 26, 3) := by decide +kernel
theorem dX4_place_91 : decode cX4_place 91 = .ok (.aload_n 0, 1) := by decide +kernel
theorem dX4_place_92 : decode cX4_place 92 = .ok (.aload_n 1, 1) := by decide +kernel
theorem dX4_place_93 : decode cX4_place 93 = .ok (.aload_n 2, 1) := by decide +kernel
theorem dX4_place_94 : decode cX4_place 94 = .ok (.iload_n 3, 1) := by decide +kernel
theorem dX4_place_95 : decode cX4_place 95 = .ok (.iconst 1, 1) := by decide +kernel
theorem dX4_place_96 : decode cX4_place 96 = .ok (.iload 5, 2) := by decide +kernel
theorem dX4_place_98 : decode cX4_place 98 = .ok (.ishl, 1) := by decide +kernel
theorem dX4_place_99 : decode cX4_place 99 = .ok (.iconst (-1), 1) := by decide +kernel
theorem dX4_place_100 : decode cX4_place 100 = .ok (.ixor, 1) := by decide +kernel
theorem dX4_place_101 : decode cX4_place 101 = .ok (.iand, 1) := by decide +kernel
theorem dX4_place_102 : decode cX4_place 102 = .ok (.iload 4, 2) := by decide +kernel
theorem dX4_place_104 : decode cX4_place 104 = .ok (.iconst 1, 1) := by decide +kernel
theorem dX4_place_105 : decode cX4_place 105 = .ok (.iadd, 1) := by decide +kernel
theorem dX4_place_106 : decode cX4_place 106 = .ok (.invokevirtual 46, 3) := by decide +kernel
theorem dX4_place_109 : decode cX4_place 109 = .ok (.ifCond .eq 5, 3) := by decide +kernel
theorem dX4_place_112 : decode cX4_place 112 = .ok (.iconst 1, 1) := by decide +kernel
theorem dX4_place_113 : decode cX4_place 113 = .ok (.ireturn, 1) := by decide +kernel
theorem dX4_place_114 : decode cX4_place 114 = .ok (.aload_n 0, 1) := by decide +kernel
theorem dX4_place_115 : decode cX4_place 115 = .ok (.getfield 15, 3) := by decide +kernel
theorem dX4_place_118 : decode cX4_place 118 = .ok (.iload 5, 2) := by decide +kernel
theorem dX4_place_120 : decode cX4_place 120 = .ok (.iload 6, 2) := by decide +kernel
theorem dX4_place_122 : decode cX4_place 122 = .ok (.iastore, 1) := by decide +kernel
theorem dX4_place_123 : decode cX4_place 123 = .ok (.iinc 5 1, 3) := by decide +kernel
theorem dX4_place_126 : decode cX4_place 126 = .ok (.goto (-103), 3) := by decide +kernel
theorem dX4_place_129 : decode cX4_place 129 = .ok (.iconst 0, 1) := by decide +kernel
theorem dX4_place_130 : decode cX4_place 130 = .ok (.ireturn, 1) := by decide +kernel
theorem dX5_init_0 : decode cX5_init 0 = .ok (.aload_n 0, 1) := by decide +kernel
theorem dX5_init_1 : decode cX5_init 1 = .ok (.invokespecial 3, 3) := by decide +kernel
theorem dX5_init_4 : decode cX5_init 4 = .ok (.aload_n 0, 1) := by decide +kernel
theorem dX5_init_5 : decode cX5_init 5 = .ok (.bipush 9, 2) := by decide +kernel
theorem dX5_init_7 : decode cX5_init 7 = .ok (.newarray .int, 2) := by decide +kernel
theorem dX5_init_9 : decode cX5_init 9 = .ok (.putfield 9, 3) := by decide +kernel
theorem dX5_init_12 : decode cX5_init 12 = .ok (.aload_n 0, 1) := by decide +kernel
theorem dX5_init_13 : decode cX5_init 13 = .ok (.bipush 8, 2) := by decide +kernel
theorem dX5_init_15 : decode cX5_init 15 = .ok (.newarray .int, 2) := by decide +kernel
theorem dX5_init_17 : decode cX5_init 17 = .ok (.putfield 15, 3) := by decide +kernel
theorem dX5_init_20 : decode cX5_init 20 = .ok (.aload_n 0, 1) := by decide +kernel
theorem dX5_init_21 : decode cX5_init 21 = .ok (.bipush 8, 2) := by decide +kernel
theorem dX5_init_23 : decode cX5_init 23 = .ok (.newarray .int, 2) := by decide +kernel
theorem dX5_init_25 : decode cX5_init 25 = .ok (.putfield 18, 3) := by decide +kernel
theorem dX5_init_28 : decode cX5_init 28 = .ok (.aload_n 0, 1) := by decide +kernel
theorem dX5_init_29 : decode cX5_init 29 = .ok (.bipush 8, 2) := by decide +kernel
theorem dX5_init_31 : decode cX5_init 31 = .ok (.newarray .int, 2) := by decide +kernel
theorem dX5_init_33 : decode cX5_init 33 = .ok (.putfield 21, 3) := by decide +kernel
theorem dX5_init_36 : decode cX5_init 36 = .ok (.aload_n 0, 1) := by decide +kernel
theorem dX5_init_37 : decode cX5_init 37 = .ok (.bipush 15, 2) := by decide +kernel
theorem dX5_init_39 : decode cX5_init 39 = .ok (.newarray .int, 2) := by decide +kernel
theorem dX5_init_41 : decode cX5_init 41 = .ok (.putfield 24, 3) := by decide +kernel
theorem dX5_init_44 : decode cX5_init 44 = .ok (.aload_n 0, 1) := by decide +kernel
theorem dX5_init_45 : decode cX5_init 45 = .ok (.bipush 15, 2) := by decide +kernel
theorem dX5_init_47 : decode cX5_init 47 = .ok (.newarray .int, 2) := by decide +kernel
theorem dX5_init_49 : decode cX5_init 49 = .ok (.putfield 27, 3) := by decide +kernel
theorem dX5_init_52 : decode cX5_init 52 = .ok (.return_, 1) := by decide +kernel
set_option maxRecDepth 20000 in
theorem ggX5_clear_J7_fill_53178 : GoodIn wsX5_clear wsJ7_fill_53178 := goodIn_r _ [7] rfl (by decide +kernel)
set_option maxRecDepth 20000 in
theorem gX5_clear_J7_fill_53178 : GoodIn wsX5_clear (va_wsS RX5 30 yJ7_fill_53178 wsJ7_fill_53178) := goodIn_app (goodIn_of _ (by decide +kernel)) ggX5_clear_J7_fill_53178
theorem dX5_clear_0 : decode cX5_clear 0 = .ok (.aload_n 0, 1) := by decide +kernel
theorem dX5_clear_1 : decode cX5_clear 1 = .ok (.getfield 9, 3) := by decide +kernel
theorem dX5_clear_4 : decode cX5_clear 4 = .ok (.iconst 0, 1) := by decide +kernel
theorem dX5_clear_5 : decode cX5_clear 5 = .ok (.invokestatic 30, 3) := by decide +kernel
theorem dX5_clear_8 : decode cX5_clear 8 = .ok (.aload_n 0, 1) := by decide +kernel
theorem dX5_clear_9 : decode cX5_clear 9 = .ok (.iconst 0, 1) := by decide +kernel
theorem dX5_clear_10 : decode cX5_clear 10 = .ok (.putfield 36, 3) := by decide +kernel
theorem dX5_clear_13 : decode cX5_clear 13 = .ok (.aload_n 0, 1) := by decide +kernel
theorem dX5_clear_14 : decode cX5_clear 14 = .ok (.iconst 0, 1) := by decide +kernel
theorem dX5_clear_15 : decode cX5_clear 15 = .ok (.putfield 40, 3) := by decide +kernel
theorem dX5_clear_18 : decode cX5_clear 18 = .ok (.return_, 1) := by decide +kernel
theorem dX5_wantedSet_0 : decode cX5_wantedSet 0 = .ok (.iconst 0, 1) := by decide +kernel
theorem dX5_wantedSet_1 : decode cX5_wantedSet 1 = .ok (.istore_n 1, 1) := by decide +kernel
theorem dX5_wantedSet_2 : decode cX5_wantedSet 2 = .ok (.iconst 0, 1) := by decide +kernel
theorem dX5_wantedSet_3 : decode cX5_wantedSet 3 = .ok (.istore_n 2, 1) := by decide +kernel
theorem dX5_wantedSet_4 : decode cX5_wantedSet 4 = .ok (.iload_n 2, 1) := by decide +kernel
theorem dX5_wantedSet_5 : decode cX5_wantedSet 5 = .ok (.bipush 9, 2) := by decide +kernel
theorem dX5_wantedSet_7 : decode cX5_wantedSet 7 = .ok (.if_icmp .ge 24, 3) := by decide +kernel
theorem dX5_wantedSet_10 : decode cX5_wantedSet 10 = .ok (.aload_n 0, 1) := by decide +kernel
theorem dX5_wantedSet_11 : decode cX5_wantedSet 11 = .ok (.getfield 9, 3) := by decide +kernel
theorem dX5_wantedSet_14 : decode cX5_wantedSet 14 = .ok (.iload_n 2, 1) := by decide +kernel
theorem dX5_wantedSet_15 : decode cX5_wantedSet 15 = .ok (.iaload, 1) := by decide +kernel
theorem dX5_wantedSet_16 : decode cX5_wantedSet 16 = .ok (.ifCond .eq 9, 3) := by decide +kernel
theorem dX5_wantedSet_19 : decode cX5_wantedSet 19 = .ok (.iload_n 1, 1) := by decide +kernel
theorem dX5_wantedSet_20 : decode cX5_wantedSet 20 = .ok (.iconst 1, 1) := by decide +kernel
theorem dX5_wantedSet_21 : decode cX5_wantedSet 21 = .ok (.iload_n 2, 1) := by decide +kernel
theorem dX5_wantedSet_22 : decode cX5_wantedSet 22 = .ok (.ishl, 1) := by decide +kernel
theorem dX5_wantedSet_23 : decode cX5_wantedSet 23 = .ok (.ior, 1) := by decide +kernel
theorem dX5_wantedSet_24 : decode cX5_wantedSet 24 = .ok (.istore_n 1, 1) := by decide +kernel
theorem dX5_wantedSet_25 : decode cX5_wantedSet 25 = .ok (.iinc 2 1, 3) := by decide +kernel
theorem dX5_wantedSet_28 : decode cX5_wantedSet 28 = .ok (.goto (-24), 3) := by decide +kernel
theorem dX5_wantedSet_31 : decode cX5_wantedSet 31 = .ok (.iload_n 1, 1) := by decide +kernel
theorem dX5_wantedSet_32 : decode cX5_wantedSet 32 = .ok (.ireturn, 1) := by decide +kernel
theorem dX5_addJourney_0 : decode cX5_addJourney 0 = .ok (.aload_n 0, 1) := by decide +kernel
theorem dX5_addJourney_1 : decode cX5_addJourney 1 = .ok (.getfield 36, 3) := by decide +kernel
theorem dX5_addJourney_4 : decode cX5_addJourney 4 = .ok (.bipush 8, 2) := by decide +kernel
theorem dX5_addJourney_6 : decode cX5_addJourney 6 = .ok (.if_icmp .lt 5, 3) := by decide +kernel
theorem dX5_addJourney_9 : decode cX5_addJourney 9 = .ok (.iconst 0, 1) := by decide +kernel
theorem dX5_addJourney_10 : decode cX5_addJourney 10 = .ok (.ireturn, 1) := by decide +kernel
theorem dX5_addJourney_11 : decode cX5_addJourney 11 = .ok (.aload_n 0, 1) := by decide +kernel
theorem dX5_addJourney_12 : decode cX5_addJourney 12 = .ok (.getfield 15, 3) := by decide +kernel
theorem dX5_addJourney_15 : decode cX5_addJourney 15 = .ok (.aload_n 0, 1) := by decide +kernel
theorem dX5_addJourney_16 : decode cX5_addJourney 16 = .ok (.getfield 36, 3) := by decide +kernel
theorem dX5_addJourney_19 : decode cX5_addJourney 19 = .ok (.iload_n 1, 1) := by decide +kernel
theorem dX5_addJourney_20 : decode cX5_addJourney 20 = .ok (.iastore, 1) := by decide +kernel
theorem dX5_addJourney_21 : decode cX5_addJourney 21 = .ok (.aload_n 0, 1) := by decide +kernel
theorem dX5_addJourney_22 : decode cX5_addJourney 22 = .ok (.getfield 18, 3) := by decide +kernel
theorem dX5_addJourney_25 : decode cX5_addJourney 25 = .ok (.aload_n 0, 1) := by decide +kernel
theorem dX5_addJourney_26 : decode cX5_addJourney 26 = .ok (.getfield 36, 3) := by decide +kernel
theorem dX5_addJourney_29 : decode cX5_addJourney 29 = .ok (.iload_n 2, 1) := by decide +kernel
theorem dX5_addJourney_30 : decode cX5_addJourney 30 = .ok (.iastore, 1) := by decide +kernel
theorem dX5_addJourney_31 : decode cX5_addJourney 31 = .ok (.aload_n 0, 1) := by decide +kernel
theorem dX5_addJourney_32 : decode cX5_addJourney 32 = .ok (.dup, 1) := by decide +kernel
theorem dX5_addJourney_33 : decode cX5_addJourney 33 = .ok (.getfield 36, 3) := by decide +kernel
theorem dX5_addJourney_36 : decode cX5_addJourney 36 = .ok (.iconst 1, 1) := by decide +kernel
theorem dX5_addJourney_37 : decode cX5_addJourney 37 = .ok (.iadd, 1) := by decide +kernel
theorem dX5_addJourney_38 : decode cX5_addJourney 38 = .ok (.putfield 36, 3) := by decide +kernel
theorem dX5_addJourney_41 : decode cX5_addJourney 41 = .ok (.iconst 1, 1) := by decide +kernel
theorem dX5_addJourney_42 : decode cX5_addJourney 42 = .ok (.ireturn, 1) := by decide +kernel
theorem dX5_addEntry_0 : decode cX5_addEntry 0 = .ok (.aload_n 0, 1) := by decide +kernel
theorem dX5_addEntry_1 : decode cX5_addEntry 1 = .ok (.getfield 40, 3) := by decide +kernel
theorem dX5_addEntry_4 : decode cX5_addEntry 4 = .ok (.bipush 15, 2) := by decide +kernel
theorem dX5_addEntry_6 : decode cX5_addEntry 6 = .ok (.if_icmp .lt 5, 3) := by decide +kernel
theorem dX5_addEntry_9 : decode cX5_addEntry 9 = .ok (.iconst 0, 1) := by decide +kernel
theorem dX5_addEntry_10 : decode cX5_addEntry 10 = .ok (.ireturn, 1) := by decide +kernel
theorem dX5_addEntry_11 : decode cX5_addEntry 11 = .ok (.aload_n 0, 1) := by decide +kernel
theorem dX5_addEntry_12 : decode cX5_addEntry 12 = .ok (.getfield 24, 3) := by decide +kernel
theorem dX5_addEntry_15 : decode cX5_addEntry 15 = .ok (.aload_n 0, 1) := by decide +kernel
theorem dX5_addEntry_16 : decode cX5_addEntry 16 = .ok (.getfield 40, 3) := by decide +kernel
theorem dX5_addEntry_19 : decode cX5_addEntry 19 = .ok (.iload_n 1, 1) := by decide +kernel
theorem dX5_addEntry_20 : decode cX5_addEntry 20 = .ok (.iastore, 1) := by decide +kernel
theorem dX5_addEntry_21 : decode cX5_addEntry 21 = .ok (.aload_n 0, 1) := by decide +kernel
theorem dX5_addEntry_22 : decode cX5_addEntry 22 = .ok (.getfield 27, 3) := by decide +kernel
theorem dX5_addEntry_25 : decode cX5_addEntry 25 = .ok (.aload_n 0, 1) := by decide +kernel
theorem dX5_addEntry_26 : decode cX5_addEntry 26 = .ok (.getfield 40, 3) := by decide +kernel
theorem dX5_addEntry_29 : decode cX5_addEntry 29 = .ok (.iload_n 2, 1) := by decide +kernel
theorem dX5_addEntry_30 : decode cX5_addEntry 30 = .ok (.iastore, 1) := by decide +kernel
theorem dX5_addEntry_31 : decode cX5_addEntry 31 = .ok (.aload_n 0, 1) := by decide +kernel
theorem dX5_addEntry_32 : decode cX5_addEntry 32 = .ok (.dup, 1) := by decide +kernel
theorem dX5_addEntry_33 : decode cX5_addEntry 33 = .ok (.getfield 40, 3) := by decide +kernel
theorem dX5_addEntry_36 : decode cX5_addEntry 36 = .ok (.iconst 1, 1) := by decide +kernel
theorem dX5_addEntry_37 : decode cX5_addEntry 37 = .ok (.iadd, 1) := by decide +kernel
theorem dX5_addEntry_38 : decode cX5_addEntry 38 = .ok (.putfield 40, 3) := by decide +kernel
theorem dX5_addEntry_41 : decode cX5_addEntry 41 = .ok (.iconst 1, 1) := by decide +kernel
theorem dX5_addEntry_42 : decode cX5_addEntry 42 = .ok (.ireturn, 1) := by decide +kernel
theorem dX5_firstWrong_0 : decode cX5_firstWrong 0 = .ok (.iconst 0, 1) := by decide +kernel
theorem dX5_firstWrong_1 : decode cX5_firstWrong 1 = .ok (.istore_n 2, 1) := by decide +kernel
theorem dX5_firstWrong_2 : decode cX5_firstWrong 2 = .ok (.iload_n 2, 1) := by decide +kernel
theorem dX5_firstWrong_3 : decode cX5_firstWrong 3 = .ok (.aload_n 0, 1) := by decide +kernel
theorem dX5_firstWrong_4 : decode cX5_firstWrong 4 = .ok (.getfield 40, 3) := by decide +kernel
theorem dX5_firstWrong_7 : decode cX5_firstWrong 7 = .ok (.if_icmp .ge 28, 3) := by decide +kernel
theorem dX5_firstWrong_10 : decode cX5_firstWrong 10 = .ok (.aload_n 1, 1) := by decide +kernel
theorem dX5_firstWrong_11 : decode cX5_firstWrong 11 = .ok (.aload_n 0, 1) := by decide +kernel
theorem dX5_firstWrong_12 : decode cX5_firstWrong 12 = .ok (.getfield 24, 3) := by decide +kernel
theorem dX5_firstWrong_15 : decode cX5_firstWrong 15 = .ok (.iload_n 2, 1) := by decide +kernel
theorem dX5_firstWrong_16 : decode cX5_firstWrong 16 = .ok (.iaload, 1) := by decide +kernel
theorem dX5_firstWrong_17 : decode cX5_firstWrong 17 = .ok (.iaload, 1) := by decide +kernel
theorem dX5_firstWrong_18 : decode cX5_firstWrong 18 = .ok (.aload_n 0, 1) := by decide +kernel
theorem dX5_firstWrong_19 : decode cX5_firstWrong 19 = .ok (.getfield 27, 3) := by decide +kernel
theorem dX5_firstWrong_22 : decode cX5_firstWrong 22 = .ok (.iload_n 2, 1) := by decide +kernel
theorem dX5_firstWrong_23 : decode cX5_firstWrong 23 = .ok (.iaload, 1) := by decide +kernel
theorem dX5_firstWrong_24 : decode cX5_firstWrong 24 = .ok (.if_icmp .eq 5, 3) := by decide +kernel
theorem dX5_firstWrong_27 : decode cX5_firstWrong 27 = .ok (.iload_n 2, 1) := by decide +kernel
theorem dX5_firstWrong_28 : decode cX5_firstWrong 28 = .ok (.ireturn, 1) := by decide +kernel
theorem dX5_firstWrong_29 : decode cX5_firstWrong 29 = .ok (.iinc 2 1, 3) := by decide +kernel
theorem dX5_firstWrong_32 : decode cX5_firstWrong 32 = .ok (.goto (-30), 3) := by decide +kernel
theorem dX5_firstWrong_35 : decode cX5_firstWrong 35 = .ok (.iconst (-1), 1) := by decide +kernel
theorem dX5_firstWrong_36 : decode cX5_firstWrong 36 = .ok (.ireturn, 1) := by decide +kernel
set_option maxRecDepth 20000 in
theorem ggX5_weigh_X2_sum : GoodIn wsX5_weigh wsX2_sum := goodIn_r _ [10, 11, 20, 21, 22, 23, 24, 25, 26, 27, 28, 29, 30, 31, 32] rfl (by decide +kernel)
set_option maxRecDepth 20000 in
theorem gX5_weigh_X2_sum : GoodIn wsX5_weigh (wsV RX5 46 RX2 yX2_sum wsX2_sum) := goodIn_app (goodIn_of _ (by decide +kernel)) ggX5_weigh_X2_sum
theorem dX5_weigh_0 : decode cX5_weigh 0 = .ok (.iconst 0, 1) := by decide +kernel
theorem dX5_weigh_1 : decode cX5_weigh 1 = .ok (.istore_n 2, 1) := by decide +kernel
theorem dX5_weigh_2 : decode cX5_weigh 2 = .ok (.iload_n 2, 1) := by decide +kernel
theorem dX5_weigh_3 : decode cX5_weigh 3 = .ok (.aload_n 0, 1) := by decide +kernel
theorem dX5_weigh_4 : decode cX5_weigh 4 = .ok (.getfield 36, 3) := by decide +kernel
theorem dX5_weigh_7 : decode cX5_weigh 7 = .ok (.if_icmp .ge 36, 3) := by decide +kernel
theorem dX5_weigh_10 : decode cX5_weigh 10 = .ok (.aload_n 0, 1) := by decide +kernel
theorem dX5_weigh_11 : decode cX5_weigh 11 = .ok (.getfield 21, 3) := by decide +kernel
theorem dX5_weigh_14 : decode cX5_weigh 14 = .ok (.iload_n 2, 1) := by decide +kernel
theorem dX5_weigh_15 : decode cX5_weigh 15 = .ok (.aload_n 0, 1) := by decide +kernel
theorem dX5_weigh_16 : decode cX5_weigh 16 = .ok (.getfield 18, 3) := by decide +kernel
theorem dX5_weigh_19 : decode cX5_weigh 19 = .ok (.iload_n 2, 1) := by decide +kernel
theorem dX5_weigh_20 : decode cX5_weigh 20 = .ok (.iaload, 1) := by decide +kernel
theorem dX5_weigh_21 : decode cX5_weigh 21 = .ok (.aload_n 1, 1) := by decide +kernel
theorem dX5_weigh_22 : decode cX5_weigh 22 = .ok (.aload_n 0, 1) := by decide +kernel
theorem dX5_weigh_23 : decode cX5_weigh 23 = .ok (.getfield 15, 3) := by decide +kernel
theorem dX5_weigh_26 : decode cX5_weigh 26 = .ok (.iload_n 2, 1) := by decide +kernel
theorem dX5_weigh_27 : decode cX5_weigh 27 = .ok (.iaload, 1) := by decide +kernel
theorem dX5_weigh_28 : decode cX5_weigh 28 = .ok (.aload_n 1, 1) := by decide +kernel
theorem dX5_weigh_29 : decode cX5_weigh 29 = .ok (.getfield 43, 3) := by decide +kernel
theorem dX5_weigh_32 : decode cX5_weigh 32 = .ok (.invokevirtual 46, 3) := by decide +kernel
theorem dX5_weigh_35 : decode cX5_weigh 35 = .ok (.isub, 1) := by decide +kernel
theorem dX5_weigh_36 : decode cX5_weigh 36 = .ok (.iastore, 1) := by decide +kernel
theorem dX5_weigh_37 : decode cX5_weigh 37 = .ok (.iinc 2 1, 3) := by decide +kernel
theorem dX5_weigh_40 : decode cX5_weigh 40 = .ok (.goto (-38), 3) := by decide +kernel
theorem dX5_weigh_43 : decode cX5_weigh 43 = .ok (.return_, 1) := by decide +kernel
theorem dX5_allAsTold_0 : decode cX5_allAsTold 0 = .ok (.iconst 0, 1) := by decide +kernel
theorem dX5_allAsTold_1 : decode cX5_allAsTold 1 = .ok (.istore_n 1, 1) := by decide +kernel
theorem dX5_allAsTold_2 : decode cX5_allAsTold 2 = .ok (.iload_n 1, 1) := by decide +kernel
theorem dX5_allAsTold_3 : decode cX5_allAsTold 3 = .ok (.aload_n 0, 1) := by decide +kernel
theorem dX5_allAsTold_4 : decode cX5_allAsTold 4 = .ok (.getfield 36, 3) := by decide +kernel
theorem dX5_allAsTold_7 : decode cX5_allAsTold 7 = .ok (.if_icmp .ge 20, 3) := by decide +kernel
theorem dX5_allAsTold_10 : decode cX5_allAsTold 10 = .ok (.aload_n 0, 1) := by decide +kernel
theorem dX5_allAsTold_11 : decode cX5_allAsTold 11 = .ok (.getfield 21, 3) := by decide +kernel
theorem dX5_allAsTold_14 : decode cX5_allAsTold 14 = .ok (.iload_n 1, 1) := by decide +kernel
theorem dX5_allAsTold_15 : decode cX5_allAsTold 15 = .ok (.iaload, 1) := by decide +kernel
theorem dX5_allAsTold_16 : decode cX5_allAsTold 16 = .ok (.ifCond .eq 5, 3) := by decide +kernel
theorem dX5_allAsTold_19 : decode cX5_allAsTold 19 = .ok (.iconst 0, 1) := by decide +kernel
theorem dX5_allAsTold_20 : decode cX5_allAsTold 20 = .ok (.ireturn, 1) := by decide +kernel
theorem dX5_allAsTold_21 : decode cX5_allAsTold 21 = .ok (.iinc 1 1, 3) := by decide +kernel
theorem dX5_allAsTold_24 : decode cX5_allAsTold 24 = .ok (.goto (-22), 3) := by decide +kernel
theorem dX5_allAsTold_27 : decode cX5_allAsTold 27 = .ok (.iconst 1, 1) := by decide +kernel
theorem dX5_allAsTold_28 : decode cX5_allAsTold 28 = .ok (.ireturn, 1) := by decide +kernel
theorem dX5_isFit_0 : decode cX5_isFit 0 = .ok (.iconst 0, 1) := by decide +kernel
theorem dX5_isFit_1 : decode cX5_isFit 1 = .ok (.istore_n 3, 1) := by decide +kernel
theorem dX5_isFit_2 : decode cX5_isFit 2 = .ok (.iload_n 3, 1) := by decide +kernel
theorem dX5_isFit_3 : decode cX5_isFit 3 = .ok (.aload_n 0, 1) := by decide +kernel
theorem dX5_isFit_4 : decode cX5_isFit 4 = .ok (.getfield 36, 3) := by decide +kernel
theorem dX5_isFit_7 : decode cX5_isFit 7 = .ok (.if_icmp .ge 38, 3) := by decide +kernel
theorem dX5_isFit_10 : decode cX5_isFit 10 = .ok (.aload_n 0, 1) := by decide +kernel
theorem dX5_isFit_11 : decode cX5_isFit 11 = .ok (.getfield 21, 3) := by decide +kernel
theorem dX5_isFit_14 : decode cX5_isFit 14 = .ok (.iload_n 3, 1) := by decide +kernel
theorem dX5_isFit_15 : decode cX5_isFit 15 = .ok (.iaload, 1) := by decide +kernel
theorem dX5_isFit_16 : decode cX5_isFit 16 = .ok (.aload_n 0, 1) := by decide +kernel
theorem dX5_isFit_17 : decode cX5_isFit 17 = .ok (.getfield 15, 3) := by decide +kernel
theorem dX5_isFit_20 : decode cX5_isFit 20 = .ok (.iload_n 3, 1) := by decide +kernel
theorem dX5_isFit_21 : decode cX5_isFit 21 = .ok (.iaload, 1) := by decide +kernel
theorem dX5_isFit_22 : decode cX5_isFit 22 = .ok (.iload_n 1, 1) := by decide +kernel
theorem dX5_isFit_23 : decode cX5_isFit 23 = .ok (.ishr, 1) := by decide +kernel
theorem dX5_isFit_24 : decode cX5_isFit 24 = .ok (.iconst 1, 1) := by decide +kernel
theorem dX5_isFit_25 : decode cX5_isFit 25 = .ok (.iand, 1) := by decide +kernel
theorem dX5_isFit_26 : decode cX5_isFit 26 = .ok (.ifCond .ne 7, 3) := by decide +kernel
theorem dX5_isFit_29 : decode cX5_isFit 29 = .ok (.iconst 0, 1) := by decide +kernel
theorem dX5_isFit_30 : decode cX5_isFit 30 = .ok (.goto 4, 3) := by decide +kernel
theorem dX5_isFit_33 : decode cX5_isFit 33 = .ok (.iload_n 2, 1) := by decide +kernel
theorem dX5_isFit_34 : decode cX5_isFit 34 = .ok (.if_icmp .eq 5, 3) := by decide +kernel
theorem dX5_isFit_37 : decode cX5_isFit 37 = .ok (.iconst 0, 1) := by decide +kernel
theorem dX5_isFit_38 : decode cX5_isFit 38 = .ok (.ireturn, 1) := by decide +kernel
theorem dX5_isFit_39 : decode cX5_isFit 39 = .ok (.iinc 3 1, 3) := by decide +kernel
theorem dX5_isFit_42 : decode cX5_isFit 42 = .ok (.goto (-40), 3) := by decide +kernel
theorem dX5_isFit_45 : decode cX5_isFit 45 = .ok (.iconst 1, 1) := by decide +kernel
theorem dX5_isFit_46 : decode cX5_isFit 46 = .ok (.ireturn, 1) := by decide +kernel
set_option maxRecDepth 20000 in
theorem ggX5_leastFit_X5_isFit : GoodIn wsX5_leastFit wsX5_isFit := goodIn_r _ [5, 6, 7, 8, 9, 10, 11, 12, 13, 14, 15, 16] rfl (by decide +kernel)
set_option maxRecDepth 20000 in
theorem gX5_leastFit_X5_isFit : GoodIn wsX5_leastFit (wsV RX5 50 RX5 yX5_isFit wsX5_isFit) := goodIn_app (goodIn_of _ (by decide +kernel)) ggX5_leastFit_X5_isFit
theorem dX5_leastFit_0 : decode cX5_leastFit 0 = .ok (.iconst 1, 1) := by decide +kernel
theorem dX5_leastFit_1 : decode cX5_leastFit 1 = .ok (.istore_n 3, 1) := by decide +kernel
theorem dX5_leastFit_2 : decode cX5_leastFit 2 = .ok (.iload_n 3, 1) := by decide +kernel
theorem dX5_leastFit_3 : decode cX5_leastFit 3 = .ok (.bipush 99, 2) := by decide +kernel
theorem dX5_leastFit_5 : decode cX5_leastFit 5 = .ok (.if_icmp .gt 22, 3) := by decide +kernel
theorem dX5_leastFit_8 : decode cX5_leastFit 8 = .ok (.aload_n 0, 1) := by decide +kernel
theorem dX5_leastFit_9 : decode cX5_leastFit 9 = .ok (.iload_n 1, 1) := by decide +kernel
theorem dX5_leastFit_10 : decode cX5_leastFit 10 = .ok (.iload_n 3, 1) := by decide +kernel
theorem dX5_leastFit_11 : decode cX5_leastFit 11 = .ok (.iload_n 2, 1) := by decide +kernel
theorem dX5_leastFit_12 : decode cX5_leastFit 12 = .ok (.isub, 1) := by decide +kernel
theorem dX5_leastFit_13 : decode cX5_leastFit 13 = .ok (.invokevirtual 50, 3) := by decide +kernel
theorem dX5_leastFit_16 : decode cX5_leastFit 16 = .ok (.ifCond .eq 5, 3) := by decide +kernel
theorem dX5_leastFit_19 : decode cX5_leastFit 19 = .ok (.iload_n 3, 1) := by decide +kernel
theorem dX5_leastFit_20 : decode cX5_leastFit 20 = .ok (.ireturn, 1) := by decide +kernel
theorem dX5_leastFit_21 : decode cX5_leastFit 21 = .ok (.iinc 3 1, 3) := by decide +kernel
theorem dX5_leastFit_24 : decode cX5_leastFit 24 = .ok (.goto (-22), 3) := by decide +kernel
theorem dX5_leastFit_27 : decode cX5_leastFit 27 = .ok (.iconst (-1), 1) := by decide +kernel
theorem dX5_leastFit_28 : decode cX5_leastFit 28 = .ok (.ireturn, 1) := by decide +kernel
set_option maxRecDepth 20000 in
theorem ggX5_countFits_X5_isFit : GoodIn wsX5_countFits wsX5_isFit := goodIn_r _ [5, 6, 7, 8, 9, 10, 11, 12, 13, 14, 15, 16] rfl (by decide +kernel)
set_option maxRecDepth 20000 in
theorem gX5_countFits_X5_isFit : GoodIn wsX5_countFits (wsV RX5 50 RX5 yX5_isFit wsX5_isFit) := goodIn_app (goodIn_of _ (by decide +kernel)) ggX5_countFits_X5_isFit
theorem dX5_countFits_0 : decode cX5_countFits 0 = .ok (.iconst 0, 1) := by decide +kernel
theorem dX5_countFits_1 : decode cX5_countFits 1 = .ok (.istore_n 3, 1) := by decide +kernel
theorem dX5_countFits_2 : decode cX5_countFits 2 = .ok (.iconst 1, 1) := by decide +kernel
theorem dX5_countFits_3 : decode cX5_countFits 3 = .ok (.istore 4, 2) := by decide +kernel
theorem dX5_countFits_5 : decode cX5_countFits 5 = .ok (.iload 4, 2) := by decide +kernel
theorem dX5_countFits_7 : decode cX5_countFits 7 = .ok (.bipush 99, 2) := by decide +kernel
theorem dX5_countFits_9 : decode cX5_countFits 9 = .ok (.if_icmp .gt 24, 3) := by decide +kernel
theorem dX5_countFits_12 : decode cX5_countFits 12 = .ok (.aload_n 0, 1) := by decide +kernel
theorem dX5_countFits_13 : decode cX5_countFits 13 = .ok (.iload_n 1, 1) := by decide +kernel
theorem dX5_countFits_14 : decode cX5_countFits 14 = .ok (.iload 4, 2) := by decide +kernel
theorem dX5_countFits_16 : decode cX5_countFits 16 = .ok (.iload_n 2, 1) := by decide +kernel
theorem dX5_countFits_17 : decode cX5_countFits 17 = .ok (.isub, 1) := by decide +kernel
theorem dX5_countFits_18 : decode cX5_countFits 18 = .ok (.invokevirtual 50, 3) := by decide +kernel
theorem dX5_countFits_21 : decode cX5_countFits 21 = .ok (.ifCond .eq 6, 3) := by decide +kernel
theorem dX5_countFits_24 : decode cX5_countFits 24 = .ok (.iinc 3 1, 3) := by decide +kernel
theorem dX5_countFits_27 : decode cX5_countFits 27 = .ok (.iinc 4 1, 3) := by decide +kernel
theorem dX5_countFits_30 : decode cX5_countFits 30 = .ok (.goto (-25), 3) := by decide +kernel
theorem dX5_countFits_33 : decode cX5_countFits 33 = .ok (.iload_n 3, 1) := by decide +kernel
theorem dX5_countFits_34 : decode cX5_countFits 34 = .ok (.ireturn, 1) := by decide +kernel
set_option maxRecDepth 20000 in
theorem ggX6_init_X2_init : GoodIn wsX6_init wsX2_init := goodIn_r _ [12, 13, 2, 3, 4, 14, 15, 16, 17, 18, 19, 20, 21, 30, 31, 32, 33, 34, 35, 36, 37, 38, 39, 40, 41, 42] rfl (by decide +kernel)
set_option maxRecDepth 20000 in
theorem gX6_init_X2_init_n17 : GoodIn wsX6_init (wsX2_init) := ggX6_init_X2_init
theorem dX6_init_0 : decode cX6_init 0 = .ok (.aload_n 0, 1) := by decide +kernel
theorem dX6_init_1 : decode cX6_init 1 = .ok (.invokespecial 3, 3) := by decide +kernel
theorem dX6_init_4 : decode cX6_init 4 = .ok (.aload_n 0, 1) := by decide +kernel
theorem dX6_init_5 : decode cX6_init 5 = .ok (.sipush 250, 3) := by decide +kernel
theorem dX6_init_8 : decode cX6_init 8 = .ok (.newarray .int, 2) := by decide +kernel
theorem dX6_init_10 : decode cX6_init 10 = .ok (.putfield 9, 3) := by decide +kernel
theorem dX6_init_13 : decode cX6_init 13 = .ok (.aload_n 0, 1) := by decide +kernel
theorem dX6_init_14 : decode cX6_init 14 = .ok (.new 15, 3) := by decide +kernel
theorem dX6_init_17 : decode cX6_init 17 = .ok (.dup, 1) := by decide +kernel
theorem dX6_init_18 : decode cX6_init 18 = .ok (.invokespecial 17, 3) := by decide +kernel
theorem dX6_init_21 : decode cX6_init 21 = .ok (.putfield 18, 3) := by decide +kernel
theorem dX6_init_24 : decode cX6_init 24 = .ok (.aload_n 0, 1) := by decide +kernel
theorem dX6_init_25 : decode cX6_init 25 = .ok (.iconst (-1), 1) := by decide +kernel
theorem dX6_init_26 : decode cX6_init 26 = .ok (.putfield 22, 3) := by decide +kernel
theorem dX6_init_29 : decode cX6_init 29 = .ok (.return_, 1) := by decide +kernel
theorem dX6_add_0 : decode cX6_add 0 = .ok (.aload_n 0, 1) := by decide +kernel
theorem dX6_add_1 : decode cX6_add 1 = .ok (.getfield 26, 3) := by decide +kernel
theorem dX6_add_4 : decode cX6_add 4 = .ok (.sipush 250, 3) := by decide +kernel
theorem dX6_add_7 : decode cX6_add 7 = .ok (.if_icmp .lt 5, 3) := by decide +kernel
theorem dX6_add_10 : decode cX6_add 10 = .ok (.iconst 0, 1) := by decide +kernel
theorem dX6_add_11 : decode cX6_add 11 = .ok (.ireturn, 1) := by decide +kernel
theorem dX6_add_12 : decode cX6_add 12 = .ok (.aload_n 0, 1) := by decide +kernel
theorem dX6_add_13 : decode cX6_add 13 = .ok (.getfield 9, 3) := by decide +kernel
theorem dX6_add_16 : decode cX6_add 16 = .ok (.aload_n 0, 1) := by decide +kernel
theorem dX6_add_17 : decode cX6_add 17 = .ok (.getfield 26, 3) := by decide +kernel
theorem dX6_add_20 : decode cX6_add 20 = .ok (.iload_n 1, 1) := by decide +kernel
theorem dX6_add_21 : decode cX6_add 21 = .ok (.iastore, 1) := by decide +kernel
theorem dX6_add_22 : decode cX6_add 22 = .ok (.aload_n 0, 1) := by decide +kernel
theorem dX6_add_23 : decode cX6_add 23 = .ok (.dup, 1) := by decide +kernel
theorem dX6_add_24 : decode cX6_add 24 = .ok (.getfield 26, 3) := by decide +kernel
theorem dX6_add_27 : decode cX6_add 27 = .ok (.iconst 1, 1) := by decide +kernel
theorem dX6_add_28 : decode cX6_add 28 = .ok (.iadd, 1) := by decide +kernel
theorem dX6_add_29 : decode cX6_add 29 = .ok (.putfield 26, 3) := by decide +kernel
theorem dX6_add_32 : decode cX6_add 32 = .ok (.iconst 1, 1) := by decide +kernel
theorem dX6_add_33 : decode cX6_add 33 = .ok (.ireturn, 1) := by decide +kernel
theorem dX6_exchange_0 : decode cX6_exchange 0 = .ok (.aload_n 0, 1) := by decide +kernel
theorem dX6_exchange_1 : decode cX6_exchange 1 = .ok (.getfield 18, 3) := by decide +kernel
theorem dX6_exchange_4 : decode cX6_exchange 4 = .ok (.astore_n 2, 1) := by decide +kernel
theorem dX6_exchange_5 : decode cX6_exchange 5 = .ok (.aload_n 0, 1) := by decide +kernel
theorem dX6_exchange_6 : decode cX6_exchange 6 = .ok (.aload_n 1, 1) := by decide +kernel
theorem dX6_exchange_7 : decode cX6_exchange 7 = .ok (.putfield 18, 3) := by decide +kernel
theorem dX6_exchange_10 : decode cX6_exchange 10 = .ok (.aload_n 2, 1) := by decide +kernel
theorem dX6_exchange_11 : decode cX6_exchange 11 = .ok (.areturn, 1) := by decide +kernel
set_option maxRecDepth 20000 in
theorem ggX6_read_X2_clear : GoodIn wsX6_read wsX2_clear := goodIn_r _ [10, 11, 12, 13, 14, 15, 95, 96, 97, 98, 99, 100, 101, 102, 103, 104, 105, 106, 107] rfl (by decide +kernel)
set_option maxRecDepth 20000 in
theorem gX6_read_X2_clear : GoodIn wsX6_read (wsV RX6 29 RX2 yX2_clear wsX2_clear) := goodIn_app (goodIn_of _ (by decide +kernel)) ggX6_read_X2_clear
set_option maxRecDepth 20000 in
theorem ggX6_read_X6_skipBlanks : GoodIn wsX6_read wsX6_skipBlanks := goodIn_r _ [20, 2, 5, 21, 87, 88, 89, 90, 91, 92, 93, 94] rfl (by decide +kernel)
set_option maxRecDepth 20000 in
theorem gX6_read_X6_skipBlanks : GoodIn wsX6_read (wsV RX6 38 RX6 yX6_skipBlanks wsX6_skipBlanks) := goodIn_app (goodIn_of _ (by decide +kernel)) ggX6_read_X6_skipBlanks
set_option maxRecDepth 20000 in
theorem ggX6_read_X6_readClause : GoodIn wsX6_read wsX6_readClause := goodIn_r _ [25, 1, 26, 2, 27, 28, 29, 30, 31, 19, 32, 5, 21, 33, 34, 35, 36, 37, 38, 39, 40, 41, 42, 43, 44, 16, 17, 18, 20, 45, 46, 47, 48, 49, 50, 51, 52, 3, 4, 53, 54, 55, 56, 57, 58, 59, 60, 61, 62, 63, 64, 65, 66, 67, 68, 9, 69, 14, 70, 71, 72, 73, 74, 75, 76, 77, 78, 79, 80, 81, 82, 83, 84, 85, 86, 87, 88, 89, 90, 91, 92, 93, 94, 95, 96, 97, 98, 99, 100, 101, 102, 103, 104, 105, 106, 107] rfl (by decide +kernel)
set_option maxRecDepth 20000 in
theorem gX6_read_X6_readClause : GoodIn wsX6_read (wsV RX6 41 RX6 yX6_readClause wsX6_readClause) := goodIn_app (goodIn_of _ (by decide +kernel)) ggX6_read_X6_readClause
theorem dX6_read_0 : decode cX6_read 0 = .ok (.aload_n 0, 1) := by decide +kernel
theorem dX6_read_1 : decode cX6_read 1 = .ok (.getfield 18, 3) := by decide +kernel
theorem dX6_read_4 : decode cX6_read 4 = .ok (.invokevirtual 29, 3) := by decide +kernel
theorem dX6_read_7 : decode cX6_read 7 = .ok (.aload_n 0, 1) := by decide +kernel
theorem dX6_read_8 : decode cX6_read 8 = .ok (.iconst 0, 1) := by decide +kernel
theorem dX6_read_9 : decode cX6_read 9 = .ok (.putfield 32, 3) := by decide +kernel
theorem dX6_read_12 : decode cX6_read 12 = .ok (.aload_n 0, 1) := by decide +kernel
theorem dX6_read_13 : decode cX6_read 13 = .ok (.iconst 0, 1) := by decide +kernel
theorem dX6_read_14 : decode cX6_read 14 = .ok (.putfield 35, 3) := by decide +kernel
theorem dX6_read_17 : decode cX6_read 17 = .ok (.aload_n 0, 1) := by decide +kernel
theorem dX6_read_18 : decode cX6_read 18 = .ok (.iconst (-1), 1) := by decide +kernel
theorem dX6_read_19 : decode cX6_read 19 = .ok (.putfield 22, 3) := by decide +kernel
theorem dX6_read_22 : decode cX6_read 22 = .ok (.aload_n 0, 1) := by decide +kernel
theorem dX6_read_23 : decode cX6_read 23 = .ok (.invokevirtual 38, 3) := by decide +kernel
theorem dX6_read_26 : decode cX6_read 26 = .ok (.iconst 0, 1) := by decide +kernel
theorem dX6_read_27 : decode cX6_read 27 = .ok (.istore_n 1, 1) := by decide +kernel
theorem dX6_read_28 : decode cX6_read 28 = .ok (.iload_n 1, 1) := by decide +kernel
theorem dX6_read_29 : decode cX6_read 29 = .ok (.aload_n 0, 1) := by decide +kernel
theorem dX6_read_30 : decode cX6_read 30 = .ok (.getfield 26, 3) := by decide +kernel
theorem dX6_read_33 : decode cX6_read 33 = .ok (.if_icmp .ge 35, 3) := by decide +kernel
theorem dX6_read_36 : decode cX6_read 36 = .ok (.aload_n 0, 1) := by decide +kernel
theorem dX6_read_37 : decode cX6_read 37 = .ok (.getfield 32, 3) := by decide +kernel
theorem dX6_read_40 : decode cX6_read 40 = .ok (.aload_n 0, 1) := by decide +kernel
theorem dX6_read_41 : decode cX6_read 41 = .ok (.getfield 26, 3) := by decide +kernel
theorem dX6_read_44 : decode cX6_read 44 = .ok (.if_icmp .ge 24, 3) := by decide +kernel
theorem dX6_read_47 : decode cX6_read 47 = .ok (.aload_n 0, 1) := by decide +kernel
theorem dX6_read_48 : decode cX6_read 48 = .ok (.getfield 35, 3) := by decide +kernel
theorem dX6_read_51 : decode cX6_read 51 = .ok (.ifCond .ne 17, 3) := by decide +kernel
theorem dX6_read_54 : decode cX6_read 54 = .ok (.aload_n 0, 1) := by decide +kernel
theorem dX6_read_55 : decode cX6_read 55 = .ok (.invokevirtual 41, 3) := by decide +kernel
theorem dX6_read_58 : decode cX6_read 58 = .ok (.aload_n 0, 1) := by decide +kernel
theorem dX6_read_59 : decode cX6_read 59 = .ok (.invokevirtual 38, 3) := by decide +kernel
theorem dX6_read_62 : decode cX6_read 62 = .ok (.iinc 1 1, 3) := by decide +kernel
theorem dX6_read_65 : decode cX6_read 65 = .ok (.goto (-37), 3) := by decide +kernel
theorem dX6_read_68 : decode cX6_read 68 = .ok (.aload_n 0, 1) := by decide +kernel
theorem dX6_read_69 : decode cX6_read 69 = .ok (.iconst 0, 1) := by decide +kernel
theorem dX6_read_70 : decode cX6_read 70 = .ok (.putfield 26, 3) := by decide +kernel
theorem dX6_read_73 : decode cX6_read 73 = .ok (.aload_n 0, 1) := by decide +kernel
theorem dX6_read_74 : decode cX6_read 74 = .ok (.getfield 35, 3) := by decide +kernel
theorem dX6_read_77 : decode cX6_read 77 = .ok (.ireturn, 1) := by decide +kernel
theorem dX6_fail_0 : decode cX6_fail 0 = .ok (.aload_n 0, 1) := by decide +kernel
theorem dX6_fail_1 : decode cX6_fail 1 = .ok (.iload_n 1, 1) := by decide +kernel
theorem dX6_fail_2 : decode cX6_fail 2 = .ok (.putfield 35, 3) := by decide +kernel
theorem dX6_fail_5 : decode cX6_fail 5 = .ok (.aload_n 0, 1) := by decide +kernel
theorem dX6_fail_6 : decode cX6_fail 6 = .ok (.iload_n 2, 1) := by decide +kernel
theorem dX6_fail_7 : decode cX6_fail 7 = .ok (.putfield 22, 3) := by decide +kernel
theorem dX6_fail_10 : decode cX6_fail 10 = .ok (.iconst 0, 1) := by decide +kernel
theorem dX6_fail_11 : decode cX6_fail 11 = .ok (.ireturn, 1) := by decide +kernel
theorem dX6_letter_0 : decode cX6_letter 0 = .ok (.aload_n 0, 1) := by decide +kernel
theorem dX6_letter_1 : decode cX6_letter 1 = .ok (.getfield 32, 3) := by decide +kernel
theorem dX6_letter_4 : decode cX6_letter 4 = .ok (.aload_n 0, 1) := by decide +kernel
theorem dX6_letter_5 : decode cX6_letter 5 = .ok (.getfield 26, 3) := by decide +kernel
theorem dX6_letter_8 : decode cX6_letter 8 = .ok (.if_icmp .ge 15, 3) := by decide +kernel
theorem dX6_letter_11 : decode cX6_letter 11 = .ok (.aload_n 0, 1) := by decide +kernel
theorem dX6_letter_12 : decode cX6_letter 12 = .ok (.getfield 9, 3) := by decide +kernel
theorem dX6_letter_15 : decode cX6_letter 15 = .ok (.aload_n 0, 1) := by decide +kernel
theorem dX6_letter_16 : decode cX6_letter 16 = .ok (.getfield 32, 3) := by decide +kernel
theorem dX6_letter_19 : decode cX6_letter 19 = .ok (.iaload, 1) := by decide +kernel
theorem dX6_letter_20 : decode cX6_letter 20 = .ok (.goto 4, 3) := by decide +kernel
theorem dX6_letter_23 : decode cX6_letter 23 = .ok (.iconst (-1), 1) := by decide +kernel
theorem dX6_letter_24 : decode cX6_letter 24 = .ok (.ireturn, 1) := by decide +kernel
theorem dX6_atFigure_0 : decode cX6_atFigure 0 = .ok (.aload_n 0, 1) := by decide +kernel
theorem dX6_atFigure_1 : decode cX6_atFigure 1 = .ok (.getfield 32, 3) := by decide +kernel
theorem dX6_atFigure_4 : decode cX6_atFigure 4 = .ok (.aload_n 0, 1) := by decide +kernel
theorem dX6_atFigure_5 : decode cX6_atFigure 5 = .ok (.getfield 26, 3) := by decide +kernel
theorem dX6_atFigure_8 : decode cX6_atFigure 8 = .ok (.if_icmp .ge 35, 3) := by decide +kernel
theorem dX6_atFigure_11 : decode cX6_atFigure 11 = .ok (.aload_n 0, 1) := by decide +kernel
theorem dX6_atFigure_12 : decode cX6_atFigure 12 = .ok (.getfield 9, 3) := by decide +kernel
theorem dX6_atFigure_15 : decode cX6_atFigure 15 = .ok (.aload_n 0, 1) := by decide +kernel
theorem dX6_atFigure_16 : decode cX6_atFigure 16 = .ok (.getfield 32, 3) := by decide +kernel
theorem dX6_atFigure_19 : decode cX6_atFigure 19 = .ok (.iaload, 1) := by decide +kernel
theorem dX6_atFigure_20 : decode cX6_atFigure 20 = .ok (.bipush 48, 2) := by decide +kernel
theorem dX6_atFigure_22 : decode cX6_atFigure 22 = .ok (.if_icmp .lt 21, 3) := by decide +kernel
theorem dX6_atFigure_25 : decode cX6_atFigure 25 = .ok (.aload_n 0, 1) := by decide +kernel
theorem dX6_atFigure_26 : decode cX6_atFigure 26 = .ok (.getfield 9, 3) := by decide +kernel
theorem dX6_atFigure_29 : decode cX6_atFigure 29 = .ok (.aload_n 0, 1) := by decide +kernel
theorem dX6_atFigure_30 : decode cX6_atFigure 30 = .ok (.getfield 32, 3) := by decide +kernel
theorem dX6_atFigure_33 : decode cX6_atFigure 33 = .ok (.iaload, 1) := by decide +kernel
theorem dX6_atFigure_34 : decode cX6_atFigure 34 = .ok (.bipush 57, 2) := by decide +kernel
theorem dX6_atFigure_36 : decode cX6_atFigure 36 = .ok (.if_icmp .gt 7, 3) := by decide +kernel
theorem dX6_atFigure_39 : decode cX6_atFigure 39 = .ok (.iconst 1, 1) := by decide +kernel
theorem dX6_atFigure_40 : decode cX6_atFigure 40 = .ok (.goto 4, 3) := by decide +kernel
theorem dX6_atFigure_43 : decode cX6_atFigure 43 = .ok (.iconst 0, 1) := by decide +kernel
theorem dX6_atFigure_44 : decode cX6_atFigure 44 = .ok (.ireturn, 1) := by decide +kernel
theorem dX6_skipBlanks_0 : decode cX6_skipBlanks 0 = .ok (.aload_n 0, 1) := by decide +kernel
theorem dX6_skipBlanks_1 : decode cX6_skipBlanks 1 = .ok (.getfield 32, 3) := by decide +kernel
theorem dX6_skipBlanks_4 : decode cX6_skipBlanks 4 = .ok (.aload_n 0, 1) := by decide +kernel
theorem dX6_skipBlanks_5 : decode cX6_skipBlanks 5 = .ok (.getfield 26, 3) := by decide +kernel
theorem dX6_skipBlanks_8 : decode cX6_skipBlanks 8 = .ok (.if_icmp .ge 30, 3) := by decide +kernel
theorem dX6_skipBlanks_11 : decode cX6_skipBlanks 11 = .ok (.aload_n 0, 1) := by decide +kernel
theorem dX6_skipBlanks_12 : decode cX6_skipBlanks 12 = .ok (.getfield 9, 3) := by decide +kernel
theorem dX6_skipBlanks_15 : decode cX6_skipBlanks 15 = .ok (.aload_n 0, 1) := by decide +kernel
theorem dX6_skipBlanks_16 : decode cX6_skipBlanks 16 = .ok (.getfield 32, 3) := by decide +kernel
theorem dX6_skipBlanks_19 : decode cX6_skipBlanks 19 = .ok (.iaload, 1) := by decide +kernel
theorem dX6_skipBlanks_20 : decode cX6_skipBlanks 20 = .ok (.bipush 32, 2) := by decide +kernel
theorem dX6_skipBlanks_22 : decode cX6_skipBlanks 22 = .ok (.if_icmp .ne 16, 3) := by decide +kernel
theorem dX6_skipBlanks_25 : decode cX6_skipBlanks 25 = .ok (.aload_n 0, 1) := by decide +kernel
theorem dX6_skipBlanks_26 : decode cX6_skipBlanks 26 = .ok (.dup, 1) := by decide +kernel
theorem dX6_skipBlanks_27 : decode cX6_skipBlanks 27 = .ok (.getfield 32, 3) := by decide +kernel
theorem dX6_skipBlanks_30 : decode cX6_skipBlanks 30 = .ok (.iconst 1, 1) := by decide +kernel
theorem dX6_skipBlanks_31 : decode cX6_skipBlanks 31 = .ok (.iadd, 1) := by decide +kernel
theorem dX6_skipBlanks_32 : decode cX6_skipBlanks 32 = .ok (.putfield 32, 3) := by decide +kernel
theorem dX6_skipBlanks_35 : decode cX6_skipBlanks 35 = .ok (.goto (-35), 3) := by decide +kernel
theorem dX6_skipBlanks_38 : decode cX6_skipBlanks 38 = .ok (.return_, 1) := by decide +kernel
set_option maxRecDepth 20000 in
theorem ggX6_readClause_X6_letter : GoodIn wsX6_readClause wsX6_letter := goodIn_r _ [10, 3, 11, 12, 75, 76, 77, 78, 79, 80, 81, 82] rfl (by decide +kernel)
set_option maxRecDepth 20000 in
theorem gX6_readClause_X6_letter : GoodIn wsX6_readClause (wsV RX6 44 RX6 yX6_letter wsX6_letter) := goodIn_app (goodIn_of _ (by decide +kernel)) ggX6_readClause_X6_letter
set_option maxRecDepth 20000 in
theorem ggX6_readClause_X6_readHead : GoodIn wsX6_readClause wsX6_readHead := goodIn_r _ [16, 1, 17, 2, 18, 19, 20, 21, 22, 9, 23, 3, 24, 11, 25, 26, 27, 28, 12, 29, 30, 31, 32, 33, 34, 35, 36, 37, 38, 6, 7, 8, 10, 39, 40, 41, 42, 75, 76, 77, 78, 79, 80, 81, 82, 83, 84, 85, 86, 87, 88, 89, 90, 91, 92, 93, 94, 95] rfl (by decide +kernel)
set_option maxRecDepth 20000 in
theorem gX6_readClause_X6_readHead : GoodIn wsX6_readClause (wsV RX6 51 RX6 yX6_readHead wsX6_readHead) := goodIn_app (goodIn_of _ (by decide +kernel)) ggX6_readClause_X6_readHead
set_option maxRecDepth 20000 in
theorem ggX6_readClause_X6_readRoad : GoodIn wsX6_readClause wsX6_readRoad := goodIn_r _ [46, 1, 4, 2, 47, 17, 48, 24, 49, 50, 18, 51, 20, 21, 22, 9, 23, 3, 11, 25, 26, 27, 28, 12, 29, 30, 31, 32, 33, 34, 35, 36, 37, 38, 6, 7, 8, 10, 52, 53, 54, 55, 56, 57, 58, 59, 60, 61, 62, 63, 39, 40, 41, 42, 75, 76, 77, 78, 79, 80, 81, 82, 83, 84, 85, 86, 87, 88, 89, 90, 91, 92, 93, 94, 95] rfl (by decide +kernel)
set_option maxRecDepth 20000 in
theorem gX6_readClause_X6_readRoad : GoodIn wsX6_readClause (wsV RX6 57 RX6 yX6_readRoad wsX6_readRoad) := goodIn_app (goodIn_of _ (by decide +kernel)) ggX6_readClause_X6_readRoad
set_option maxRecDepth 20000 in
theorem ggX6_readClause_X6_readTreaty : GoodIn wsX6_readClause wsX6_readTreaty := goodIn_r _ [67, 1, 5, 68, 17, 69, 20, 21, 22, 9, 23, 3, 24, 11, 25, 26, 27, 28, 12, 29, 30, 31, 32, 33, 34, 35, 36, 37, 38, 6, 7, 8, 10, 70, 71, 72, 73, 74, 4, 39, 40, 41, 42, 75, 76, 77, 78, 79, 80, 81, 82, 83, 84, 85, 86, 87, 88, 89, 90, 91, 92, 93, 94, 95] rfl (by decide +kernel)
set_option maxRecDepth 20000 in
theorem gX6_readClause_X6_readTreaty : GoodIn wsX6_readClause (wsV RX6 63 RX6 yX6_readTreaty wsX6_readTreaty) := goodIn_app (goodIn_of _ (by decide +kernel)) ggX6_readClause_X6_readTreaty
set_option maxRecDepth 20000 in
theorem ggX6_readClause_X6_fail : GoodIn wsX6_readClause wsX6_fail := goodIn_r _ [36, 37, 38, 75, 76, 77, 78, 79, 80, 81, 82] rfl (by decide +kernel)
set_option maxRecDepth 20000 in
theorem gX6_readClause_X6_fail : GoodIn wsX6_readClause (wsV RX6 66 RX6 yX6_fail wsX6_fail) := goodIn_app (goodIn_of _ (by decide +kernel)) ggX6_readClause_X6_fail
theorem dX6_readClause_0 : decode cX6_readClause 0 = .ok (.aload_n 0, 1) := by decide +kernel
theorem dX6_readClause_1 : decode cX6_readClause 1 = .ok (.invokevirtual 44, 3) := by decide +kernel
theorem dX6_readClause_4 : decode cX6_readClause 4 = .ok (.istore_n 1, 1) := by decide +kernel
theorem dX6_readClause_5 : decode cX6_readClause 5 = .ok (.iload_n 1, 1) := by decide +kernel
theorem dX6_readClause_6 : decode cX6_readClause 6 = .ok (.bipush 109, 2) := by decide +kernel
theorem dX6_readClause_8 : decode cX6_readClause 8 = .ok (.if_icmp .ne 30, 3) := by decide +kernel
theorem dX6_readClause_11 : decode cX6_readClause 11 = .ok (.aload_n 0, 1) := by decide +kernel
theorem dX6_readClause_12 : decode cX6_readClause 12 = .ok (.getfield 18, 3) := by decide +kernel
theorem dX6_readClause_15 : decode cX6_readClause 15 = .ok (.getfield 48, 3) := by decide +kernel
theorem dX6_readClause_18 : decode cX6_readClause 18 = .ok (.ifCond .ne 20, 3) := by decide +kernel
theorem dX6_readClause_21 : decode cX6_readClause 21 = .ok (.aload_n 0, 1) := by decide +kernel
theorem dX6_readClause_22 : decode cX6_readClause 22 = .ok (.dup, 1) := by decide +kernel
theorem dX6_readClause_23 : decode cX6_readClause 23 = .ok (.getfield 32, 3) := by decide +kernel
theorem dX6_readClause_26 : decode cX6_readClause 26 = .ok (.iconst 1, 1) := by decide +kernel
theorem dX6_readClause_27 : decode cX6_readClause 27 = .ok (.iadd, 1) := by decide +kernel
theorem dX6_readClause_28 : decode cX6_readClause 28 = .ok (.putfield 32, 3) := by decide +kernel
theorem dX6_readClause_31 : decode cX6_readClause 31 = .ok (.aload_n 0, 1) := by decide +kernel
theorem dX6_readClause_32 : decode cX6_readClause 32 = .ok (.invokevirtual 51, 3) := by decide +kernel
theorem dX6_readClause_35 : decode cX6_readClause 35 = .ok (.goto 145, 3) := by decide +kernel
theorem dX6_readClause_38 : decode cX6_readClause 38 = .ok (.iload_n 1, 1) := by decide +kernel
theorem dX6_readClause_39 : decode cX6_readClause 39 = .ok (.bipush 114, 2) := by decide +kernel
theorem dX6_readClause_41 : decode cX6_readClause 41 = .ok (.if_icmp .ne 42, 3) := by decide +kernel
theorem dX6_readClause_44 : decode cX6_readClause 44 = .ok (.aload_n 0, 1) := by decide +kernel
theorem dX6_readClause_45 : decode cX6_readClause 45 = .ok (.getfield 18, 3) := by decide +kernel
theorem dX6_readClause_48 : decode cX6_readClause 48 = .ok (.getfield 48, 3) := by decide +kernel
theorem dX6_readClause_51 : decode cX6_readClause 51 = .ok (.ifCond .le 32, 3) := by decide +kernel
theorem dX6_readClause_54 : decode cX6_readClause 54 = .ok (.aload_n 0, 1) := by decide +kernel
theorem dX6_readClause_55 : decode cX6_readClause 55 = .ok (.getfield 18, 3) := by decide +kernel
theorem dX6_readClause_58 : decode cX6_readClause 58 = .ok (.getfield 54, 3) := by decide +kernel
theorem dX6_readClause_61 : decode cX6_readClause 61 = .ok (.bipush 9, 2) := by decide +kernel
theorem dX6_readClause_63 : decode cX6_readClause 63 = .ok (.if_icmp .ge 20, 3) := by decide +kernel
theorem dX6_readClause_66 : decode cX6_readClause 66 = .ok (.aload_n 0, 1) := by decide +kernel
