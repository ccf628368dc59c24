theorem dX10_adds_33 : decode cX10_adds 33 = .ok (.aload_n 0, 1) := by decide +kernel
theorem dX10_adds_34 : decode cX10_adds 34 = .ok (.getfield 19, 3) := by decide +kernel
theorem dX10_adds_37 : decode cX10_adds 37 = .ok (.getfield 119, 3) := by decide +kernel
theorem dX10_adds_40 : decode cX10_adds 40 = .ok (.if_icmp .ge 31, 3) := by decide +kernel
theorem dX10_adds_43 : decode cX10_adds 43 = .ok (.aload_n 0, 1) := by decide +kernel
theorem dX10_adds_44 : decode cX10_adds 44 = .ok (.iload_n 1, 1) := by decide +kernel
theorem dX10_adds_45 : decode cX10_adds 45 = .ok (.iload_n 2, 1) := by decide +kernel
theorem dX10_adds_46 : decode cX10_adds 46 = .ok (.iload_n 3, 1) := by decide +kernel
theorem dX10_adds_47 : decode cX10_adds 47 = .ok (.invokevirtual 262, 3) := by decide +kernel
theorem dX10_adds_50 : decode cX10_adds 50 = .ok (.ifCond .eq 15, 3) := by decide +kernel
theorem dX10_adds_53 : decode cX10_adds 53 = .ok (.bipush 100, 2) := by decide +kernel
theorem dX10_adds_55 : decode cX10_adds 55 = .ok (.iload_n 1, 1) := by decide +kernel
theorem dX10_adds_56 : decode cX10_adds 56 = .ok (.imul, 1) := by decide +kernel
theorem dX10_adds_57 : decode cX10_adds 57 = .ok (.bipush 10, 2) := by decide +kernel
theorem dX10_adds_59 : decode cX10_adds 59 = .ok (.iload_n 2, 1) := by decide +kernel
theorem dX10_adds_60 : decode cX10_adds 60 = .ok (.imul, 1) := by decide +kernel
theorem dX10_adds_61 : decode cX10_adds 61 = .ok (.iadd, 1) := by decide +kernel
theorem dX10_adds_62 : decode cX10_adds 62 = .ok (.iload_n 3, 1) := by decide +kernel
theorem dX10_adds_63 : decode cX10_adds 63 = .ok (.iadd, 1) := by decide +kernel
theorem dX10_adds_64 : decode cX10_adds 64 = .ok (.ireturn, 1) := by decide +kernel
theorem dX10_adds_65 : decode cX10_adds 65 = .ok (.iinc 3 1, 3) := by decide +kernel
theorem dX10_adds_68 : decode cX10_adds 68 = .ok (.goto (-36), 3) := by decide +kernel
theorem dX10_adds_71 : decode cX10_adds 71 = .ok (.iinc 2 1, 3) := by decide +kernel
theorem dX10_adds_74 : decode cX10_adds 74 = .ok (.goto (-57), 3) := by decide +kernel
theorem dX10_adds_77 : decode cX10_adds 77 = .ok (.iinc 1 1, 3) := by decide +kernel
theorem dX10_adds_80 : decode cX10_adds 80 = .ok (.goto (-78), 3) := by decide +kernel
theorem dX10_adds_83 : decode cX10_adds 83 = .ok (.iconst (-1), 1) := by decide +kernel
theorem dX10_adds_84 : decode cX10_adds 84 = .ok (.ireturn, 1) := by decide +kernel
set_option maxRecDepth 20000 in
theorem ggX10_mend_X2_hasRoad : GoodIn wsX10_mend wsX2_hasRoad := goodIn_r _ [11, 12, 76, 77, 78, 79, 80, 81, 82, 83, 84, 85, 86, 87, 88] rfl (by decide +kernel)
set_option maxRecDepth 20000 in
theorem gX10_mend_X2_hasRoad : GoodIn wsX10_mend (wsV RX10 175 RX2 yX2_hasRoad wsX2_hasRoad) := goodIn_app (goodIn_of _ (by decide +kernel)) ggX10_mend_X2_hasRoad
set_option maxRecDepth 20000 in
theorem ggX10_mend_X3_fewest : GoodIn wsX10_mend wsX3_fewest := goodIn_r _ [17, 18, 19, 20, 21, 22, 23, 10, 24, 12, 25, 26, 27, 16, 28, 29, 30, 31, 32, 33, 34, 35, 36, 37, 38, 39, 40, 41, 42, 43, 44, 45, 46, 47, 48, 49, 50, 51, 52, 53, 54, 55, 76, 77, 78, 79, 80, 81, 82, 83, 84, 85, 86, 87, 88, 74, 75] rfl (by decide +kernel)
set_option maxRecDepth 20000 in
theorem gX10_mend_X3_fewest : GoodIn wsX10_mend (wsV RX10 266 RX3 yX3_fewest wsX3_fewest) := goodIn_app (goodIn_of _ (by decide +kernel)) ggX10_mend_X3_fewest
theorem dX10_mend_0 : decode cX10_mend 0 = .ok (.iload_n 1, 1) := by decide +kernel
theorem dX10_mend_1 : decode cX10_mend 1 = .ok (.iconst (-1), 1) := by decide +kernel
theorem dX10_mend_2 : decode cX10_mend 2 = .ok (.if_icmp .eq 17, 3) := by decide +kernel
theorem dX10_mend_5 : decode cX10_mend 5 = .ok (.aload_n 0, 1) := by decide +kernel
theorem dX10_mend_6 : decode cX10_mend 6 = .ok (.getfield 19, 3) := by decide +kernel
theorem dX10_mend_9 : decode cX10_mend 9 = .ok (.iload_n 1, 1) := by decide +kernel
theorem dX10_mend_10 : decode cX10_mend 10 = .ok (.invokevirtual 175, 3) := by decide +kernel
theorem dX10_mend_13 : decode cX10_mend 13 = .ok (.ifCond .ne 6, 3) := by decide +kernel
theorem dX10_mend_16 : decode cX10_mend 16 = .ok (.ldc 178, 2) := by decide +kernel
theorem dX10_mend_18 : decode cX10_mend 18 = .ok (.ireturn, 1) := by decide +kernel
theorem dX10_mend_19 : decode cX10_mend 19 = .ok (.aload_n 0, 1) := by decide +kernel
theorem dX10_mend_20 : decode cX10_mend 20 = .ok (.getfield 61, 3) := by decide +kernel
theorem dX10_mend_23 : decode cX10_mend 23 = .ok (.aload_n 0, 1) := by decide +kernel
theorem dX10_mend_24 : decode cX10_mend 24 = .ok (.getfield 19, 3) := by decide +kernel
theorem dX10_mend_27 : decode cX10_mend 27 = .ok (.aload_n 0, 1) := by decide +kernel
theorem dX10_mend_28 : decode cX10_mend 28 = .ok (.getfield 26, 3) := by decide +kernel
theorem dX10_mend_31 : decode cX10_mend 31 = .ok (.getfield 140, 3) := by decide +kernel
theorem dX10_mend_34 : decode cX10_mend 34 = .ok (.invokevirtual 266, 3) := by decide +kernel
theorem dX10_mend_37 : decode cX10_mend 37 = .ok (.istore_n 2, 1) := by decide +kernel
theorem dX10_mend_38 : decode cX10_mend 38 = .ok (.iload_n 2, 1) := by decide +kernel
theorem dX10_mend_39 : decode cX10_mend 39 = .ok (.iconst (-1), 1) := by decide +kernel
theorem dX10_mend_40 : decode cX10_mend 40 = .ok (.if_icmp .eq 8, 3) := by decide +kernel
theorem dX10_mend_43 : decode cX10_mend 43 = .ok (.iload_n 1, 1) := by decide +kernel
theorem dX10_mend_44 : decode cX10_mend 44 = .ok (.iconst (-1), 1) := by decide +kernel
theorem dX10_mend_45 : decode cX10_mend 45 = .ok (.if_icmp .ne 5, 3) := by decide +kernel
theorem dX10_mend_48 : decode cX10_mend 48 = .ok (.iload_n 2, 1) := by decide +kernel
theorem dX10_mend_49 : decode cX10_mend 49 = .ok (.ireturn, 1) := by decide +kernel
theorem dX10_mend_50 : decode cX10_mend 50 = .ok (.aload_n 0, 1) := by decide +kernel
theorem dX10_mend_51 : decode cX10_mend 51 = .ok (.getfield 61, 3) := by decide +kernel
theorem dX10_mend_54 : decode cX10_mend 54 = .ok (.getfield 270, 3) := by decide +kernel
theorem dX10_mend_57 : decode cX10_mend 57 = .ok (.iload_n 1, 1) := by decide +kernel
theorem dX10_mend_58 : decode cX10_mend 58 = .ok (.iaload, 1) := by decide +kernel
theorem dX10_mend_59 : decode cX10_mend 59 = .ok (.bipush 100, 2) := by decide +kernel
theorem dX10_mend_61 : decode cX10_mend 61 = .ok (.iadd, 1) := by decide +kernel
theorem dX10_mend_62 : decode cX10_mend 62 = .ok (.ireturn, 1) := by decide +kernel
set_option maxRecDepth 20000 in
theorem ggX10_want_X2_hasRoad : GoodIn wsX10_want wsX2_hasRoad := goodIn_r _ [11, 12, 50, 51, 52, 53, 54, 55, 56, 57, 58, 59, 60, 61, 62] rfl (by decide +kernel)
set_option maxRecDepth 20000 in
theorem gX10_want_X2_hasRoad : GoodIn wsX10_want (wsV RX10 175 RX2 yX2_hasRoad wsX2_hasRoad) := goodIn_app (goodIn_of _ (by decide +kernel)) ggX10_want_X2_hasRoad
set_option maxRecDepth 20000 in
theorem ggX10_want_X10_isMiles : GoodIn wsX10_want wsX10_isMiles := goodIn_r _ [16] rfl (by decide +kernel)
set_option maxRecDepth 20000 in
theorem gX10_want_X10_isMiles : GoodIn wsX10_want (va_wsS RX10 208 yX10_isMiles wsX10_isMiles) := goodIn_app (goodIn_of _ (by decide +kernel)) ggX10_want_X10_isMiles
set_option maxRecDepth 20000 in
theorem ggX10_want_X5_wantedSet : GoodIn wsX10_want wsX5_wantedSet := goodIn_r _ [21, 22, 42, 43, 44, 45, 46, 47, 48, 49] rfl (by decide +kernel)
set_option maxRecDepth 20000 in
theorem gX10_want_X5_wantedSet : GoodIn wsX10_want (wsV RX10 169 RX5 yX5_wantedSet wsX5_wantedSet) := goodIn_app (goodIn_of _ (by decide +kernel)) ggX10_want_X5_wantedSet
set_option maxRecDepth 20000 in
theorem ggX10_want_J6_bitCount_0f7a4 : GoodIn wsX10_want wsJ6_bitCount_0f7a4 := goodIn_r _ [26, 27, 28, 29] rfl (by decide +kernel)
set_option maxRecDepth 20000 in
theorem gX10_want_J6_bitCount_0f7a4 : GoodIn wsX10_want (va_wsS RX10 273 yJ6_bitCount_0f7a4 wsJ6_bitCount_0f7a4) := goodIn_app (goodIn_of _ (by decide +kernel)) ggX10_want_J6_bitCount_0f7a4
theorem dX10_want_0 : decode cX10_want 0 = .ok (.aload_n 0, 1) := by decide +kernel
theorem dX10_want_1 : decode cX10_want 1 = .ok (.getfield 19, 3) := by decide +kernel
theorem dX10_want_4 : decode cX10_want 4 = .ok (.iload_n 1, 1) := by decide +kernel
theorem dX10_want_5 : decode cX10_want 5 = .ok (.invokevirtual 175, 3) := by decide +kernel
theorem dX10_want_8 : decode cX10_want 8 = .ok (.ifCond .ne 6, 3) := by decide +kernel
theorem dX10_want_11 : decode cX10_want 11 = .ok (.ldc 178, 2) := by decide +kernel
theorem dX10_want_13 : decode cX10_want 13 = .ok (.ireturn, 1) := by decide +kernel
theorem dX10_want_14 : decode cX10_want 14 = .ok (.iload_n 2, 1) := by decide +kernel
theorem dX10_want_15 : decode cX10_want 15 = .ok (.ifCond .eq 13, 3) := by decide +kernel
theorem dX10_want_18 : decode cX10_want 18 = .ok (.iload_n 2, 1) := by decide +kernel
theorem dX10_want_19 : decode cX10_want 19 = .ok (.invokestatic 208, 3) := by decide +kernel
theorem dX10_want_22 : decode cX10_want 22 = .ok (.ifCond .ne 6, 3) := by decide +kernel
theorem dX10_want_25 : decode cX10_want 25 = .ok (.ldc 83, 2) := by decide +kernel
theorem dX10_want_27 : decode cX10_want 27 = .ok (.ireturn, 1) := by decide +kernel
theorem dX10_want_28 : decode cX10_want 28 = .ok (.aload_n 0, 1) := by decide +kernel
theorem dX10_want_29 : decode cX10_want 29 = .ok (.getfield 47, 3) := by decide +kernel
theorem dX10_want_32 : decode cX10_want 32 = .ok (.invokevirtual 169, 3) := by decide +kernel
theorem dX10_want_35 : decode cX10_want 35 = .ok (.iconst 1, 1) := by decide +kernel
theorem dX10_want_36 : decode cX10_want 36 = .ok (.iload_n 1, 1) := by decide +kernel
theorem dX10_want_37 : decode cX10_want 37 = .ok (.ishl, 1) := by decide +kernel
theorem dX10_want_38 : decode cX10_want 38 = .ok (.iconst (-1), 1) := by decide +kernel
theorem dX10_want_39 : decode cX10_want 39 = .ok (.ixor, 1) := by decide +kernel
theorem dX10_want_40 : decode cX10_want 40 = .ok (.iand, 1) := by decide +kernel
theorem dX10_want_41 : decode cX10_want 41 = .ok (.istore_n 3, 1) := by decide +kernel
theorem dX10_want_42 : decode cX10_want 42 = .ok (.iload_n 2, 1) := by decide +kernel
theorem dX10_want_43 : decode cX10_want 43 = .ok (.ifCond .eq 14, 3) := by decide +kernel
theorem dX10_want_46 : decode cX10_want 46 = .ok (.iload_n 3, 1) := by decide +kernel
theorem dX10_want_47 : decode cX10_want 47 = .ok (.invokestatic 273, 3) := by decide +kernel
theorem dX10_want_50 : decode cX10_want 50 = .ok (.iconst 5, 1) := by decide +kernel
theorem dX10_want_51 : decode cX10_want 51 = .ok (.if_icmp .lt 6, 3) := by decide +kernel
theorem dX10_want_54 : decode cX10_want 54 = .ok (.ldc 92, 2) := by decide +kernel
theorem dX10_want_56 : decode cX10_want 56 = .ok (.ireturn, 1) := by decide +kernel
theorem dX10_want_57 : decode cX10_want 57 = .ok (.aload_n 0, 1) := by decide +kernel
theorem dX10_want_58 : decode cX10_want 58 = .ok (.getfield 47, 3) := by decide +kernel
theorem dX10_want_61 : decode cX10_want 61 = .ok (.getfield 192, 3) := by decide +kernel
theorem dX10_want_64 : decode cX10_want 64 = .ok (.iload_n 1, 1) := by decide +kernel
theorem dX10_want_65 : decode cX10_want 65 = .ok (.iload_n 2, 1) := by decide +kernel
theorem dX10_want_66 : decode cX10_want 66 = .ok (.iastore, 1) := by decide +kernel
theorem dX10_want_67 : decode cX10_want 67 = .ok (.aload_n 0, 1) := by decide +kernel
theorem dX10_want_68 : decode cX10_want 68 = .ok (.getfield 47, 3) := by decide +kernel
theorem dX10_want_71 : decode cX10_want 71 = .ok (.invokevirtual 169, 3) := by decide +kernel
theorem dX10_want_74 : decode cX10_want 74 = .ok (.invokestatic 273, 3) := by decide +kernel
theorem dX10_want_77 : decode cX10_want 77 = .ok (.ireturn, 1) := by decide +kernel
set_option maxRecDepth 20000 in
theorem ggX10_dawns_X4_plan : GoodIn wsX10_dawns wsX4_plan := goodIn_r _ [13, 14, 15, 16, 17, 18, 19, 20, 21, 22, 23, 24, 25, 26, 27, 28, 29, 30, 31, 32, 33, 34, 35, 36, 37, 38, 39, 40, 41, 42, 43, 44, 45, 46, 47, 48, 49, 50, 51, 52, 53, 54, 55, 56, 57, 58, 59, 60, 12, 61, 62, 89, 90, 91, 92, 93, 94, 95, 96, 97, 98, 99, 100, 101, 102, 103, 104, 105] rfl (by decide +kernel)
set_option maxRecDepth 20000 in
theorem gX10_dawns_X4_plan : GoodIn wsX10_dawns (wsV RX10 278 RX4 yX4_plan wsX4_plan) := goodIn_app (goodIn_of _ (by decide +kernel)) ggX10_dawns_X4_plan
theorem dX10_dawns_0 : decode cX10_dawns 0 = .ok (.aload_n 0, 1) := by decide +kernel
theorem dX10_dawns_1 : decode cX10_dawns 1 = .ok (.getfield 68, 3) := by decide +kernel
theorem dX10_dawns_4 : decode cX10_dawns 4 = .ok (.aload_n 0, 1) := by decide +kernel
theorem dX10_dawns_5 : decode cX10_dawns 5 = .ok (.getfield 19, 3) := by decide +kernel
theorem dX10_dawns_8 : decode cX10_dawns 8 = .ok (.aload_n 0, 1) := by decide +kernel
theorem dX10_dawns_9 : decode cX10_dawns 9 = .ok (.getfield 26, 3) := by decide +kernel
theorem dX10_dawns_12 : decode cX10_dawns 12 = .ok (.getfield 140, 3) := by decide +kernel
theorem dX10_dawns_15 : decode cX10_dawns 15 = .ok (.aload_n 0, 1) := by decide +kernel
theorem dX10_dawns_16 : decode cX10_dawns 16 = .ok (.getfield 47, 3) := by decide +kernel
theorem dX10_dawns_19 : decode cX10_dawns 19 = .ok (.getfield 192, 3) := by decide +kernel
theorem dX10_dawns_22 : decode cX10_dawns 22 = .ok (.invokevirtual 278, 3) := by decide +kernel
theorem dX10_dawns_25 : decode cX10_dawns 25 = .ok (.ifCond .ne 5, 3) := by decide +kernel
theorem dX10_dawns_28 : decode cX10_dawns 28 = .ok (.iconst (-1), 1) := by decide +kernel
theorem dX10_dawns_29 : decode cX10_dawns 29 = .ok (.ireturn, 1) := by decide +kernel
theorem dX10_dawns_30 : decode cX10_dawns 30 = .ok (.iload_n 1, 1) := by decide +kernel
theorem dX10_dawns_31 : decode cX10_dawns 31 = .ok (.iconst (-1), 1) := by decide +kernel
theorem dX10_dawns_32 : decode cX10_dawns 32 = .ok (.if_icmp .ne 11, 3) := by decide +kernel
theorem dX10_dawns_35 : decode cX10_dawns 35 = .ok (.aload_n 0, 1) := by decide +kernel
theorem dX10_dawns_36 : decode cX10_dawns 36 = .ok (.getfield 68, 3) := by decide +kernel
theorem dX10_dawns_39 : decode cX10_dawns 39 = .ok (.getfield 282, 3) := by decide +kernel
theorem dX10_dawns_42 : decode cX10_dawns 42 = .ok (.ireturn, 1) := by decide +kernel
theorem dX10_dawns_43 : decode cX10_dawns 43 = .ok (.iload_n 1, 1) := by decide +kernel
theorem dX10_dawns_44 : decode cX10_dawns 44 = .ok (.ifCond .lt 26, 3) := by decide +kernel
theorem dX10_dawns_47 : decode cX10_dawns 47 = .ok (.iload_n 1, 1) := by decide +kernel
theorem dX10_dawns_48 : decode cX10_dawns 48 = .ok (.aload_n 0, 1) := by decide +kernel
theorem dX10_dawns_49 : decode cX10_dawns 49 = .ok (.getfield 68, 3) := by decide +kernel
theorem dX10_dawns_52 : decode cX10_dawns 52 = .ok (.getfield 282, 3) := by decide +kernel
theorem dX10_dawns_55 : decode cX10_dawns 55 = .ok (.if_icmp .ge 15, 3) := by decide +kernel
theorem dX10_dawns_58 : decode cX10_dawns 58 = .ok (.aload_n 0, 1) := by decide +kernel
theorem dX10_dawns_59 : decode cX10_dawns 59 = .ok (.getfield 68, 3) := by decide +kernel
theorem dX10_dawns_62 : decode cX10_dawns 62 = .ok (.getfield 283, 3) := by decide +kernel
theorem dX10_dawns_65 : decode cX10_dawns 65 = .ok (.iload_n 1, 1) := by decide +kernel
theorem dX10_dawns_66 : decode cX10_dawns 66 = .ok (.iaload, 1) := by decide +kernel
theorem dX10_dawns_67 : decode cX10_dawns 67 = .ok (.goto 4, 3) := by decide +kernel
theorem dX10_dawns_70 : decode cX10_dawns 70 = .ok (.iconst (-1), 1) := by decide +kernel
theorem dX10_dawns_71 : decode cX10_dawns 71 = .ok (.ireturn, 1) := by decide +kernel
set_option maxRecDepth 20000 in
theorem ggX10_round_X7_seek : GoodIn wsX10_round wsX7_seek := goodIn_r _ [13, 14, 15, 16, 17, 18, 19, 20, 21, 12, 22, 23, 24, 25, 26, 27, 28, 29, 30, 31, 32, 33, 34, 35, 36, 37, 38, 39, 40, 41, 42, 61, 62, 63, 64, 65, 66, 67, 68, 69, 70, 71, 72, 73, 74, 75, 76, 77] rfl (by decide +kernel)
set_option maxRecDepth 20000 in
theorem gX10_round_X7_seek : GoodIn wsX10_round (wsV RX10 286 RX7 yX7_seek wsX7_seek) := goodIn_app (goodIn_of _ (by decide +kernel)) ggX10_round_X7_seek
theorem dX10_round_0 : decode cX10_round 0 = .ok (.iload_n 1, 1) := by decide +kernel
theorem dX10_round_1 : decode cX10_round 1 = .ok (.ifCond .lt 8, 3) := by decide +kernel
theorem dX10_round_4 : decode cX10_round 4 = .ok (.iload_n 1, 1) := by decide +kernel
theorem dX10_round_5 : decode cX10_round 5 = .ok (.iconst 2, 1) := by decide +kernel
theorem dX10_round_6 : decode cX10_round 6 = .ok (.if_icmp .le 6, 3) := by decide +kernel
theorem dX10_round_9 : decode cX10_round 9 = .ok (.ldc 83, 2) := by decide +kernel
theorem dX10_round_11 : decode cX10_round 11 = .ok (.ireturn, 1) := by decide +kernel
theorem dX10_round_12 : decode cX10_round 12 = .ok (.aload_n 0, 1) := by decide +kernel
theorem dX10_round_13 : decode cX10_round 13 = .ok (.getfield 75, 3) := by decide +kernel
theorem dX10_round_16 : decode cX10_round 16 = .ok (.aload_n 0, 1) := by decide +kernel
theorem dX10_round_17 : decode cX10_round 17 = .ok (.getfield 19, 3) := by decide +kernel
theorem dX10_round_20 : decode cX10_round 20 = .ok (.aload_n 0, 1) := by decide +kernel
theorem dX10_round_21 : decode cX10_round 21 = .ok (.getfield 26, 3) := by decide +kernel
theorem dX10_round_24 : decode cX10_round 24 = .ok (.getfield 140, 3) := by decide +kernel
theorem dX10_round_27 : decode cX10_round 27 = .ok (.invokevirtual 286, 3) := by decide +kernel
theorem dX10_round_30 : decode cX10_round 30 = .ok (.ifCond .ne 5, 3) := by decide +kernel
theorem dX10_round_33 : decode cX10_round 33 = .ok (.iconst (-1), 1) := by decide +kernel
theorem dX10_round_34 : decode cX10_round 34 = .ok (.ireturn, 1) := by decide +kernel
theorem dX10_round_35 : decode cX10_round 35 = .ok (.iload_n 1, 1) := by decide +kernel
theorem dX10_round_36 : decode cX10_round 36 = .ok (.ifCond .ne 15, 3) := by decide +kernel
theorem dX10_round_39 : decode cX10_round 39 = .ok (.aload_n 0, 1) := by decide +kernel
theorem dX10_round_40 : decode cX10_round 40 = .ok (.getfield 75, 3) := by decide +kernel
theorem dX10_round_43 : decode cX10_round 43 = .ok (.getfield 290, 3) := by decide +kernel
theorem dX10_round_46 : decode cX10_round 46 = .ok (.sipush 1000, 3) := by decide +kernel
theorem dX10_round_49 : decode cX10_round 49 = .ok (.iadd, 1) := by decide +kernel
theorem dX10_round_50 : decode cX10_round 50 = .ok (.ireturn, 1) := by decide +kernel
theorem dX10_round_51 : decode cX10_round 51 = .ok (.iload_n 1, 1) := by decide +kernel
theorem dX10_round_52 : decode cX10_round 52 = .ok (.iconst 1, 1) := by decide +kernel
theorem dX10_round_53 : decode cX10_round 53 = .ok (.if_icmp .ne 13, 3) := by decide +kernel
theorem dX10_round_56 : decode cX10_round 56 = .ok (.aload_n 0, 1) := by decide +kernel
theorem dX10_round_57 : decode cX10_round 57 = .ok (.getfield 75, 3) := by decide +kernel
theorem dX10_round_60 : decode cX10_round 60 = .ok (.getfield 293, 3) := by decide +kernel
theorem dX10_round_63 : decode cX10_round 63 = .ok (.goto 10, 3) := by decide +kernel
theorem dX10_round_66 : decode cX10_round 66 = .ok (.aload_n 0, 1) := by decide +kernel
theorem dX10_round_67 : decode cX10_round 67 = .ok (.getfield 75, 3) := by decide +kernel
theorem dX10_round_70 : decode cX10_round 70 = .ok (.getfield 296, 3) := by decide +kernel
theorem dX10_round_73 : decode cX10_round 73 = .ok (.ireturn, 1) := by decide +kernel
set_option maxRecDepth 20000 in
theorem ggX10_deceive_X10_areTowns : GoodIn wsX10_deceive wsX10_areTowns := goodIn_r _ [17, 3, 18, 19, 20, 21, 22, 23, 74, 75, 76, 77, 78, 79, 80, 81, 82, 83, 84, 85, 92, 93, 94, 95, 96, 97, 98, 99, 100, 101, 102, 103, 104] rfl (by decide +kernel)
set_option maxRecDepth 20000 in
theorem gX10_deceive_X10_areTowns : GoodIn wsX10_deceive (wsV RX10 242 RX10 yX10_areTowns wsX10_areTowns) := goodIn_app (goodIn_of _ (by decide +kernel)) ggX10_deceive_X10_areTowns
set_option maxRecDepth 20000 in
theorem ggX10_deceive_X9_go : GoodIn wsX10_deceive wsX9_go := goodIn_r _ [28, 29, 30, 31, 32, 33, 27, 34, 35, 36, 37, 38, 39, 40, 41, 42, 43, 44, 45, 46, 47, 48, 49, 50, 51, 52, 53, 54, 55, 56, 57, 58, 59, 21, 60, 61, 62, 105, 106, 107, 92, 93, 94, 95, 96, 97, 98, 99, 100, 101, 102, 103, 104] rfl (by decide +kernel)
set_option maxRecDepth 20000 in
theorem gX10_deceive_X9_go : GoodIn wsX10_deceive (wsV RX10 249 RX9 yX9_go wsX9_go) := goodIn_app (goodIn_of _ (by decide +kernel)) ggX10_deceive_X9_go
set_option maxRecDepth 20000 in
theorem ggX10_deceive_X9_together : GoodIn wsX10_deceive wsX9_together := goodIn_r _ [66, 29, 30, 105, 106, 107] rfl (by decide +kernel)
set_option maxRecDepth 20000 in
theorem gX10_deceive_X9_together : GoodIn wsX10_deceive (wsV RX10 253 RX9 yX9_together wsX9_together) := goodIn_app (goodIn_of _ (by decide +kernel)) ggX10_deceive_X9_together
set_option maxRecDepth 20000 in
theorem ggX10_deceive_X10_feetIfMoved : GoodIn wsX10_deceive wsX10_feetIfMoved := goodIn_r _ [70, 4, 5, 7, 2, 3, 6, 71, 72, 16, 73, 24, 25, 26, 27, 28, 29, 30, 31, 32, 33, 34, 35, 36, 37, 38, 39, 40, 41, 42, 43, 44, 45, 46, 47, 48, 49, 50, 51, 52, 53, 54, 55, 56, 57, 58, 59, 21, 60, 61, 62, 63, 64, 65, 66, 74, 75, 76, 77, 78, 79, 80, 81, 82, 83, 84, 85, 86, 87, 88, 89, 90, 91, 92, 93, 94, 95, 96, 97, 98, 99, 100, 101, 102, 103, 104, 105, 106, 107] rfl (by decide +kernel)
set_option maxRecDepth 20000 in
theorem gX10_deceive_X10_feetIfMoved : GoodIn wsX10_deceive (wsV RX10 305 RX10 yX10_feetIfMoved wsX10_feetIfMoved) := goodIn_app (goodIn_of _ (by decide +kernel)) ggX10_deceive_X10_feetIfMoved
theorem dX10_deceive_0 : decode cX10_deceive 0 = .ok (.aload_n 0, 1) := by decide +kernel
theorem dX10_deceive_1 : decode cX10_deceive 1 = .ok (.iload_n 1, 1) := by decide +kernel
theorem dX10_deceive_2 : decode cX10_deceive 2 = .ok (.iload_n 2, 1) := by decide +kernel
theorem dX10_deceive_3 : decode cX10_deceive 3 = .ok (.invokevirtual 242, 3) := by decide +kernel
theorem dX10_deceive_6 : decode cX10_deceive 6 = .ok (.ifCond .ne 6, 3) := by decide +kernel
theorem dX10_deceive_9 : decode cX10_deceive 9 = .ok (.ldc 178, 2) := by decide +kernel
theorem dX10_deceive_11 : decode cX10_deceive 11 = .ok (.ireturn, 1) := by decide +kernel
theorem dX10_deceive_12 : decode cX10_deceive 12 = .ok (.aload_n 0, 1) := by decide +kernel
theorem dX10_deceive_13 : decode cX10_deceive 13 = .ok (.getfield 54, 3) := by decide +kernel
theorem dX10_deceive_16 : decode cX10_deceive 16 = .ok (.aload_n 0, 1) := by decide +kernel
theorem dX10_deceive_17 : decode cX10_deceive 17 = .ok (.getfield 19, 3) := by decide +kernel
theorem dX10_deceive_20 : decode cX10_deceive 20 = .ok (.aload_n 0, 1) := by decide +kernel
theorem dX10_deceive_21 : decode cX10_deceive 21 = .ok (.getfield 26, 3) := by decide +kernel
theorem dX10_deceive_24 : decode cX10_deceive 24 = .ok (.getfield 140, 3) := by decide +kernel
theorem dX10_deceive_27 : decode cX10_deceive 27 = .ok (.iload_n 1, 1) := by decide +kernel
theorem dX10_deceive_28 : decode cX10_deceive 28 = .ok (.iload_n 2, 1) := by decide +kernel
theorem dX10_deceive_29 : decode cX10_deceive 29 = .ok (.invokevirtual 249, 3) := by decide +kernel
theorem dX10_deceive_32 : decode cX10_deceive 32 = .ok (.ifCond .ne 5, 3) := by decide +kernel
theorem dX10_deceive_35 : decode cX10_deceive 35 = .ok (.iconst (-1), 1) := by decide +kernel
theorem dX10_deceive_36 : decode cX10_deceive 36 = .ok (.ireturn, 1) := by decide +kernel
theorem dX10_deceive_37 : decode cX10_deceive 37 = .ok (.aload_n 0, 1) := by decide +kernel
theorem dX10_deceive_38 : decode cX10_deceive 38 = .ok (.getfield 54, 3) := by decide +kernel
theorem dX10_deceive_41 : decode cX10_deceive 41 = .ok (.aload_n 0, 1) := by decide +kernel
theorem dX10_deceive_42 : decode cX10_deceive 42 = .ok (.getfield 19, 3) := by decide +kernel
theorem dX10_deceive_45 : decode cX10_deceive 45 = .ok (.getfield 185, 3) := by decide +kernel
theorem dX10_deceive_48 : decode cX10_deceive 48 = .ok (.invokevirtual 253, 3) := by decide +kernel
theorem dX10_deceive_51 : decode cX10_deceive 51 = .ok (.istore_n 3, 1) := by decide +kernel
theorem dX10_deceive_52 : decode cX10_deceive 52 = .ok (.iconst (-1), 1) := by decide +kernel
theorem dX10_deceive_53 : decode cX10_deceive 53 = .ok (.istore 4, 2) := by decide +kernel
theorem dX10_deceive_55 : decode cX10_deceive 55 = .ok (.aload_n 0, 1) := by decide +kernel
theorem dX10_deceive_56 : decode cX10_deceive 56 = .ok (.getfield 26, 3) := by decide +kernel
theorem dX10_deceive_59 : decode cX10_deceive 59 = .ok (.getfield 140, 3) := by decide +kernel
theorem dX10_deceive_62 : decode cX10_deceive 62 = .ok (.iconst 0, 1) := by decide +kernel
theorem dX10_deceive_63 : decode cX10_deceive 63 = .ok (.aload_n 0, 1) := by decide +kernel
theorem dX10_deceive_64 : decode cX10_deceive 64 = .ok (.getfield 79, 3) := by decide +kernel
theorem dX10_deceive_67 : decode cX10_deceive 67 = .ok (.iconst 0, 1) := by decide +kernel
theorem dX10_deceive_68 : decode cX10_deceive 68 = .ok (.bipush 9, 2) := by decide +kernel
theorem dX10_deceive_70 : decode cX10_deceive 70 = .ok (.invokestatic 299, 3) := by decide +kernel
theorem dX10_deceive_73 : decode cX10_deceive 73 = .ok (.iconst 0, 1) := by decide +kernel
theorem dX10_deceive_74 : decode cX10_deceive 74 = .ok (.istore 5, 2) := by decide +kernel
theorem dX10_deceive_76 : decode cX10_deceive 76 = .ok (.iload 5, 2) := by decide +kernel
theorem dX10_deceive_78 : decode cX10_deceive 78 = .ok (.aload_n 0, 1) := by decide +kernel
theorem dX10_deceive_79 : decode cX10_deceive 79 = .ok (.getfield 19, 3) := by decide +kernel
theorem dX10_deceive_82 : decode cX10_deceive 82 = .ok (.getfield 113, 3) := by decide +kernel
theorem dX10_deceive_85 : decode cX10_deceive 85 = .ok (.if_icmp .ge 64, 3) := by decide +kernel
theorem dX10_deceive_88 : decode cX10_deceive 88 = .ok (.iconst 0, 1) := by decide +kernel
theorem dX10_deceive_89 : decode cX10_deceive 89 = .ok (.istore 6, 2) := by decide +kernel
theorem dX10_deceive_91 : decode cX10_deceive 91 = .ok (.iload 6, 2) := by decide +kernel
theorem dX10_deceive_93 : decode cX10_deceive 93 = .ok (.iconst 1, 1) := by decide +kernel
theorem dX10_deceive_94 : decode cX10_deceive 94 = .ok (.if_icmp .gt 49, 3) := by decide +kernel
theorem dX10_deceive_97 : decode cX10_deceive 97 = .ok (.aload_n 0, 1) := by decide +kernel
theorem dX10_deceive_98 : decode cX10_deceive 98 = .ok (.iload_n 1, 1) := by decide +kernel
theorem dX10_deceive_99 : decode cX10_deceive 99 = .ok (.iload_n 2, 1) := by decide +kernel
theorem dX10_deceive_100 : decode cX10_deceive 100 = .ok (.iload 5, 2) := by decide +kernel
theorem dX10_deceive_102 : decode cX10_deceive 102 = .ok (.iload 6, 2) := by decide +kernel
theorem dX10_deceive_104 : decode cX10_deceive 104 = .ok (.iconst 1, 1) := by decide +kernel
theorem dX10_deceive_105 : decode cX10_deceive 105 = .ok (.if_icmp .ne 7, 3) := by decide +kernel
theorem dX10_deceive_108 : decode cX10_deceive 108 = .ok (.iconst 1, 1) := by decide +kernel
theorem dX10_deceive_109 : decode cX10_deceive 109 = .ok (.goto 4, 3) := by decide +kernel
theorem dX10_deceive_112 : decode cX10_deceive 112 = .ok (.iconst (-1), 1) := by decide +kernel
theorem dX10_deceive_113 : decode cX10_deceive 113 = .ok (.invokevirtual 305, 3) := by decide +kernel
theorem dX10_deceive_116 : decode cX10_deceive 116 = .ok (.istore 7, 2) := by decide +kernel
theorem dX10_deceive_118 : decode cX10_deceive 118 = .ok (.iload 7, 2) := by decide +kernel
theorem dX10_deceive_120 : decode cX10_deceive 120 = .ok (.iload_n 3, 1) := by decide +kernel
theorem dX10_deceive_121 : decode cX10_deceive 121 = .ok (.if_icmp .le 16, 3) := by decide +kernel
theorem dX10_deceive_124 : decode cX10_deceive 124 = .ok (.iload 7, 2) := by decide +kernel
theorem dX10_deceive_126 : decode cX10_deceive 126 = .ok (.istore_n 3, 1) := by decide +kernel
theorem dX10_deceive_127 : decode cX10_deceive 127 = .ok (.bipush 10, 2) := by decide +kernel
theorem dX10_deceive_129 : decode cX10_deceive 129 = .ok (.iload 5, 2) := by decide +kernel
theorem dX10_deceive_131 : decode cX10_deceive 131 = .ok (.imul, 1) := by decide +kernel
theorem dX10_deceive_132 : decode cX10_deceive 132 = .ok (.iload 6, 2) := by decide +kernel
theorem dX10_deceive_134 : decode cX10_deceive 134 = .ok (.iadd, 1) := by decide +kernel
theorem dX10_deceive_135 : decode cX10_deceive 135 = .ok (.istore 4, 2) := by decide +kernel
theorem dX10_deceive_137 : decode cX10_deceive 137 = .ok (.iinc 6 1, 3) := by decide +kernel
theorem dX10_deceive_140 : decode cX10_deceive 140 = .ok (.goto (-49), 3) := by decide +kernel
theorem dX10_deceive_143 : decode cX10_deceive 143 = .ok (.iinc 5 1, 3) := by decide +kernel
theorem dX10_deceive_146 : decode cX10_deceive 146 = .ok (.goto (-70), 3) := by decide +kernel
theorem dX10_deceive_149 : decode cX10_deceive 149 = .ok (.iload 4, 2) := by decide +kernel
theorem dX10_deceive_151 : decode cX10_deceive 151 = .ok (.ireturn, 1) := by decide +kernel
set_option maxRecDepth 20000 in
theorem ggX10_fee_X10_areTowns : GoodIn wsX10_fee wsX10_areTowns := goodIn_r _ [10, 1, 11, 12, 13, 14, 15, 16, 70, 71, 72, 73, 74, 75, 76, 77, 78, 79, 80, 81, 88, 89, 90, 91, 92, 93, 94, 95, 96, 97, 98, 99, 100] rfl (by decide +kernel)
set_option maxRecDepth 20000 in
theorem gX10_fee_X10_areTowns : GoodIn wsX10_fee (wsV RX10 242 RX10 yX10_areTowns wsX10_areTowns) := goodIn_app (goodIn_of _ (by decide +kernel)) ggX10_fee_X10_areTowns
set_option maxRecDepth 20000 in
theorem ggX10_fee_X2_hasCounty : GoodIn wsX10_fee wsX2_hasCounty := goodIn_r _ [20, 21, 88, 89, 90, 91, 92, 93, 94, 95, 96, 97, 98, 99, 100] rfl (by decide +kernel)
set_option maxRecDepth 20000 in
theorem gX10_fee_X2_hasCounty : GoodIn wsX10_fee (wsV RX10 309 RX2 yX2_hasCounty wsX2_hasCounty) := goodIn_app (goodIn_of _ (by decide +kernel)) ggX10_fee_X2_hasCounty
set_option maxRecDepth 20000 in
theorem ggX10_fee_X9_go : GoodIn wsX10_fee wsX9_go := goodIn_r _ [26, 27, 28, 29, 30, 31, 25, 32, 33, 34, 35, 36, 37, 38, 39, 40, 41, 42, 43, 44, 45, 46, 47, 48, 49, 50, 51, 52, 53, 54, 55, 56, 57, 14, 58, 59, 60, 101, 102, 103, 88, 89, 90, 91, 92, 93, 94, 95, 96, 97, 98, 99, 100] rfl (by decide +kernel)
set_option maxRecDepth 20000 in
theorem gX10_fee_X9_go : GoodIn wsX10_fee (wsV RX10 249 RX9 yX9_go wsX9_go) := goodIn_app (goodIn_of _ (by decide +kernel)) ggX10_fee_X9_go
set_option maxRecDepth 20000 in
theorem ggX10_fee_X9_together : GoodIn wsX10_fee wsX9_together := goodIn_r _ [64, 27, 28, 101, 102, 103] rfl (by decide +kernel)
set_option maxRecDepth 20000 in
theorem gX10_fee_X9_together : GoodIn wsX10_fee (wsV RX10 253 RX9 yX9_together wsX9_together) := goodIn_app (goodIn_of _ (by decide +kernel)) ggX10_fee_X9_together
set_option maxRecDepth 20000 in
theorem ggX10_fee_X9_ownedBy : GoodIn wsX10_fee wsX9_ownedBy := goodIn_r _ [68, 27, 69, 28, 101, 102, 103, 88, 89, 90, 91, 92, 93, 94, 95, 96, 97, 98, 99, 100] rfl (by decide +kernel)
set_option maxRecDepth 20000 in
theorem gX10_fee_X9_ownedBy : GoodIn wsX10_fee (wsV RX10 312 RX9 yX9_ownedBy wsX9_ownedBy) := goodIn_app (goodIn_of _ (by decide +kernel)) ggX10_fee_X9_ownedBy
theorem dX10_fee_0 : decode cX10_fee 0 = .ok (.aload_n 0, 1) := by decide +kernel
theorem dX10_fee_1 : decode cX10_fee 1 = .ok (.iload_n 1, 1) := by decide +kernel
theorem dX10_fee_2 : decode cX10_fee 2 = .ok (.iload_n 2, 1) := by decide +kernel
theorem dX10_fee_3 : decode cX10_fee 3 = .ok (.invokevirtual 242, 3) := by decide +kernel
theorem dX10_fee_6 : decode cX10_fee 6 = .ok (.ifCond .eq 14, 3) := by decide +kernel
theorem dX10_fee_9 : decode cX10_fee 9 = .ok (.aload_n 0, 1) := by decide +kernel
theorem dX10_fee_10 : decode cX10_fee 10 = .ok (.getfield 19, 3) := by decide +kernel
theorem dX10_fee_13 : decode cX10_fee 13 = .ok (.iload_n 3, 1) := by decide +kernel
theorem dX10_fee_14 : decode cX10_fee 14 = .ok (.invokevirtual 309, 3) := by decide +kernel
theorem dX10_fee_17 : decode cX10_fee 17 = .ok (.ifCond .ne 6, 3) := by decide +kernel
theorem dX10_fee_20 : decode cX10_fee 20 = .ok (.ldc 178, 2) := by decide +kernel
theorem dX10_fee_22 : decode cX10_fee 22 = .ok (.ireturn, 1) := by decide +kernel
theorem dX10_fee_23 : decode cX10_fee 23 = .ok (.aload_n 0, 1) := by decide +kernel
theorem dX10_fee_24 : decode cX10_fee 24 = .ok (.getfield 54, 3) := by decide +kernel
theorem dX10_fee_27 : decode cX10_fee 27 = .ok (.aload_n 0, 1) := by decide +kernel
theorem dX10_fee_28 : decode cX10_fee 28 = .ok (.getfield 19, 3) := by decide +kernel
theorem dX10_fee_31 : decode cX10_fee 31 = .ok (.aload_n 0, 1) := by decide +kernel
theorem dX10_fee_32 : decode cX10_fee 32 = .ok (.getfield 26, 3) := by decide +kernel
theorem dX10_fee_35 : decode cX10_fee 35 = .ok (.getfield 140, 3) := by decide +kernel
theorem dX10_fee_38 : decode cX10_fee 38 = .ok (.iload_n 1, 1) := by decide +kernel
theorem dX10_fee_39 : decode cX10_fee 39 = .ok (.iload_n 2, 1) := by decide +kernel
theorem dX10_fee_40 : decode cX10_fee 40 = .ok (.invokevirtual 249, 3) := by decide +kernel
theorem dX10_fee_43 : decode cX10_fee 43 = .ok (.ifCond .ne 5, 3) := by decide +kernel
theorem dX10_fee_46 : decode cX10_fee 46 = .ok (.iconst (-1), 1) := by decide +kernel
theorem dX10_fee_47 : decode cX10_fee 47 = .ok (.ireturn, 1) := by decide +kernel
theorem dX10_fee_48 : decode cX10_fee 48 = .ok (.aload_n 0, 1) := by decide +kernel
theorem dX10_fee_49 : decode cX10_fee 49 = .ok (.getfield 54, 3) := by decide +kernel
theorem dX10_fee_52 : decode cX10_fee 52 = .ok (.aload_n 0, 1) := by decide +kernel
theorem dX10_fee_53 : decode cX10_fee 53 = .ok (.getfield 26, 3) := by decide +kernel
theorem dX10_fee_56 : decode cX10_fee 56 = .ok (.getfield 140, 3) := by decide +kernel
theorem dX10_fee_59 : decode cX10_fee 59 = .ok (.invokevirtual 253, 3) := by decide +kernel
theorem dX10_fee_62 : decode cX10_fee 62 = .ok (.istore 4, 2) := by decide +kernel
theorem dX10_fee_64 : decode cX10_fee 64 = .ok (.iload 4, 2) := by decide +kernel
theorem dX10_fee_66 : decode cX10_fee 66 = .ok (.ifCond .le 32, 3) := by decide +kernel
theorem dX10_fee_69 : decode cX10_fee 69 = .ok (.sipush 1000, 3) := by decide +kernel
theorem dX10_fee_72 : decode cX10_fee 72 = .ok (.aload_n 0, 1) := by decide +kernel
theorem dX10_fee_73 : decode cX10_fee 73 = .ok (.getfield 54, 3) := by decide +kernel
theorem dX10_fee_76 : decode cX10_fee 76 = .ok (.aload_n 0, 1) := by decide +kernel
theorem dX10_fee_77 : decode cX10_fee 77 = .ok (.getfield 19, 3) := by decide +kernel
theorem dX10_fee_80 : decode cX10_fee 80 = .ok (.aload_n 0, 1) := by decide +kernel
theorem dX10_fee_81 : decode cX10_fee 81 = .ok (.getfield 26, 3) := by decide +kernel
theorem dX10_fee_84 : decode cX10_fee 84 = .ok (.getfield 140, 3) := by decide +kernel
theorem dX10_fee_87 : decode cX10_fee 87 = .ok (.iload_n 3, 1) := by decide +kernel
theorem dX10_fee_88 : decode cX10_fee 88 = .ok (.invokevirtual 312, 3) := by decide +kernel
theorem dX10_fee_91 : decode cX10_fee 91 = .ok (.imul, 1) := by decide +kernel
theorem dX10_fee_92 : decode cX10_fee 92 = .ok (.iload 4, 2) := by decide +kernel
theorem dX10_fee_94 : decode cX10_fee 94 = .ok (.idiv, 1) := by decide +kernel
theorem dX10_fee_95 : decode cX10_fee 95 = .ok (.goto 4, 3) := by decide +kernel
theorem dX10_fee_98 : decode cX10_fee 98 = .ok (.iconst (-1), 1) := by decide +kernel
theorem dX10_fee_99 : decode cX10_fee 99 = .ok (.ireturn, 1) := by decide +kernel
set_option maxRecDepth 20000 in
theorem ggX10_owes_X2_hasCounty : GoodIn wsX10_owes wsX2_hasCounty := goodIn_r _ [12, 13, 26, 27, 28, 29, 30, 31, 32, 33, 34, 35, 36, 37, 38] rfl (by decide +kernel)
set_option maxRecDepth 20000 in
theorem gX10_owes_X2_hasCounty : GoodIn wsX10_owes (wsV RX10 309 RX2 yX2_hasCounty wsX2_hasCounty) := goodIn_app (goodIn_of _ (by decide +kernel)) ggX10_owes_X2_hasCounty
theorem dX10_owes_0 : decode cX10_owes 0 = .ok (.aload_n 0, 1) := by decide +kernel
theorem dX10_owes_1 : decode cX10_owes 1 = .ok (.getfield 19, 3) := by decide +kernel
theorem dX10_owes_4 : decode cX10_owes 4 = .ok (.iload_n 1, 1) := by decide +kernel
theorem dX10_owes_5 : decode cX10_owes 5 = .ok (.invokevirtual 309, 3) := by decide +kernel
theorem dX10_owes_8 : decode cX10_owes 8 = .ok (.ifCond .ne 6, 3) := by decide +kernel
theorem dX10_owes_11 : decode cX10_owes 11 = .ok (.ldc 178, 2) := by decide +kernel
theorem dX10_owes_13 : decode cX10_owes 13 = .ok (.ireturn, 1) := by decide +kernel
theorem dX10_owes_14 : decode cX10_owes 14 = .ok (.sipush 1000, 3) := by decide +kernel
theorem dX10_owes_17 : decode cX10_owes 17 = .ok (.istore_n 2, 1) := by decide +kernel
theorem dX10_owes_18 : decode cX10_owes 18 = .ok (.iconst 0, 1) := by decide +kernel
theorem dX10_owes_19 : decode cX10_owes 19 = .ok (.istore_n 3, 1) := by decide +kernel
theorem dX10_owes_20 : decode cX10_owes 20 = .ok (.iload_n 3, 1) := by decide +kernel
theorem dX10_owes_21 : decode cX10_owes 21 = .ok (.aload_n 0, 1) := by decide +kernel
theorem dX10_owes_22 : decode cX10_owes 22 = .ok (.getfield 19, 3) := by decide +kernel
theorem dX10_owes_25 : decode cX10_owes 25 = .ok (.getfield 113, 3) := by decide +kernel
theorem dX10_owes_28 : decode cX10_owes 28 = .ok (.if_icmp .ge 44, 3) := by decide +kernel
theorem dX10_owes_31 : decode cX10_owes 31 = .ok (.aload_n 0, 1) := by decide +kernel
theorem dX10_owes_32 : decode cX10_owes 32 = .ok (.getfield 19, 3) := by decide +kernel
theorem dX10_owes_35 : decode cX10_owes 35 = .ok (.getfield 189, 3) := by decide +kernel
theorem dX10_owes_38 : decode cX10_owes 38 = .ok (.iload_n 3, 1) := by decide +kernel
theorem dX10_owes_39 : decode cX10_owes 39 = .ok (.iaload, 1) := by decide +kernel
theorem dX10_owes_40 : decode cX10_owes 40 = .ok (.iload_n 1, 1) := by decide +kernel
theorem dX10_owes_41 : decode cX10_owes 41 = .ok (.if_icmp .ne 25, 3) := by decide +kernel
theorem dX10_owes_44 : decode cX10_owes 44 = .ok (.iload_n 2, 1) := by decide +kernel
theorem dX10_owes_45 : decode cX10_owes 45 = .ok (.aload_n 0, 1) := by decide +kernel
theorem dX10_owes_46 : decode cX10_owes 46 = .ok (.getfield 26, 3) := by decide +kernel
theorem dX10_owes_49 : decode cX10_owes 49 = .ok (.getfield 140, 3) := by decide +kernel
theorem dX10_owes_52 : decode cX10_owes 52 = .ok (.iload_n 3, 1) := by decide +kernel
theorem dX10_owes_53 : decode cX10_owes 53 = .ok (.iaload, 1) := by decide +kernel
theorem dX10_owes_54 : decode cX10_owes 54 = .ok (.aload_n 0, 1) := by decide +kernel
theorem dX10_owes_55 : decode cX10_owes 55 = .ok (.getfield 19, 3) := by decide +kernel
theorem dX10_owes_58 : decode cX10_owes 58 = .ok (.getfield 185, 3) := by decide +kernel
theorem dX10_owes_61 : decode cX10_owes 61 = .ok (.iload_n 3, 1) := by decide +kernel
theorem dX10_owes_62 : decode cX10_owes 62 = .ok (.iaload, 1) := by decide +kernel
theorem dX10_owes_63 : decode cX10_owes 63 = .ok (.isub, 1) := by decide +kernel
theorem dX10_owes_64 : decode cX10_owes 64 = .ok (.iadd, 1) := by decide +kernel
theorem dX10_owes_65 : decode cX10_owes 65 = .ok (.istore_n 2, 1) := by decide +kernel
theorem dX10_owes_66 : decode cX10_owes 66 = .ok (.iinc 3 1, 3) := by decide +kernel
theorem dX10_owes_69 : decode cX10_owes 69 = .ok (.goto (-49), 3) := by decide +kernel
theorem dX10_owes_72 : decode cX10_owes 72 = .ok (.iload_n 2, 1) := by decide +kernel
theorem dX10_owes_73 : decode cX10_owes 73 = .ok (.ireturn, 1) := by decide +kernel
set_option maxRecDepth 20000 in
theorem ggX10_clash_X2_canBothHold : GoodIn wsX10_clash wsX2_canBothHold := goodIn_r _ [8, 9, 10, 11, 12, 13, 14, 15, 16, 17, 18, 7, 19, 20, 21, 22, 23, 24, 25, 26, 27, 28, 29, 30, 31, 32, 33, 34, 47, 48, 49, 50, 51, 52, 53, 54, 55, 56, 57, 58, 59] rfl (by decide +kernel)
set_option maxRecDepth 20000 in
theorem gX10_clash_X2_canBothHold : GoodIn wsX10_clash (wsV RX10 316 RX2 yX2_canBothHold wsX2_canBothHold) := goodIn_app (goodIn_of _ (by decide +kernel)) ggX10_clash_X2_canBothHold
theorem dX10_clash_0 : decode cX10_clash 0 = .ok (.iconst 0, 1) := by decide +kernel
theorem dX10_clash_1 : decode cX10_clash 1 = .ok (.istore_n 1, 1) := by decide +kernel
theorem dX10_clash_2 : decode cX10_clash 2 = .ok (.iload_n 1, 1) := by decide +kernel
theorem dX10_clash_3 : decode cX10_clash 3 = .ok (.aload_n 0, 1) := by decide +kernel
theorem dX10_clash_4 : decode cX10_clash 4 = .ok (.getfield 19, 3) := by decide +kernel
theorem dX10_clash_7 : decode cX10_clash 7 = .ok (.getfield 128, 3) := by decide +kernel
theorem dX10_clash_10 : decode cX10_clash 10 = .ok (.if_icmp .ge 70, 3) := by decide +kernel
theorem dX10_clash_13 : decode cX10_clash 13 = .ok (.iload_n 1, 1) := by decide +kernel
theorem dX10_clash_14 : decode cX10_clash 14 = .ok (.iconst 1, 1) := by decide +kernel
theorem dX10_clash_15 : decode cX10_clash 15 = .ok (.iadd, 1) := by decide +kernel
theorem dX10_clash_16 : decode cX10_clash 16 = .ok (.istore_n 2, 1) := by decide +kernel
theorem dX10_clash_17 : decode cX10_clash 17 = .ok (.iload_n 2, 1) := by decide +kernel
theorem dX10_clash_18 : decode cX10_clash 18 = .ok (.aload_n 0, 1) := by decide +kernel
theorem dX10_clash_19 : decode cX10_clash 19 = .ok (.getfield 19, 3) := by decide +kernel
theorem dX10_clash_22 : decode cX10_clash 22 = .ok (.getfield 128, 3) := by decide +kernel
theorem dX10_clash_25 : decode cX10_clash 25 = .ok (.if_icmp .ge 49, 3) := by decide +kernel
theorem dX10_clash_28 : decode cX10_clash 28 = .ok (.aload_n 0, 1) := by decide +kernel
theorem dX10_clash_29 : decode cX10_clash 29 = .ok (.getfield 19, 3) := by decide +kernel
theorem dX10_clash_32 : decode cX10_clash 32 = .ok (.getfield 198, 3) := by decide +kernel
theorem dX10_clash_35 : decode cX10_clash 35 = .ok (.iload_n 1, 1) := by decide +kernel
theorem dX10_clash_36 : decode cX10_clash 36 = .ok (.iaload, 1) := by decide +kernel
theorem dX10_clash_37 : decode cX10_clash 37 = .ok (.aload_n 0, 1) := by decide +kernel
theorem dX10_clash_38 : decode cX10_clash 38 = .ok (.getfield 19, 3) := by decide +kernel
theorem dX10_clash_41 : decode cX10_clash 41 = .ok (.getfield 198, 3) := by decide +kernel
theorem dX10_clash_44 : decode cX10_clash 44 = .ok (.iload_n 2, 1) := by decide +kernel
theorem dX10_clash_45 : decode cX10_clash 45 = .ok (.iaload, 1) := by decide +kernel
theorem dX10_clash_46 : decode cX10_clash 46 = .ok (.if_icmp .ne 22, 3) := by decide +kernel
theorem dX10_clash_49 : decode cX10_clash 49 = .ok (.aload_n 0, 1) := by decide +kernel
theorem dX10_clash_50 : decode cX10_clash 50 = .ok (.getfield 19, 3) := by decide +kernel
theorem dX10_clash_53 : decode cX10_clash 53 = .ok (.iload_n 1, 1) := by decide +kernel
theorem dX10_clash_54 : decode cX10_clash 54 = .ok (.iload_n 2, 1) := by decide +kernel
theorem dX10_clash_55 : decode cX10_clash 55 = .ok (.invokevirtual 316, 3) := by decide +kernel
theorem dX10_clash_58 : decode cX10_clash 58 = .ok (.ifCond .ne 10, 3) := by decide +kernel
theorem dX10_clash_61 : decode cX10_clash 61 = .ok (.bipush 10, 2) := by decide +kernel
theorem dX10_clash_63 : decode cX10_clash 63 = .ok (.iload_n 1, 1) := by decide +kernel
theorem dX10_clash_64 : decode cX10_clash 64 = .ok (.imul, 1) := by decide +kernel
theorem dX10_clash_65 : decode cX10_clash 65 = .ok (.iload_n 2, 1) := by decide +kernel
theorem dX10_clash_66 : decode cX10_clash 66 = .ok (.iadd, 1) := by decide +kernel
theorem dX10_clash_67 : decode cX10_clash 67 = .ok (.ireturn, 1) := by decide +kernel
theorem dX10_clash_68 : decode cX10_clash 68 = .ok (.iinc 2 1, 3) := by decide +kernel
theorem dX10_clash_71 : decode cX10_clash 71 = .ok (.goto (-54), 3) := by decide +kernel
theorem dX10_clash_74 : decode cX10_clash 74 = .ok (.iinc 1 1, 3) := by decide +kernel
theorem dX10_clash_77 : decode cX10_clash 77 = .ok (.goto (-75), 3) := by decide +kernel
theorem dX10_clash_80 : decode cX10_clash 80 = .ok (.iconst (-1), 1) := by decide +kernel
theorem dX10_clash_81 : decode cX10_clash 81 = .ok (.ireturn, 1) := by decide +kernel
set_option maxRecDepth 20000 in
theorem ggX10_rate_X10_areTowns : GoodIn wsX10_rate wsX10_areTowns := goodIn_r _ [10, 3, 11, 12, 13, 14, 15, 16, 40, 41, 42, 43, 44, 45, 46, 47, 48, 49, 50, 51, 58, 59, 60, 61, 62, 63, 64, 65, 66, 67, 68, 69, 70] rfl (by decide +kernel)
set_option maxRecDepth 20000 in
theorem gX10_rate_X10_areTowns : GoodIn wsX10_rate (wsV RX10 242 RX10 yX10_areTowns wsX10_areTowns) := goodIn_app (goodIn_of _ (by decide +kernel)) ggX10_rate_X10_areTowns
set_option maxRecDepth 20000 in
theorem ggX10_rate_X9_least : GoodIn wsX10_rate wsX9_least := goodIn_r _ [21, 22, 23, 24, 25, 26, 20, 27, 28, 29, 30, 31, 32, 33, 34, 35, 36, 37, 38, 39, 71, 72, 73, 58, 59, 60, 61, 62, 63, 64, 65, 66, 67, 68, 69, 70] rfl (by decide +kernel)
set_option maxRecDepth 20000 in
theorem gX10_rate_X9_least : GoodIn wsX10_rate (wsV RX10 245 RX9 yX9_least wsX9_least) := goodIn_app (goodIn_of _ (by decide +kernel)) ggX10_rate_X9_least
theorem dX10_rate_0 : decode cX10_rate 0 = .ok (.aload_n 0, 1) := by decide +kernel
theorem dX10_rate_1 : decode cX10_rate 1 = .ok (.iload_n 1, 1) := by decide +kernel
theorem dX10_rate_2 : decode cX10_rate 2 = .ok (.iload_n 2, 1) := by decide +kernel
theorem dX10_rate_3 : decode cX10_rate 3 = .ok (.invokevirtual 242, 3) := by decide +kernel
theorem dX10_rate_6 : decode cX10_rate 6 = .ok (.ifCond .ne 6, 3) := by decide +kernel
theorem dX10_rate_9 : decode cX10_rate 9 = .ok (.ldc 178, 2) := by decide +kernel
theorem dX10_rate_11 : decode cX10_rate 11 = .ok (.ireturn, 1) := by decide +kernel
theorem dX10_rate_12 : decode cX10_rate 12 = .ok (.aload_n 0, 1) := by decide +kernel
theorem dX10_rate_13 : decode cX10_rate 13 = .ok (.getfield 54, 3) := by decide +kernel
theorem dX10_rate_16 : decode cX10_rate 16 = .ok (.aload_n 0, 1) := by decide +kernel
theorem dX10_rate_17 : decode cX10_rate 17 = .ok (.getfield 19, 3) := by decide +kernel
theorem dX10_rate_20 : decode cX10_rate 20 = .ok (.aload_n 0, 1) := by decide +kernel
theorem dX10_rate_21 : decode cX10_rate 21 = .ok (.getfield 26, 3) := by decide +kernel
theorem dX10_rate_24 : decode cX10_rate 24 = .ok (.getfield 140, 3) := by decide +kernel
theorem dX10_rate_27 : decode cX10_rate 27 = .ok (.iload_n 1, 1) := by decide +kernel
theorem dX10_rate_28 : decode cX10_rate 28 = .ok (.iload_n 2, 1) := by decide +kernel
theorem dX10_rate_29 : decode cX10_rate 29 = .ok (.invokevirtual 245, 3) := by decide +kernel
theorem dX10_rate_32 : decode cX10_rate 32 = .ok (.istore_n 3, 1) := by decide +kernel
theorem dX10_rate_33 : decode cX10_rate 33 = .ok (.iload_n 3, 1) := by decide +kernel
theorem dX10_rate_34 : decode cX10_rate 34 = .ok (.iconst (-1), 1) := by decide +kernel
theorem dX10_rate_35 : decode cX10_rate 35 = .ok (.if_icmp .ne 7, 3) := by decide +kernel
theorem dX10_rate_38 : decode cX10_rate 38 = .ok (.iconst (-1), 1) := by decide +kernel
theorem dX10_rate_39 : decode cX10_rate 39 = .ok (.goto 11, 3) := by decide +kernel
theorem dX10_rate_42 : decode cX10_rate 42 = .ok (.iconst 2, 1) := by decide +kernel
theorem dX10_rate_43 : decode cX10_rate 43 = .ok (.iload_n 3, 1) := by decide +kernel
theorem dX10_rate_44 : decode cX10_rate 44 = .ok (.iconst 1, 1) := by decide +kernel
theorem dX10_rate_45 : decode cX10_rate 45 = .ok (.isub, 1) := by decide +kernel
theorem dX10_rate_46 : decode cX10_rate 46 = .ok (.bipush 10, 2) := by decide +kernel
theorem dX10_rate_48 : decode cX10_rate 48 = .ok (.idiv, 1) := by decide +kernel
theorem dX10_rate_49 : decode cX10_rate 49 = .ok (.iadd, 1) := by decide +kernel
theorem dX10_rate_50 : decode cX10_rate 50 = .ok (.ireturn, 1) := by decide +kernel
set_option maxRecDepth 20000 in
theorem ggX10_journey_X2_allRoads : GoodIn wsX10_journey wsX2_allRoads := goodIn_r _ [11, 12, 41, 42, 43, 44, 45, 46, 47, 48, 49, 50, 51, 52, 53] rfl (by decide +kernel)
set_option maxRecDepth 20000 in
theorem gX10_journey_X2_allRoads : GoodIn wsX10_journey (wsV RX10 156 RX2 yX2_allRoads wsX2_allRoads) := goodIn_app (goodIn_of _ (by decide +kernel)) ggX10_journey_X2_allRoads
set_option maxRecDepth 20000 in
theorem ggX10_journey_X5_addJourney : GoodIn wsX10_journey wsX5_addJourney := goodIn_r _ [17, 18, 19, 20, 33, 34, 35, 36, 37, 38, 39, 40] rfl (by decide +kernel)
set_option maxRecDepth 20000 in
theorem gX10_journey_X5_addJourney : GoodIn wsX10_journey (wsV RX10 319 RX5 yX5_addJourney wsX5_addJourney) := goodIn_app (goodIn_of _ (by decide +kernel)) ggX10_journey_X5_addJourney
theorem dX10_journey_0 : decode cX10_journey 0 = .ok (.iload_n 1, 1) := by decide +kernel
theorem dX10_journey_1 : decode cX10_journey 1 = .ok (.aload_n 0, 1) := by decide +kernel
theorem dX10_journey_2 : decode cX10_journey 2 = .ok (.getfield 19, 3) := by decide +kernel
theorem dX10_journey_5 : decode cX10_journey 5 = .ok (.invokevirtual 156, 3) := by decide +kernel
theorem dX10_journey_8 : decode cX10_journey 8 = .ok (.iconst (-1), 1) := by decide +kernel
theorem dX10_journey_9 : decode cX10_journey 9 = .ok (.ixor, 1) := by decide +kernel
theorem dX10_journey_10 : decode cX10_journey 10 = .ok (.iand, 1) := by decide +kernel
theorem dX10_journey_11 : decode cX10_journey 11 = .ok (.ifCond .eq 6, 3) := by decide +kernel
theorem dX10_journey_14 : decode cX10_journey 14 = .ok (.ldc 178, 2) := by decide +kernel
theorem dX10_journey_16 : decode cX10_journey 16 = .ok (.ireturn, 1) := by decide +kernel
theorem dX10_journey_17 : decode cX10_journey 17 = .ok (.iload_n 2, 1) := by decide +kernel
theorem dX10_journey_18 : decode cX10_journey 18 = .ok (.ifCond .lt 10, 3) := by decide +kernel
theorem dX10_journey_21 : decode cX10_journey 21 = .ok (.iload_n 2, 1) := by decide +kernel
theorem dX10_journey_22 : decode cX10_journey 22 = .ok (.sipush 999, 3) := by decide +kernel
theorem dX10_journey_25 : decode cX10_journey 25 = .ok (.if_icmp .le 6, 3) := by decide +kernel
theorem dX10_journey_28 : decode cX10_journey 28 = .ok (.ldc 83, 2) := by decide +kernel
theorem dX10_journey_30 : decode cX10_journey 30 = .ok (.ireturn, 1) := by decide +kernel
theorem dX10_journey_31 : decode cX10_journey 31 = .ok (.aload_n 0, 1) := by decide +kernel
theorem dX10_journey_32 : decode cX10_journey 32 = .ok (.getfield 47, 3) := by decide +kernel
theorem dX10_journey_35 : decode cX10_journey 35 = .ok (.iload_n 1, 1) := by decide +kernel
theorem dX10_journey_36 : decode cX10_journey 36 = .ok (.iload_n 2, 1) := by decide +kernel
theorem dX10_journey_37 : decode cX10_journey 37 = .ok (.invokevirtual 319, 3) := by decide +kernel
theorem dX10_journey_40 : decode cX10_journey 40 = .ok (.ifCond .eq 13, 3) := by decide +kernel
theorem dX10_journey_43 : decode cX10_journey 43 = .ok (.aload_n 0, 1) := by decide +kernel
theorem dX10_journey_44 : decode cX10_journey 44 = .ok (.getfield 47, 3) := by decide +kernel
theorem dX10_journey_47 : decode cX10_journey 47 = .ok (.getfield 163, 3) := by decide +kernel
theorem dX10_journey_50 : decode cX10_journey 50 = .ok (.goto 5, 3) := by decide +kernel
theorem dX10_journey_53 : decode cX10_journey 53 = .ok (.ldc 92, 2) := by decide +kernel
theorem dX10_journey_55 : decode cX10_journey 55 = .ok (.ireturn, 1) := by decide +kernel
set_option maxRecDepth 20000 in
theorem ggX10_liars_X5_weigh : GoodIn wsX10_liars wsX5_weigh := goodIn_r _ [9, 10, 11, 12, 13, 14, 15, 16, 17, 18, 19, 20, 58, 59, 60, 61, 62, 63, 64, 65, 45, 46, 47, 48, 49, 50, 51, 52, 53, 54, 55, 56, 57] rfl (by decide +kernel)
set_option maxRecDepth 20000 in
theorem gX10_liars_X5_weigh : GoodIn wsX10_liars (wsV RX10 322 RX5 yX5_weigh wsX5_weigh) := goodIn_app (goodIn_of _ (by decide +kernel)) ggX10_liars_X5_weigh
set_option maxRecDepth 20000 in
theorem ggX10_liars_X5_allAsTold : GoodIn wsX10_liars wsX5_allAsTold := goodIn_r _ [24, 10, 11, 58, 59, 60, 61, 62, 63, 64, 65] rfl (by decide +kernel)
set_option maxRecDepth 20000 in
theorem gX10_liars_X5_allAsTold : GoodIn wsX10_liars (wsV RX10 325 RX5 yX5_allAsTold wsX5_allAsTold) := goodIn_app (goodIn_of _ (by decide +kernel)) ggX10_liars_X5_allAsTold
set_option maxRecDepth 20000 in
theorem ggX10_liars_X5_leastFit : GoodIn wsX10_liars wsX5_leastFit := goodIn_r _ [28, 29, 30, 31, 8, 32, 10, 11, 13, 58, 59, 60, 61, 62, 63, 64, 65] rfl (by decide +kernel)
set_option maxRecDepth 20000 in
theorem gX10_liars_X5_leastFit : GoodIn wsX10_liars (wsV RX10 329 RX5 yX5_leastFit wsX5_leastFit) := goodIn_app (goodIn_of _ (by decide +kernel)) ggX10_liars_X5_leastFit
theorem dX10_liars_0 : decode cX10_liars 0 = .ok (.aload_n 0, 1) := by decide +kernel
theorem dX10_liars_1 : decode cX10_liars 1 = .ok (.getfield 47, 3) := by decide +kernel
theorem dX10_liars_4 : decode cX10_liars 4 = .ok (.aload_n 0, 1) := by decide +kernel
theorem dX10_liars_5 : decode cX10_liars 5 = .ok (.getfield 19, 3) := by decide +kernel
theorem dX10_liars_8 : decode cX10_liars 8 = .ok (.invokevirtual 322, 3) := by decide +kernel
theorem dX10_liars_11 : decode cX10_liars 11 = .ok (.aload_n 0, 1) := by decide +kernel
theorem dX10_liars_12 : decode cX10_liars 12 = .ok (.getfield 47, 3) := by decide +kernel
theorem dX10_liars_15 : decode cX10_liars 15 = .ok (.invokevirtual 325, 3) := by decide +kernel
theorem dX10_liars_18 : decode cX10_liars 18 = .ok (.ifCond .eq 5, 3) := by decide +kernel
theorem dX10_liars_21 : decode cX10_liars 21 = .ok (.iconst 0, 1) := by decide +kernel
theorem dX10_liars_22 : decode cX10_liars 22 = .ok (.ireturn, 1) := by decide +kernel
theorem dX10_liars_23 : decode cX10_liars 23 = .ok (.iconst 0, 1) := by decide +kernel
theorem dX10_liars_24 : decode cX10_liars 24 = .ok (.istore_n 1, 1) := by decide +kernel
theorem dX10_liars_25 : decode cX10_liars 25 = .ok (.iconst 0, 1) := by decide +kernel
theorem dX10_liars_26 : decode cX10_liars 26 = .ok (.istore_n 2, 1) := by decide +kernel
theorem dX10_liars_27 : decode cX10_liars 27 = .ok (.iload_n 2, 1) := by decide +kernel
theorem dX10_liars_28 : decode cX10_liars 28 = .ok (.aload_n 0, 1) := by decide +kernel
theorem dX10_liars_29 : decode cX10_liars 29 = .ok (.getfield 19, 3) := by decide +kernel
theorem dX10_liars_32 : decode cX10_liars 32 = .ok (.getfield 113, 3) := by decide +kernel
theorem dX10_liars_35 : decode cX10_liars 35 = .ok (.if_icmp .ge 36, 3) := by decide +kernel
theorem dX10_liars_38 : decode cX10_liars 38 = .ok (.aload_n 0, 1) := by decide +kernel
theorem dX10_liars_39 : decode cX10_liars 39 = .ok (.getfield 47, 3) := by decide +kernel
theorem dX10_liars_42 : decode cX10_liars 42 = .ok (.iload_n 2, 1) := by decide +kernel
theorem dX10_liars_43 : decode cX10_liars 43 = .ok (.aload_n 0, 1) := by decide +kernel
theorem dX10_liars_44 : decode cX10_liars 44 = .ok (.getfield 19, 3) := by decide +kernel
theorem dX10_liars_47 : decode cX10_liars 47 = .ok (.getfield 185, 3) := by decide +kernel
theorem dX10_liars_50 : decode cX10_liars 50 = .ok (.iload_n 2, 1) := by decide +kernel
theorem dX10_liars_51 : decode cX10_liars 51 = .ok (.iaload, 1) := by decide +kernel
theorem dX10_liars_52 : decode cX10_liars 52 = .ok (.invokevirtual 329, 3) := by decide +kernel
theorem dX10_liars_55 : decode cX10_liars 55 = .ok (.iconst (-1), 1) := by decide +kernel
theorem dX10_liars_56 : decode cX10_liars 56 = .ok (.if_icmp .eq 9, 3) := by decide +kernel
theorem dX10_liars_59 : decode cX10_liars 59 = .ok (.iload_n 1, 1) := by decide +kernel
theorem dX10_liars_60 : decode cX10_liars 60 = .ok (.iconst 1, 1) := by decide +kernel
theorem dX10_liars_61 : decode cX10_liars 61 = .ok (.iload_n 2, 1) := by decide +kernel
theorem dX10_liars_62 : decode cX10_liars 62 = .ok (.ishl, 1) := by decide +kernel
theorem dX10_liars_63 : decode cX10_liars 63 = .ok (.ior, 1) := by decide +kernel
theorem dX10_liars_64 : decode cX10_liars 64 = .ok (.istore_n 1, 1) := by decide +kernel
theorem dX10_liars_65 : decode cX10_liars 65 = .ok (.iinc 2 1, 3) := by decide +kernel
theorem dX10_liars_68 : decode cX10_liars 68 = .ok (.goto (-41), 3) := by decide +kernel
theorem dX10_liars_71 : decode cX10_liars 71 = .ok (.iload_n 1, 1) := by decide +kernel
theorem dX10_liars_72 : decode cX10_liars 72 = .ok (.ireturn, 1) := by decide +kernel
set_option maxRecDepth 20000 in
theorem ggX10_fits_X2_hasRoad : GoodIn wsX10_fits wsX2_hasRoad := goodIn_r _ [10, 11, 50, 51, 52, 53, 54, 55, 56, 57, 58, 59, 60, 61, 62] rfl (by decide +kernel)
set_option maxRecDepth 20000 in
theorem gX10_fits_X2_hasRoad : GoodIn wsX10_fits (wsV RX10 175 RX2 yX2_hasRoad wsX2_hasRoad) := goodIn_app (goodIn_of _ (by decide +kernel)) ggX10_fits_X2_hasRoad
set_option maxRecDepth 20000 in
theorem ggX10_fits_X5_weigh : GoodIn wsX10_fits wsX5_weigh := goodIn_r _ [16, 17, 18, 19, 20, 21, 22, 23, 24, 9, 25, 11, 63, 64, 65, 66, 67, 68, 69, 70, 50, 51, 52, 53, 54, 55, 56, 57, 58, 59, 60, 61, 62] rfl (by decide +kernel)
set_option maxRecDepth 20000 in
theorem gX10_fits_X5_weigh : GoodIn wsX10_fits (wsV RX10 322 RX5 yX5_weigh wsX5_weigh) := goodIn_app (goodIn_of _ (by decide +kernel)) ggX10_fits_X5_weigh
set_option maxRecDepth 20000 in
theorem ggX10_fits_X5_countFits : GoodIn wsX10_fits wsX5_countFits := goodIn_r _ [29, 30, 31, 32, 15, 33, 17, 18, 20, 63, 64, 65, 66, 67, 68, 69, 70] rfl (by decide +kernel)
set_option maxRecDepth 20000 in
theorem gX10_fits_X5_countFits : GoodIn wsX10_fits (wsV RX10 333 RX5 yX5_countFits wsX5_countFits) := goodIn_app (goodIn_of _ (by decide +kernel)) ggX10_fits_X5_countFits
set_option maxRecDepth 20000 in
theorem ggX10_fits_X5_leastFit : GoodIn wsX10_fits wsX5_leastFit := goodIn_r _ [37, 30, 31, 32, 15, 33, 17, 18, 20, 63, 64, 65, 66, 67, 68, 69, 70] rfl (by decide +kernel)
set_option maxRecDepth 20000 in
theorem gX10_fits_X5_leastFit : GoodIn wsX10_fits (wsV RX10 329 RX5 yX5_leastFit wsX5_leastFit) := goodIn_app (goodIn_of _ (by decide +kernel)) ggX10_fits_X5_leastFit
theorem dX10_fits_0 : decode cX10_fits 0 = .ok (.aload_n 0, 1) := by decide +kernel
theorem dX10_fits_1 : decode cX10_fits 1 = .ok (.getfield 19, 3) := by decide +kernel
theorem dX10_fits_4 : decode cX10_fits 4 = .ok (.iload_n 1, 1) := by decide +kernel
theorem dX10_fits_5 : decode cX10_fits 5 = .ok (.invokevirtual 175, 3) := by decide +kernel
theorem dX10_fits_8 : decode cX10_fits 8 = .ok (.ifCond .ne 6, 3) := by decide +kernel
