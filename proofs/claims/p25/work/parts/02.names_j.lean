theorem dX10_fits_11 : decode cX10_fits 11 = .ok (.ldc 178, 2) := by decide +kernel
theorem dX10_fits_13 : decode cX10_fits 13 = .ok (.ireturn, 1) := by decide +kernel
theorem dX10_fits_14 : decode cX10_fits 14 = .ok (.iload_n 2, 1) := by decide +kernel
theorem dX10_fits_15 : decode cX10_fits 15 = .ok (.ifCond .eq 11, 3) := by decide +kernel
theorem dX10_fits_18 : decode cX10_fits 18 = .ok (.iload_n 2, 1) := by decide +kernel
theorem dX10_fits_19 : decode cX10_fits 19 = .ok (.iconst 1, 1) := by decide +kernel
theorem dX10_fits_20 : decode cX10_fits 20 = .ok (.if_icmp .eq 6, 3) := by decide +kernel
theorem dX10_fits_23 : decode cX10_fits 23 = .ok (.ldc 83, 2) := by decide +kernel
theorem dX10_fits_25 : decode cX10_fits 25 = .ok (.ireturn, 1) := by decide +kernel
theorem dX10_fits_26 : decode cX10_fits 26 = .ok (.aload_n 0, 1) := by decide +kernel
theorem dX10_fits_27 : decode cX10_fits 27 = .ok (.getfield 47, 3) := by decide +kernel
theorem dX10_fits_30 : decode cX10_fits 30 = .ok (.aload_n 0, 1) := by decide +kernel
theorem dX10_fits_31 : decode cX10_fits 31 = .ok (.getfield 19, 3) := by decide +kernel
theorem dX10_fits_34 : decode cX10_fits 34 = .ok (.invokevirtual 322, 3) := by decide +kernel
theorem dX10_fits_37 : decode cX10_fits 37 = .ok (.iload_n 2, 1) := by decide +kernel
theorem dX10_fits_38 : decode cX10_fits 38 = .ok (.ifCond .ne 23, 3) := by decide +kernel
theorem dX10_fits_41 : decode cX10_fits 41 = .ok (.aload_n 0, 1) := by decide +kernel
theorem dX10_fits_42 : decode cX10_fits 42 = .ok (.getfield 47, 3) := by decide +kernel
theorem dX10_fits_45 : decode cX10_fits 45 = .ok (.iload_n 1, 1) := by decide +kernel
theorem dX10_fits_46 : decode cX10_fits 46 = .ok (.aload_n 0, 1) := by decide +kernel
theorem dX10_fits_47 : decode cX10_fits 47 = .ok (.getfield 19, 3) := by decide +kernel
theorem dX10_fits_50 : decode cX10_fits 50 = .ok (.getfield 185, 3) := by decide +kernel
theorem dX10_fits_53 : decode cX10_fits 53 = .ok (.iload_n 1, 1) := by decide +kernel
theorem dX10_fits_54 : decode cX10_fits 54 = .ok (.iaload, 1) := by decide +kernel
theorem dX10_fits_55 : decode cX10_fits 55 = .ok (.invokevirtual 333, 3) := by decide +kernel
theorem dX10_fits_58 : decode cX10_fits 58 = .ok (.goto 20, 3) := by decide +kernel
theorem dX10_fits_61 : decode cX10_fits 61 = .ok (.aload_n 0, 1) := by decide +kernel
theorem dX10_fits_62 : decode cX10_fits 62 = .ok (.getfield 47, 3) := by decide +kernel
theorem dX10_fits_65 : decode cX10_fits 65 = .ok (.iload_n 1, 1) := by decide +kernel
theorem dX10_fits_66 : decode cX10_fits 66 = .ok (.aload_n 0, 1) := by decide +kernel
theorem dX10_fits_67 : decode cX10_fits 67 = .ok (.getfield 19, 3) := by decide +kernel
theorem dX10_fits_70 : decode cX10_fits 70 = .ok (.getfield 185, 3) := by decide +kernel
theorem dX10_fits_73 : decode cX10_fits 73 = .ok (.iload_n 1, 1) := by decide +kernel
theorem dX10_fits_74 : decode cX10_fits 74 = .ok (.iaload, 1) := by decide +kernel
theorem dX10_fits_75 : decode cX10_fits 75 = .ok (.invokevirtual 329, 3) := by decide +kernel
theorem dX10_fits_78 : decode cX10_fits 78 = .ok (.ireturn, 1) := by decide +kernel
set_option maxRecDepth 20000 in
theorem ggX10_write_X2_hasRoad : GoodIn wsX10_write wsX2_hasRoad := goodIn_r _ [11, 12, 45, 46, 47, 48, 49, 50, 51, 52, 53, 54, 55, 56, 57] rfl (by decide +kernel)
set_option maxRecDepth 20000 in
theorem gX10_write_X2_hasRoad : GoodIn wsX10_write (wsV RX10 175 RX2 yX2_hasRoad wsX2_hasRoad) := goodIn_app (goodIn_of _ (by decide +kernel)) ggX10_write_X2_hasRoad
set_option maxRecDepth 20000 in
theorem ggX10_write_X10_isMiles : GoodIn wsX10_write wsX10_isMiles := goodIn_r _ [16] rfl (by decide +kernel)
set_option maxRecDepth 20000 in
theorem gX10_write_X10_isMiles : GoodIn wsX10_write (va_wsS RX10 208 yX10_isMiles wsX10_isMiles) := goodIn_app (goodIn_of _ (by decide +kernel)) ggX10_write_X10_isMiles
set_option maxRecDepth 20000 in
theorem ggX10_write_X5_addEntry : GoodIn wsX10_write wsX5_addEntry := goodIn_r _ [21, 22, 23, 24, 37, 38, 39, 40, 41, 42, 43, 44] rfl (by decide +kernel)
set_option maxRecDepth 20000 in
theorem gX10_write_X5_addEntry : GoodIn wsX10_write (wsV RX10 336 RX5 yX5_addEntry wsX5_addEntry) := goodIn_app (goodIn_of _ (by decide +kernel)) ggX10_write_X5_addEntry
theorem dX10_write_0 : decode cX10_write 0 = .ok (.aload_n 0, 1) := by decide +kernel
theorem dX10_write_1 : decode cX10_write 1 = .ok (.getfield 19, 3) := by decide +kernel
theorem dX10_write_4 : decode cX10_write 4 = .ok (.iload_n 1, 1) := by decide +kernel
theorem dX10_write_5 : decode cX10_write 5 = .ok (.invokevirtual 175, 3) := by decide +kernel
theorem dX10_write_8 : decode cX10_write 8 = .ok (.ifCond .ne 6, 3) := by decide +kernel
theorem dX10_write_11 : decode cX10_write 11 = .ok (.ldc 178, 2) := by decide +kernel
theorem dX10_write_13 : decode cX10_write 13 = .ok (.ireturn, 1) := by decide +kernel
theorem dX10_write_14 : decode cX10_write 14 = .ok (.iload_n 2, 1) := by decide +kernel
theorem dX10_write_15 : decode cX10_write 15 = .ok (.invokestatic 208, 3) := by decide +kernel
theorem dX10_write_18 : decode cX10_write 18 = .ok (.ifCond .ne 6, 3) := by decide +kernel
theorem dX10_write_21 : decode cX10_write 21 = .ok (.ldc 83, 2) := by decide +kernel
theorem dX10_write_23 : decode cX10_write 23 = .ok (.ireturn, 1) := by decide +kernel
theorem dX10_write_24 : decode cX10_write 24 = .ok (.aload_n 0, 1) := by decide +kernel
theorem dX10_write_25 : decode cX10_write 25 = .ok (.getfield 47, 3) := by decide +kernel
theorem dX10_write_28 : decode cX10_write 28 = .ok (.iload_n 1, 1) := by decide +kernel
theorem dX10_write_29 : decode cX10_write 29 = .ok (.iload_n 2, 1) := by decide +kernel
theorem dX10_write_30 : decode cX10_write 30 = .ok (.invokevirtual 336, 3) := by decide +kernel
theorem dX10_write_33 : decode cX10_write 33 = .ok (.ifCond .eq 13, 3) := by decide +kernel
theorem dX10_write_36 : decode cX10_write 36 = .ok (.aload_n 0, 1) := by decide +kernel
theorem dX10_write_37 : decode cX10_write 37 = .ok (.getfield 47, 3) := by decide +kernel
theorem dX10_write_40 : decode cX10_write 40 = .ok (.getfield 166, 3) := by decide +kernel
theorem dX10_write_43 : decode cX10_write 43 = .ok (.goto 5, 3) := by decide +kernel
theorem dX10_write_46 : decode cX10_write 46 = .ok (.ldc 92, 2) := by decide +kernel
theorem dX10_write_48 : decode cX10_write 48 = .ok (.ireturn, 1) := by decide +kernel
set_option maxRecDepth 20000 in
theorem ggX10_tear_X5_clear : GoodIn wsX10_tear wsX5_clear := goodIn_r _ [8, 9, 10, 11, 12, 13, 14, 15, 28, 29, 30, 31, 32, 33, 34, 35] rfl (by decide +kernel)
set_option maxRecDepth 20000 in
theorem gX10_tear_X5_clear : GoodIn wsX10_tear (wsV RX10 105 RX5 yX5_clear wsX5_clear) := goodIn_app (goodIn_of _ (by decide +kernel)) ggX10_tear_X5_clear
theorem dX10_tear_0 : decode cX10_tear 0 = .ok (.aload_n 0, 1) := by decide +kernel
theorem dX10_tear_1 : decode cX10_tear 1 = .ok (.getfield 47, 3) := by decide +kernel
theorem dX10_tear_4 : decode cX10_tear 4 = .ok (.getfield 163, 3) := by decide +kernel
theorem dX10_tear_7 : decode cX10_tear 7 = .ok (.aload_n 0, 1) := by decide +kernel
theorem dX10_tear_8 : decode cX10_tear 8 = .ok (.getfield 47, 3) := by decide +kernel
theorem dX10_tear_11 : decode cX10_tear 11 = .ok (.getfield 166, 3) := by decide +kernel
theorem dX10_tear_14 : decode cX10_tear 14 = .ok (.iadd, 1) := by decide +kernel
theorem dX10_tear_15 : decode cX10_tear 15 = .ok (.istore_n 1, 1) := by decide +kernel
theorem dX10_tear_16 : decode cX10_tear 16 = .ok (.aload_n 0, 1) := by decide +kernel
theorem dX10_tear_17 : decode cX10_tear 17 = .ok (.getfield 47, 3) := by decide +kernel
theorem dX10_tear_20 : decode cX10_tear 20 = .ok (.invokevirtual 105, 3) := by decide +kernel
theorem dX10_tear_23 : decode cX10_tear 23 = .ok (.iload_n 1, 1) := by decide +kernel
theorem dX10_tear_24 : decode cX10_tear 24 = .ok (.ireturn, 1) := by decide +kernel
set_option maxRecDepth 20000 in
theorem ggX10_judge_X5_firstWrong : GoodIn wsX10_judge wsX5_firstWrong := goodIn_r _ [8, 9, 10, 11, 30, 31, 32, 33, 34, 35, 36, 37] rfl (by decide +kernel)
set_option maxRecDepth 20000 in
theorem gX10_judge_X5_firstWrong : GoodIn wsX10_judge (wsV RX10 339 RX5 yX5_firstWrong wsX5_firstWrong) := goodIn_app (goodIn_of _ (by decide +kernel)) ggX10_judge_X5_firstWrong
theorem dX10_judge_0 : decode cX10_judge 0 = .ok (.aload_n 0, 1) := by decide +kernel
theorem dX10_judge_1 : decode cX10_judge 1 = .ok (.getfield 47, 3) := by decide +kernel
theorem dX10_judge_4 : decode cX10_judge 4 = .ok (.aload_n 0, 1) := by decide +kernel
theorem dX10_judge_5 : decode cX10_judge 5 = .ok (.getfield 26, 3) := by decide +kernel
theorem dX10_judge_8 : decode cX10_judge 8 = .ok (.getfield 140, 3) := by decide +kernel
theorem dX10_judge_11 : decode cX10_judge 11 = .ok (.invokevirtual 339, 3) := by decide +kernel
theorem dX10_judge_14 : decode cX10_judge 14 = .ok (.ireturn, 1) := by decide +kernel
theorem dX10_seed_0 : decode cX10_seed 0 = .ok (.iload_n 1, 1) := by decide +kernel
theorem dX10_seed_1 : decode cX10_seed 1 = .ok (.ifCond .ge 6, 3) := by decide +kernel
theorem dX10_seed_4 : decode cX10_seed 4 = .ok (.ldc 83, 2) := by decide +kernel
theorem dX10_seed_6 : decode cX10_seed 6 = .ok (.ireturn, 1) := by decide +kernel
theorem dX10_seed_7 : decode cX10_seed 7 = .ok (.aload_n 0, 1) := by decide +kernel
theorem dX10_seed_8 : decode cX10_seed 8 = .ok (.getfield 342, 3) := by decide +kernel
theorem dX10_seed_11 : decode cX10_seed 11 = .ok (.istore_n 2, 1) := by decide +kernel
theorem dX10_seed_12 : decode cX10_seed 12 = .ok (.aload_n 0, 1) := by decide +kernel
theorem dX10_seed_13 : decode cX10_seed 13 = .ok (.iload_n 1, 1) := by decide +kernel
theorem dX10_seed_14 : decode cX10_seed 14 = .ok (.putfield 342, 3) := by decide +kernel
theorem dX10_seed_17 : decode cX10_seed 17 = .ok (.iload_n 2, 1) := by decide +kernel
theorem dX10_seed_18 : decode cX10_seed 18 = .ok (.ireturn, 1) := by decide +kernel
set_option maxRecDepth 20000 in
theorem ggX10_keep_X8_copy : GoodIn wsX10_keep wsX8_copy := goodIn_r _ [13, 14, 15, 16, 17, 18, 19, 20, 21, 22, 23, 45, 46, 47, 48, 49, 50] rfl (by decide +kernel)
set_option maxRecDepth 20000 in
theorem gX10_keep_X8_copy : GoodIn wsX10_keep (wsV RX10 348 RX8 yX8_copy wsX8_copy) := goodIn_app (goodIn_of _ (by decide +kernel)) ggX10_keep_X8_copy
set_option maxRecDepth 20000 in
theorem ggX10_keep_X0_clear : GoodIn wsX10_keep wsX0_clear := goodIn_r _ [28, 29, 51, 52, 53] rfl (by decide +kernel)
set_option maxRecDepth 20000 in
theorem gX10_keep_X0_clear : GoodIn wsX10_keep (wsV RX10 108 RX0 yX0_clear wsX0_clear) := goodIn_app (goodIn_of _ (by decide +kernel)) ggX10_keep_X0_clear
theorem dX10_keep_0 : decode cX10_keep 0 = .ok (.iload_n 1, 1) := by decide +kernel
theorem dX10_keep_1 : decode cX10_keep 1 = .ok (.ifCond .lt 8, 3) := by decide +kernel
theorem dX10_keep_4 : decode cX10_keep 4 = .ok (.iload_n 1, 1) := by decide +kernel
theorem dX10_keep_5 : decode cX10_keep 5 = .ok (.iconst 2, 1) := by decide +kernel
theorem dX10_keep_6 : decode cX10_keep 6 = .ok (.if_icmp .lt 6, 3) := by decide +kernel
theorem dX10_keep_9 : decode cX10_keep 9 = .ok (.ldc 178, 2) := by decide +kernel
theorem dX10_keep_11 : decode cX10_keep 11 = .ok (.ireturn, 1) := by decide +kernel
theorem dX10_keep_12 : decode cX10_keep 12 = .ok (.aload_n 0, 1) := by decide +kernel
theorem dX10_keep_13 : decode cX10_keep 13 = .ok (.getfield 40, 3) := by decide +kernel
theorem dX10_keep_16 : decode cX10_keep 16 = .ok (.iload_n 1, 1) := by decide +kernel
theorem dX10_keep_17 : decode cX10_keep 17 = .ok (.aaload, 1) := by decide +kernel
theorem dX10_keep_18 : decode cX10_keep 18 = .ok (.iconst 1, 1) := by decide +kernel
theorem dX10_keep_19 : decode cX10_keep 19 = .ok (.putfield 109, 3) := by decide +kernel
theorem dX10_keep_22 : decode cX10_keep 22 = .ok (.aload_n 0, 1) := by decide +kernel
theorem dX10_keep_23 : decode cX10_keep 23 = .ok (.getfield 40, 3) := by decide +kernel
theorem dX10_keep_26 : decode cX10_keep 26 = .ok (.iload_n 1, 1) := by decide +kernel
theorem dX10_keep_27 : decode cX10_keep 27 = .ok (.aaload, 1) := by decide +kernel
theorem dX10_keep_28 : decode cX10_keep 28 = .ok (.getfield 345, 3) := by decide +kernel
theorem dX10_keep_31 : decode cX10_keep 31 = .ok (.aload_n 0, 1) := by decide +kernel
theorem dX10_keep_32 : decode cX10_keep 32 = .ok (.getfield 26, 3) := by decide +kernel
theorem dX10_keep_35 : decode cX10_keep 35 = .ok (.invokevirtual 348, 3) := by decide +kernel
theorem dX10_keep_38 : decode cX10_keep 38 = .ok (.aload_n 0, 1) := by decide +kernel
theorem dX10_keep_39 : decode cX10_keep 39 = .ok (.getfield 40, 3) := by decide +kernel
theorem dX10_keep_42 : decode cX10_keep 42 = .ok (.iload_n 1, 1) := by decide +kernel
theorem dX10_keep_43 : decode cX10_keep 43 = .ok (.aaload, 1) := by decide +kernel
theorem dX10_keep_44 : decode cX10_keep 44 = .ok (.aload_n 0, 1) := by decide +kernel
theorem dX10_keep_45 : decode cX10_keep 45 = .ok (.getfield 342, 3) := by decide +kernel
theorem dX10_keep_48 : decode cX10_keep 48 = .ok (.putfield 351, 3) := by decide +kernel
theorem dX10_keep_51 : decode cX10_keep 51 = .ok (.aload_n 0, 1) := by decide +kernel
theorem dX10_keep_52 : decode cX10_keep 52 = .ok (.getfield 33, 3) := by decide +kernel
theorem dX10_keep_55 : decode cX10_keep 55 = .ok (.invokevirtual 108, 3) := by decide +kernel
theorem dX10_keep_58 : decode cX10_keep 58 = .ok (.iconst 1, 1) := by decide +kernel
theorem dX10_keep_59 : decode cX10_keep 59 = .ok (.ireturn, 1) := by decide +kernel
set_option maxRecDepth 20000 in
theorem ggX10_goBack_X8_copy : GoodIn wsX10_goBack wsX8_copy := goodIn_r _ [14, 15, 16, 17, 18, 19, 20, 21, 22, 23, 24, 46, 47, 48, 49, 50, 51] rfl (by decide +kernel)
set_option maxRecDepth 20000 in
theorem gX10_goBack_X8_copy : GoodIn wsX10_goBack (wsV RX10 348 RX8 yX8_copy wsX8_copy) := goodIn_app (goodIn_of _ (by decide +kernel)) ggX10_goBack_X8_copy
set_option maxRecDepth 20000 in
theorem ggX10_goBack_X0_clear : GoodIn wsX10_goBack wsX0_clear := goodIn_r _ [29, 30, 52, 53, 54] rfl (by decide +kernel)
set_option maxRecDepth 20000 in
theorem gX10_goBack_X0_clear : GoodIn wsX10_goBack (wsV RX10 108 RX0 yX0_clear wsX0_clear) := goodIn_app (goodIn_of _ (by decide +kernel)) ggX10_goBack_X0_clear
theorem dX10_goBack_0 : decode cX10_goBack 0 = .ok (.iload_n 1, 1) := by decide +kernel
theorem dX10_goBack_1 : decode cX10_goBack 1 = .ok (.ifCond .lt 8, 3) := by decide +kernel
theorem dX10_goBack_4 : decode cX10_goBack 4 = .ok (.iload_n 1, 1) := by decide +kernel
theorem dX10_goBack_5 : decode cX10_goBack 5 = .ok (.iconst 2, 1) := by decide +kernel
theorem dX10_goBack_6 : decode cX10_goBack 6 = .ok (.if_icmp .lt 6, 3) := by decide +kernel
theorem dX10_goBack_9 : decode cX10_goBack 9 = .ok (.ldc 178, 2) := by decide +kernel
theorem dX10_goBack_11 : decode cX10_goBack 11 = .ok (.ireturn, 1) := by decide +kernel
theorem dX10_goBack_12 : decode cX10_goBack 12 = .ok (.aload_n 0, 1) := by decide +kernel
theorem dX10_goBack_13 : decode cX10_goBack 13 = .ok (.getfield 40, 3) := by decide +kernel
theorem dX10_goBack_16 : decode cX10_goBack 16 = .ok (.iload_n 1, 1) := by decide +kernel
theorem dX10_goBack_17 : decode cX10_goBack 17 = .ok (.aaload, 1) := by decide +kernel
theorem dX10_goBack_18 : decode cX10_goBack 18 = .ok (.getfield 109, 3) := by decide +kernel
theorem dX10_goBack_21 : decode cX10_goBack 21 = .ok (.ifCond .ne 6, 3) := by decide +kernel
theorem dX10_goBack_24 : decode cX10_goBack 24 = .ok (.ldc 215, 2) := by decide +kernel
theorem dX10_goBack_26 : decode cX10_goBack 26 = .ok (.ireturn, 1) := by decide +kernel
theorem dX10_goBack_27 : decode cX10_goBack 27 = .ok (.aload_n 0, 1) := by decide +kernel
theorem dX10_goBack_28 : decode cX10_goBack 28 = .ok (.getfield 26, 3) := by decide +kernel
theorem dX10_goBack_31 : decode cX10_goBack 31 = .ok (.aload_n 0, 1) := by decide +kernel
theorem dX10_goBack_32 : decode cX10_goBack 32 = .ok (.getfield 40, 3) := by decide +kernel
theorem dX10_goBack_35 : decode cX10_goBack 35 = .ok (.iload_n 1, 1) := by decide +kernel
theorem dX10_goBack_36 : decode cX10_goBack 36 = .ok (.aaload, 1) := by decide +kernel
theorem dX10_goBack_37 : decode cX10_goBack 37 = .ok (.getfield 345, 3) := by decide +kernel
theorem dX10_goBack_40 : decode cX10_goBack 40 = .ok (.invokevirtual 348, 3) := by decide +kernel
theorem dX10_goBack_43 : decode cX10_goBack 43 = .ok (.aload_n 0, 1) := by decide +kernel
theorem dX10_goBack_44 : decode cX10_goBack 44 = .ok (.aload_n 0, 1) := by decide +kernel
theorem dX10_goBack_45 : decode cX10_goBack 45 = .ok (.getfield 40, 3) := by decide +kernel
theorem dX10_goBack_48 : decode cX10_goBack 48 = .ok (.iload_n 1, 1) := by decide +kernel
theorem dX10_goBack_49 : decode cX10_goBack 49 = .ok (.aaload, 1) := by decide +kernel
theorem dX10_goBack_50 : decode cX10_goBack 50 = .ok (.getfield 351, 3) := by decide +kernel
theorem dX10_goBack_53 : decode cX10_goBack 53 = .ok (.putfield 342, 3) := by decide +kernel
theorem dX10_goBack_56 : decode cX10_goBack 56 = .ok (.aload_n 0, 1) := by decide +kernel
theorem dX10_goBack_57 : decode cX10_goBack 57 = .ok (.getfield 33, 3) := by decide +kernel
theorem dX10_goBack_60 : decode cX10_goBack 60 = .ok (.invokevirtual 108, 3) := by decide +kernel
theorem dX10_goBack_63 : decode cX10_goBack 63 = .ok (.iconst 1, 1) := by decide +kernel
theorem dX10_goBack_64 : decode cX10_goBack 64 = .ok (.ireturn, 1) := by decide +kernel
theorem dX10_isMiles_0 : decode cX10_isMiles 0 = .ok (.iload_n 0, 1) := by decide +kernel
theorem dX10_isMiles_1 : decode cX10_isMiles 1 = .ok (.iconst 1, 1) := by decide +kernel
theorem dX10_isMiles_2 : decode cX10_isMiles 2 = .ok (.if_icmp .lt 14, 3) := by decide +kernel
theorem dX10_isMiles_5 : decode cX10_isMiles 5 = .ok (.iload_n 0, 1) := by decide +kernel
theorem dX10_isMiles_6 : decode cX10_isMiles 6 = .ok (.sipush 999, 3) := by decide +kernel
theorem dX10_isMiles_9 : decode cX10_isMiles 9 = .ok (.if_icmp .gt 7, 3) := by decide +kernel
theorem dX10_isMiles_12 : decode cX10_isMiles 12 = .ok (.iconst 1, 1) := by decide +kernel
theorem dX10_isMiles_13 : decode cX10_isMiles 13 = .ok (.goto 4, 3) := by decide +kernel
theorem dX10_isMiles_16 : decode cX10_isMiles 16 = .ok (.iconst 0, 1) := by decide +kernel
theorem dX10_isMiles_17 : decode cX10_isMiles 17 = .ok (.ireturn, 1) := by decide +kernel
set_option maxRecDepth 20000 in
theorem ggX10_areTowns_X2_hasTown : GoodIn wsX10_areTowns wsX2_hasTown := goodIn_r _ [6, 7, 20, 21, 22, 23, 24, 25, 26, 27, 28, 29, 30, 31, 32] rfl (by decide +kernel)
set_option maxRecDepth 20000 in
theorem gX10_areTowns_X2_hasTown : GoodIn wsX10_areTowns (wsV RX10 352 RX2 yX2_hasTown wsX2_hasTown) := goodIn_app (goodIn_of _ (by decide +kernel)) ggX10_areTowns_X2_hasTown
theorem dX10_areTowns_0 : decode cX10_areTowns 0 = .ok (.aload_n 0, 1) := by decide +kernel
theorem dX10_areTowns_1 : decode cX10_areTowns 1 = .ok (.getfield 19, 3) := by decide +kernel
theorem dX10_areTowns_4 : decode cX10_areTowns 4 = .ok (.iload_n 1, 1) := by decide +kernel
theorem dX10_areTowns_5 : decode cX10_areTowns 5 = .ok (.invokevirtual 352, 3) := by decide +kernel
theorem dX10_areTowns_8 : decode cX10_areTowns 8 = .ok (.ifCond .eq 23, 3) := by decide +kernel
theorem dX10_areTowns_11 : decode cX10_areTowns 11 = .ok (.aload_n 0, 1) := by decide +kernel
theorem dX10_areTowns_12 : decode cX10_areTowns 12 = .ok (.getfield 19, 3) := by decide +kernel
theorem dX10_areTowns_15 : decode cX10_areTowns 15 = .ok (.iload_n 2, 1) := by decide +kernel
theorem dX10_areTowns_16 : decode cX10_areTowns 16 = .ok (.invokevirtual 352, 3) := by decide +kernel
theorem dX10_areTowns_19 : decode cX10_areTowns 19 = .ok (.ifCond .eq 12, 3) := by decide +kernel
theorem dX10_areTowns_22 : decode cX10_areTowns 22 = .ok (.iload_n 1, 1) := by decide +kernel
theorem dX10_areTowns_23 : decode cX10_areTowns 23 = .ok (.iload_n 2, 1) := by decide +kernel
theorem dX10_areTowns_24 : decode cX10_areTowns 24 = .ok (.if_icmp .eq 7, 3) := by decide +kernel
theorem dX10_areTowns_27 : decode cX10_areTowns 27 = .ok (.iconst 1, 1) := by decide +kernel
theorem dX10_areTowns_28 : decode cX10_areTowns 28 = .ok (.goto 4, 3) := by decide +kernel
theorem dX10_areTowns_31 : decode cX10_areTowns 31 = .ok (.iconst 0, 1) := by decide +kernel
theorem dX10_areTowns_32 : decode cX10_areTowns 32 = .ok (.ireturn, 1) := by decide +kernel
theorem dX10_rightful_0 : decode cX10_rightful 0 = .ok (.aload_n 0, 1) := by decide +kernel
theorem dX10_rightful_1 : decode cX10_rightful 1 = .ok (.getfield 19, 3) := by decide +kernel
theorem dX10_rightful_4 : decode cX10_rightful 4 = .ok (.getfield 122, 3) := by decide +kernel
theorem dX10_rightful_7 : decode cX10_rightful 7 = .ok (.ifCond .le 21, 3) := by decide +kernel
theorem dX10_rightful_10 : decode cX10_rightful 10 = .ok (.aload_n 0, 1) := by decide +kernel
theorem dX10_rightful_11 : decode cX10_rightful 11 = .ok (.getfield 26, 3) := by decide +kernel
theorem dX10_rightful_14 : decode cX10_rightful 14 = .ok (.getfield 131, 3) := by decide +kernel
theorem dX10_rightful_17 : decode cX10_rightful 17 = .ok (.aload_n 0, 1) := by decide +kernel
theorem dX10_rightful_18 : decode cX10_rightful 18 = .ok (.getfield 19, 3) := by decide +kernel
theorem dX10_rightful_21 : decode cX10_rightful 21 = .ok (.getfield 122, 3) := by decide +kernel
theorem dX10_rightful_24 : decode cX10_rightful 24 = .ok (.irem, 1) := by decide +kernel
theorem dX10_rightful_25 : decode cX10_rightful 25 = .ok (.goto 4, 3) := by decide +kernel
theorem dX10_rightful_28 : decode cX10_rightful 28 = .ok (.iconst 0, 1) := by decide +kernel
theorem dX10_rightful_29 : decode cX10_rightful 29 = .ok (.ireturn, 1) := by decide +kernel
set_option maxRecDepth 20000 in
theorem ggX10_isRightful_X10_rightful : GoodIn wsX10_isRightful wsX10_rightful := goodIn_r _ [14, 5, 15, 8, 16, 17, 18, 19, 20, 21, 22, 23, 24, 25, 26, 27, 28, 29, 30, 31, 32, 33, 34, 35, 36, 37, 38, 39, 40, 41, 42, 43, 44, 45, 46, 47] rfl (by decide +kernel)
set_option maxRecDepth 20000 in
theorem gX10_isRightful_X10_rightful : GoodIn wsX10_isRightful (wsV RX10 134 RX10 yX10_rightful wsX10_rightful) := goodIn_app (goodIn_of _ (by decide +kernel)) ggX10_isRightful_X10_rightful
theorem dX10_isRightful_0 : decode cX10_isRightful 0 = .ok (.iload_n 2, 1) := by decide +kernel
theorem dX10_isRightful_1 : decode cX10_isRightful 1 = .ok (.invokestatic 355, 3) := by decide +kernel
theorem dX10_isRightful_4 : decode cX10_isRightful 4 = .ok (.aload_n 0, 1) := by decide +kernel
theorem dX10_isRightful_5 : decode cX10_isRightful 5 = .ok (.getfield 19, 3) := by decide +kernel
theorem dX10_isRightful_8 : decode cX10_isRightful 8 = .ok (.getfield 125, 3) := by decide +kernel
theorem dX10_isRightful_11 : decode cX10_isRightful 11 = .ok (.if_icmp .gt 37, 3) := by decide +kernel
theorem dX10_isRightful_14 : decode cX10_isRightful 14 = .ok (.aload_n 0, 1) := by decide +kernel
theorem dX10_isRightful_15 : decode cX10_isRightful 15 = .ok (.getfield 19, 3) := by decide +kernel
theorem dX10_isRightful_18 : decode cX10_isRightful 18 = .ok (.getfield 189, 3) := by decide +kernel
theorem dX10_isRightful_21 : decode cX10_isRightful 21 = .ok (.iload_n 1, 1) := by decide +kernel
theorem dX10_isRightful_22 : decode cX10_isRightful 22 = .ok (.iaload, 1) := by decide +kernel
theorem dX10_isRightful_23 : decode cX10_isRightful 23 = .ok (.aload_n 0, 1) := by decide +kernel
theorem dX10_isRightful_24 : decode cX10_isRightful 24 = .ok (.invokevirtual 134, 3) := by decide +kernel
theorem dX10_isRightful_27 : decode cX10_isRightful 27 = .ok (.if_icmp .ne 21, 3) := by decide +kernel
theorem dX10_isRightful_30 : decode cX10_isRightful 30 = .ok (.aload_n 0, 1) := by decide +kernel
theorem dX10_isRightful_31 : decode cX10_isRightful 31 = .ok (.getfield 26, 3) := by decide +kernel
theorem dX10_isRightful_34 : decode cX10_isRightful 34 = .ok (.getfield 137, 3) := by decide +kernel
theorem dX10_isRightful_37 : decode cX10_isRightful 37 = .ok (.iload_n 1, 1) := by decide +kernel
theorem dX10_isRightful_38 : decode cX10_isRightful 38 = .ok (.ishr, 1) := by decide +kernel
theorem dX10_isRightful_39 : decode cX10_isRightful 39 = .ok (.iconst 1, 1) := by decide +kernel
theorem dX10_isRightful_40 : decode cX10_isRightful 40 = .ok (.iand, 1) := by decide +kernel
theorem dX10_isRightful_41 : decode cX10_isRightful 41 = .ok (.ifCond .ne 7, 3) := by decide +kernel
theorem dX10_isRightful_44 : decode cX10_isRightful 44 = .ok (.iconst 1, 1) := by decide +kernel
theorem dX10_isRightful_45 : decode cX10_isRightful 45 = .ok (.goto 4, 3) := by decide +kernel
theorem dX10_isRightful_48 : decode cX10_isRightful 48 = .ok (.iconst 0, 1) := by decide +kernel
theorem dX10_isRightful_49 : decode cX10_isRightful 49 = .ok (.ireturn, 1) := by decide +kernel
theorem dX10_refuseYears_0 : decode cX10_refuseYears 0 = .ok (.iload_n 1, 1) := by decide +kernel
theorem dX10_refuseYears_1 : decode cX10_refuseYears 1 = .ok (.iconst 1, 1) := by decide +kernel
theorem dX10_refuseYears_2 : decode cX10_refuseYears 2 = .ok (.if_icmp .lt 9, 3) := by decide +kernel
theorem dX10_refuseYears_5 : decode cX10_refuseYears 5 = .ok (.iload_n 1, 1) := by decide +kernel
theorem dX10_refuseYears_6 : decode cX10_refuseYears 6 = .ok (.bipush 99, 2) := by decide +kernel
theorem dX10_refuseYears_8 : decode cX10_refuseYears 8 = .ok (.if_icmp .le 6, 3) := by decide +kernel
theorem dX10_refuseYears_11 : decode cX10_refuseYears 11 = .ok (.ldc 83, 2) := by decide +kernel
theorem dX10_refuseYears_13 : decode cX10_refuseYears 13 = .ok (.ireturn, 1) := by decide +kernel
theorem dX10_refuseYears_14 : decode cX10_refuseYears 14 = .ok (.aload_n 0, 1) := by decide +kernel
theorem dX10_refuseYears_15 : decode cX10_refuseYears 15 = .ok (.getfield 19, 3) := by decide +kernel
theorem dX10_refuseYears_18 : decode cX10_refuseYears 18 = .ok (.getfield 119, 3) := by decide +kernel
theorem dX10_refuseYears_21 : decode cX10_refuseYears 21 = .ok (.ifCond .ne 6, 3) := by decide +kernel
theorem dX10_refuseYears_24 : decode cX10_refuseYears 24 = .ok (.ldc 215, 2) := by decide +kernel
theorem dX10_refuseYears_26 : decode cX10_refuseYears 26 = .ok (.ireturn, 1) := by decide +kernel
theorem dX10_refuseYears_27 : decode cX10_refuseYears 27 = .ok (.aload_n 0, 1) := by decide +kernel
theorem dX10_refuseYears_28 : decode cX10_refuseYears 28 = .ok (.getfield 26, 3) := by decide +kernel
theorem dX10_refuseYears_31 : decode cX10_refuseYears 31 = .ok (.getfield 131, 3) := by decide +kernel
theorem dX10_refuseYears_34 : decode cX10_refuseYears 34 = .ok (.sipush 9000, 3) := by decide +kernel
theorem dX10_refuseYears_37 : decode cX10_refuseYears 37 = .ok (.if_icmp .le 8, 3) := by decide +kernel
theorem dX10_refuseYears_40 : decode cX10_refuseYears 40 = .ok (.ldc 92, 2) := by decide +kernel
theorem dX10_refuseYears_42 : decode cX10_refuseYears 42 = .ok (.goto 4, 3) := by decide +kernel
theorem dX10_refuseYears_45 : decode cX10_refuseYears 45 = .ok (.iconst 0, 1) := by decide +kernel
theorem dX10_refuseYears_46 : decode cX10_refuseYears 46 = .ok (.ireturn, 1) := by decide +kernel
theorem dX10_draw_0 : decode cX10_draw 0 = .ok (.aload_n 0, 1) := by decide +kernel
theorem dX10_draw_1 : decode cX10_draw 1 = .ok (.aload_n 0, 1) := by decide +kernel
theorem dX10_draw_2 : decode cX10_draw 2 = .ok (.getfield 342, 3) := by decide +kernel
theorem dX10_draw_5 : decode cX10_draw 5 = .ok (.i2l, 1) := by decide +kernel
theorem dX10_draw_6 : decode cX10_draw 6 = .ok (.ldc2_w 360, 3) := by decide +kernel
theorem dX10_draw_9 : decode cX10_draw 9 = .ok (.lmul, 1) := by decide +kernel
theorem dX10_draw_10 : decode cX10_draw 10 = .ok (.ldc2_w 362, 3) := by decide +kernel
theorem dX10_draw_13 : decode cX10_draw 13 = .ok (.ladd, 1) := by decide +kernel
theorem dX10_draw_14 : decode cX10_draw 14 = .ok (.ldc2_w 364, 3) := by decide +kernel
theorem dX10_draw_17 : decode cX10_draw 17 = .ok (.land, 1) := by decide +kernel
theorem dX10_draw_18 : decode cX10_draw 18 = .ok (.l2i, 1) := by decide +kernel
theorem dX10_draw_19 : decode cX10_draw 19 = .ok (.putfield 342, 3) := by decide +kernel
theorem dX10_draw_22 : decode cX10_draw 22 = .ok (.iload_n 1, 1) := by decide +kernel
theorem dX10_draw_23 : decode cX10_draw 23 = .ok (.ifCond .le 16, 3) := by decide +kernel
theorem dX10_draw_26 : decode cX10_draw 26 = .ok (.aload_n 0, 1) := by decide +kernel
theorem dX10_draw_27 : decode cX10_draw 27 = .ok (.getfield 342, 3) := by decide +kernel
theorem dX10_draw_30 : decode cX10_draw 30 = .ok (.ldc_w 366, 3) := by decide +kernel
theorem dX10_draw_33 : decode cX10_draw 33 = .ok (.idiv, 1) := by decide +kernel
theorem dX10_draw_34 : decode cX10_draw 34 = .ok (.iload_n 1, 1) := by decide +kernel
theorem dX10_draw_35 : decode cX10_draw 35 = .ok (.irem, 1) := by decide +kernel
theorem dX10_draw_36 : decode cX10_draw 36 = .ok (.goto 4, 3) := by decide +kernel
theorem dX10_draw_39 : decode cX10_draw 39 = .ok (.iconst 0, 1) := by decide +kernel
theorem dX10_draw_40 : decode cX10_draw 40 = .ok (.ireturn, 1) := by decide +kernel
set_option maxRecDepth 20000 in
theorem ggX10_driftOnce_X10_draw : GoodIn wsX10_driftOnce wsX10_draw := goodIn_r _ [10, 11, 12, 13, 14, 15, 54, 55, 56, 57, 58, 59, 60, 61, 62, 63, 64, 65] rfl (by decide +kernel)
set_option maxRecDepth 20000 in
theorem gX10_driftOnce_X10_draw : GoodIn wsX10_driftOnce (wsV RX10 367 RX10 yX10_draw wsX10_draw) := goodIn_app (goodIn_of _ (by decide +kernel)) ggX10_driftOnce_X10_draw
set_option maxRecDepth 20000 in
theorem ggX10_driftOnce_X8_level : GoodIn wsX10_driftOnce wsX8_level := goodIn_r _ [20, 21, 22, 23, 24, 66, 67, 68, 69, 70, 71, 72, 73, 74, 75, 76, 77, 78, 79, 80, 81, 82, 83, 84] rfl (by decide +kernel)
set_option maxRecDepth 20000 in
theorem gX10_driftOnce_X8_level : GoodIn wsX10_driftOnce (wsV RX10 232 RX8 yX8_level wsX8_level) := goodIn_app (goodIn_of _ (by decide +kernel)) ggX10_driftOnce_X8_level
set_option maxRecDepth 20000 in
theorem ggX10_driftOnce_X2_hasRoad : GoodIn wsX10_driftOnce wsX2_hasRoad := goodIn_r _ [29, 30, 66, 67, 68, 69, 70, 71, 72, 73, 74, 75, 76, 77, 78] rfl (by decide +kernel)
set_option maxRecDepth 20000 in
theorem gX10_driftOnce_X2_hasRoad : GoodIn wsX10_driftOnce (wsV RX10 175 RX2 yX2_hasRoad wsX2_hasRoad) := goodIn_app (goodIn_of _ (by decide +kernel)) ggX10_driftOnce_X2_hasRoad
set_option maxRecDepth 20000 in
theorem ggX10_driftOnce_X10_isMiles : GoodIn wsX10_driftOnce wsX10_isMiles := goodIn_r _ [33] rfl (by decide +kernel)
set_option maxRecDepth 20000 in
theorem gX10_driftOnce_X10_isMiles : GoodIn wsX10_driftOnce (va_wsS RX10 208 yX10_isMiles wsX10_isMiles) := goodIn_app (goodIn_of _ (by decide +kernel)) ggX10_driftOnce_X10_isMiles
set_option maxRecDepth 20000 in
theorem ggX10_driftOnce_X10_isRightful : GoodIn wsX10_driftOnce wsX10_isRightful := goodIn_r _ [37, 38, 39, 40, 41, 2, 4, 42, 1, 43, 44, 45, 46, 9, 47, 48, 49, 54, 55, 56, 57, 58, 59, 60, 61, 62, 63, 64, 65, 66, 67, 68, 69, 70, 71, 72, 73, 74, 75, 76, 77, 78, 79, 80, 81, 82, 83, 84] rfl (by decide +kernel)
set_option maxRecDepth 20000 in
theorem gX10_driftOnce_X10_isRightful : GoodIn wsX10_driftOnce (wsV RX10 211 RX10 yX10_isRightful wsX10_isRightful) := goodIn_app (goodIn_of _ (by decide +kernel)) ggX10_driftOnce_X10_isRightful
set_option maxRecDepth 20000 in
theorem ggX10_driftOnce_X8_move : GoodIn wsX10_driftOnce wsX8_move := goodIn_r _ [53, 22, 24, 79, 80, 81, 82, 83, 84] rfl (by decide +kernel)
set_option maxRecDepth 20000 in
theorem gX10_driftOnce_X8_move : GoodIn wsX10_driftOnce (wsV RX10 220 RX8 yX8_move wsX8_move) := goodIn_app (goodIn_of _ (by decide +kernel)) ggX10_driftOnce_X8_move
theorem dX10_driftOnce_0 : decode cX10_driftOnce 0 = .ok (.aload_n 0, 1) := by decide +kernel
theorem dX10_driftOnce_1 : decode cX10_driftOnce 1 = .ok (.bipush 12, 2) := by decide +kernel
theorem dX10_driftOnce_3 : decode cX10_driftOnce 3 = .ok (.invokevirtual 367, 3) := by decide +kernel
theorem dX10_driftOnce_6 : decode cX10_driftOnce 6 = .ok (.ifCond .ne 16, 3) := by decide +kernel
theorem dX10_driftOnce_9 : decode cX10_driftOnce 9 = .ok (.aload_n 0, 1) := by decide +kernel
theorem dX10_driftOnce_10 : decode cX10_driftOnce 10 = .ok (.getfield 26, 3) := by decide +kernel
theorem dX10_driftOnce_13 : decode cX10_driftOnce 13 = .ok (.aload_n 0, 1) := by decide +kernel
theorem dX10_driftOnce_14 : decode cX10_driftOnce 14 = .ok (.getfield 19, 3) := by decide +kernel
theorem dX10_driftOnce_17 : decode cX10_driftOnce 17 = .ok (.invokevirtual 232, 3) := by decide +kernel
theorem dX10_driftOnce_20 : decode cX10_driftOnce 20 = .ok (.pop, 1) := by decide +kernel
theorem dX10_driftOnce_21 : decode cX10_driftOnce 21 = .ok (.return_, 1) := by decide +kernel
theorem dX10_driftOnce_22 : decode cX10_driftOnce 22 = .ok (.aload_n 0, 1) := by decide +kernel
theorem dX10_driftOnce_23 : decode cX10_driftOnce 23 = .ok (.getfield 19, 3) := by decide +kernel
theorem dX10_driftOnce_26 : decode cX10_driftOnce 26 = .ok (.getfield 113, 3) := by decide +kernel
theorem dX10_driftOnce_29 : decode cX10_driftOnce 29 = .ok (.ifCond .le 17, 3) := by decide +kernel
theorem dX10_driftOnce_32 : decode cX10_driftOnce 32 = .ok (.aload_n 0, 1) := by decide +kernel
theorem dX10_driftOnce_33 : decode cX10_driftOnce 33 = .ok (.aload_n 0, 1) := by decide +kernel
theorem dX10_driftOnce_34 : decode cX10_driftOnce 34 = .ok (.getfield 19, 3) := by decide +kernel
theorem dX10_driftOnce_37 : decode cX10_driftOnce 37 = .ok (.getfield 113, 3) := by decide +kernel
theorem dX10_driftOnce_40 : decode cX10_driftOnce 40 = .ok (.invokevirtual 367, 3) := by decide +kernel
theorem dX10_driftOnce_43 : decode cX10_driftOnce 43 = .ok (.goto 4, 3) := by decide +kernel
theorem dX10_driftOnce_46 : decode cX10_driftOnce 46 = .ok (.iconst (-1), 1) := by decide +kernel
theorem dX10_driftOnce_47 : decode cX10_driftOnce 47 = .ok (.istore_n 1, 1) := by decide +kernel
theorem dX10_driftOnce_48 : decode cX10_driftOnce 48 = .ok (.aload_n 0, 1) := by decide +kernel
theorem dX10_driftOnce_49 : decode cX10_driftOnce 49 = .ok (.iconst 2, 1) := by decide +kernel
theorem dX10_driftOnce_50 : decode cX10_driftOnce 50 = .ok (.aload_n 0, 1) := by decide +kernel
theorem dX10_driftOnce_51 : decode cX10_driftOnce 51 = .ok (.getfield 19, 3) := by decide +kernel
theorem dX10_driftOnce_54 : decode cX10_driftOnce 54 = .ok (.getfield 125, 3) := by decide +kernel
theorem dX10_driftOnce_57 : decode cX10_driftOnce 57 = .ok (.imul, 1) := by decide +kernel
theorem dX10_driftOnce_58 : decode cX10_driftOnce 58 = .ok (.iconst 1, 1) := by decide +kernel
theorem dX10_driftOnce_59 : decode cX10_driftOnce 59 = .ok (.iadd, 1) := by decide +kernel
theorem dX10_driftOnce_60 : decode cX10_driftOnce 60 = .ok (.invokevirtual 367, 3) := by decide +kernel
theorem dX10_driftOnce_63 : decode cX10_driftOnce 63 = .ok (.aload_n 0, 1) := by decide +kernel
theorem dX10_driftOnce_64 : decode cX10_driftOnce 64 = .ok (.getfield 19, 3) := by decide +kernel
theorem dX10_driftOnce_67 : decode cX10_driftOnce 67 = .ok (.getfield 125, 3) := by decide +kernel
theorem dX10_driftOnce_70 : decode cX10_driftOnce 70 = .ok (.isub, 1) := by decide +kernel
theorem dX10_driftOnce_71 : decode cX10_driftOnce 71 = .ok (.istore_n 2, 1) := by decide +kernel
theorem dX10_driftOnce_72 : decode cX10_driftOnce 72 = .ok (.aload_n 0, 1) := by decide +kernel
theorem dX10_driftOnce_73 : decode cX10_driftOnce 73 = .ok (.getfield 19, 3) := by decide +kernel
theorem dX10_driftOnce_76 : decode cX10_driftOnce 76 = .ok (.iload_n 1, 1) := by decide +kernel
theorem dX10_driftOnce_77 : decode cX10_driftOnce 77 = .ok (.invokevirtual 175, 3) := by decide +kernel
theorem dX10_driftOnce_80 : decode cX10_driftOnce 80 = .ok (.ifCond .eq 42, 3) := by decide +kernel
theorem dX10_driftOnce_83 : decode cX10_driftOnce 83 = .ok (.iload_n 2, 1) := by decide +kernel
theorem dX10_driftOnce_84 : decode cX10_driftOnce 84 = .ok (.ifCond .eq 38, 3) := by decide +kernel
theorem dX10_driftOnce_87 : decode cX10_driftOnce 87 = .ok (.aload_n 0, 1) := by decide +kernel
theorem dX10_driftOnce_88 : decode cX10_driftOnce 88 = .ok (.getfield 26, 3) := by decide +kernel
theorem dX10_driftOnce_91 : decode cX10_driftOnce 91 = .ok (.getfield 140, 3) := by decide +kernel
theorem dX10_driftOnce_94 : decode cX10_driftOnce 94 = .ok (.iload_n 1, 1) := by decide +kernel
theorem dX10_driftOnce_95 : decode cX10_driftOnce 95 = .ok (.iaload, 1) := by decide +kernel
theorem dX10_driftOnce_96 : decode cX10_driftOnce 96 = .ok (.iload_n 2, 1) := by decide +kernel
theorem dX10_driftOnce_97 : decode cX10_driftOnce 97 = .ok (.iadd, 1) := by decide +kernel
theorem dX10_driftOnce_98 : decode cX10_driftOnce 98 = .ok (.invokestatic 208, 3) := by decide +kernel
theorem dX10_driftOnce_101 : decode cX10_driftOnce 101 = .ok (.ifCond .eq 21, 3) := by decide +kernel
theorem dX10_driftOnce_104 : decode cX10_driftOnce 104 = .ok (.aload_n 0, 1) := by decide +kernel
theorem dX10_driftOnce_105 : decode cX10_driftOnce 105 = .ok (.iload_n 1, 1) := by decide +kernel
theorem dX10_driftOnce_106 : decode cX10_driftOnce 106 = .ok (.iload_n 2, 1) := by decide +kernel
theorem dX10_driftOnce_107 : decode cX10_driftOnce 107 = .ok (.invokevirtual 211, 3) := by decide +kernel
theorem dX10_driftOnce_110 : decode cX10_driftOnce 110 = .ok (.ifCond .eq 12, 3) := by decide +kernel
theorem dX10_driftOnce_113 : decode cX10_driftOnce 113 = .ok (.aload_n 0, 1) := by decide +kernel
theorem dX10_driftOnce_114 : decode cX10_driftOnce 114 = .ok (.getfield 26, 3) := by decide +kernel
theorem dX10_driftOnce_117 : decode cX10_driftOnce 117 = .ok (.iload_n 1, 1) := by decide +kernel
theorem dX10_driftOnce_118 : decode cX10_driftOnce 118 = .ok (.iload_n 2, 1) := by decide +kernel
theorem dX10_driftOnce_119 : decode cX10_driftOnce 119 = .ok (.invokevirtual 220, 3) := by decide +kernel
theorem dX10_driftOnce_122 : decode cX10_driftOnce 122 = .ok (.return_, 1) := by decide +kernel
set_option maxRecDepth 20000 in
theorem ggX10_isCrooked_X2_roadBetween : GoodIn wsX10_isCrooked wsX2_roadBetween := goodIn_r _ [12, 13, 14, 15, 16, 11, 17, 18, 19, 38, 39, 40, 41, 42, 43, 44, 45, 46, 47, 48, 49, 50] rfl (by decide +kernel)
set_option maxRecDepth 20000 in
theorem gX10_isCrooked_X2_roadBetween : GoodIn wsX10_isCrooked (wsV RX10 370 RX2 yX2_roadBetween wsX2_roadBetween) := goodIn_app (goodIn_of _ (by decide +kernel)) ggX10_isCrooked_X2_roadBetween
theorem dX10_isCrooked_0 : decode cX10_isCrooked 0 = .ok (.aload_n 0, 1) := by decide +kernel
theorem dX10_isCrooked_1 : decode cX10_isCrooked 1 = .ok (.getfield 19, 3) := by decide +kernel
theorem dX10_isCrooked_4 : decode cX10_isCrooked 4 = .ok (.iload_n 1, 1) := by decide +kernel
theorem dX10_isCrooked_5 : decode cX10_isCrooked 5 = .ok (.iload_n 2, 1) := by decide +kernel
theorem dX10_isCrooked_6 : decode cX10_isCrooked 6 = .ok (.invokevirtual 370, 3) := by decide +kernel
theorem dX10_isCrooked_9 : decode cX10_isCrooked 9 = .ok (.istore 4, 2) := by decide +kernel
theorem dX10_isCrooked_11 : decode cX10_isCrooked 11 = .ok (.aload_n 0, 1) := by decide +kernel
theorem dX10_isCrooked_12 : decode cX10_isCrooked 12 = .ok (.getfield 19, 3) := by decide +kernel
theorem dX10_isCrooked_15 : decode cX10_isCrooked 15 = .ok (.iload_n 2, 1) := by decide +kernel
theorem dX10_isCrooked_16 : decode cX10_isCrooked 16 = .ok (.iload_n 3, 1) := by decide +kernel
theorem dX10_isCrooked_17 : decode cX10_isCrooked 17 = .ok (.invokevirtual 370, 3) := by decide +kernel
theorem dX10_isCrooked_20 : decode cX10_isCrooked 20 = .ok (.istore 5, 2) := by decide +kernel
theorem dX10_isCrooked_22 : decode cX10_isCrooked 22 = .ok (.aload_n 0, 1) := by decide +kernel
theorem dX10_isCrooked_23 : decode cX10_isCrooked 23 = .ok (.getfield 19, 3) := by decide +kernel
theorem dX10_isCrooked_26 : decode cX10_isCrooked 26 = .ok (.iload_n 1, 1) := by decide +kernel
theorem dX10_isCrooked_27 : decode cX10_isCrooked 27 = .ok (.iload_n 3, 1) := by decide +kernel
theorem dX10_isCrooked_28 : decode cX10_isCrooked 28 = .ok (.invokevirtual 370, 3) := by decide +kernel
theorem dX10_isCrooked_31 : decode cX10_isCrooked 31 = .ok (.istore 6, 2) := by decide +kernel
theorem dX10_isCrooked_33 : decode cX10_isCrooked 33 = .ok (.iload 4, 2) := by decide +kernel
theorem dX10_isCrooked_35 : decode cX10_isCrooked 35 = .ok (.iconst (-1), 1) := by decide +kernel
theorem dX10_isCrooked_36 : decode cX10_isCrooked 36 = .ok (.if_icmp .eq 15, 3) := by decide +kernel
theorem dX10_isCrooked_39 : decode cX10_isCrooked 39 = .ok (.iload 5, 2) := by decide +kernel
theorem dX10_isCrooked_41 : decode cX10_isCrooked 41 = .ok (.iconst (-1), 1) := by decide +kernel
theorem dX10_isCrooked_42 : decode cX10_isCrooked 42 = .ok (.if_icmp .eq 9, 3) := by decide +kernel
theorem dX10_isCrooked_45 : decode cX10_isCrooked 45 = .ok (.iload 6, 2) := by decide +kernel
theorem dX10_isCrooked_47 : decode cX10_isCrooked 47 = .ok (.iconst (-1), 1) := by decide +kernel
theorem dX10_isCrooked_48 : decode cX10_isCrooked 48 = .ok (.if_icmp .ne 5, 3) := by decide +kernel
theorem dX10_isCrooked_51 : decode cX10_isCrooked 51 = .ok (.iconst 0, 1) := by decide +kernel
theorem dX10_isCrooked_52 : decode cX10_isCrooked 52 = .ok (.ireturn, 1) := by decide +kernel
theorem dX10_isCrooked_53 : decode cX10_isCrooked 53 = .ok (.aload_n 0, 1) := by decide +kernel
theorem dX10_isCrooked_54 : decode cX10_isCrooked 54 = .ok (.getfield 26, 3) := by decide +kernel
theorem dX10_isCrooked_57 : decode cX10_isCrooked 57 = .ok (.getfield 140, 3) := by decide +kernel
theorem dX10_isCrooked_60 : decode cX10_isCrooked 60 = .ok (.iload 4, 2) := by decide +kernel
theorem dX10_isCrooked_62 : decode cX10_isCrooked 62 = .ok (.iaload, 1) := by decide +kernel
theorem dX10_isCrooked_63 : decode cX10_isCrooked 63 = .ok (.aload_n 0, 1) := by decide +kernel
theorem dX10_isCrooked_64 : decode cX10_isCrooked 64 = .ok (.getfield 26, 3) := by decide +kernel
theorem dX10_isCrooked_67 : decode cX10_isCrooked 67 = .ok (.getfield 140, 3) := by decide +kernel
theorem dX10_isCrooked_70 : decode cX10_isCrooked 70 = .ok (.iload 5, 2) := by decide +kernel
theorem dX10_isCrooked_72 : decode cX10_isCrooked 72 = .ok (.iaload, 1) := by decide +kernel
theorem dX10_isCrooked_73 : decode cX10_isCrooked 73 = .ok (.aload_n 0, 1) := by decide +kernel
theorem dX10_isCrooked_74 : decode cX10_isCrooked 74 = .ok (.getfield 26, 3) := by decide +kernel
theorem dX10_isCrooked_77 : decode cX10_isCrooked 77 = .ok (.getfield 140, 3) := by decide +kernel
theorem dX10_isCrooked_80 : decode cX10_isCrooked 80 = .ok (.iload 6, 2) := by decide +kernel
theorem dX10_isCrooked_82 : decode cX10_isCrooked 82 = .ok (.iaload, 1) := by decide +kernel
theorem dX10_isCrooked_83 : decode cX10_isCrooked 83 = .ok (.invokestatic 373, 3) := by decide +kernel
theorem dX10_isCrooked_86 : decode cX10_isCrooked 86 = .ok (.invokestatic 373, 3) := by decide +kernel
theorem dX10_isCrooked_89 : decode cX10_isCrooked 89 = .ok (.istore 7, 2) := by decide +kernel
theorem dX10_isCrooked_91 : decode cX10_isCrooked 91 = .ok (.iconst 2, 1) := by decide +kernel
theorem dX10_isCrooked_92 : decode cX10_isCrooked 92 = .ok (.iload 7, 2) := by decide +kernel
theorem dX10_isCrooked_94 : decode cX10_isCrooked 94 = .ok (.imul, 1) := by decide +kernel
theorem dX10_isCrooked_95 : decode cX10_isCrooked 95 = .ok (.aload_n 0, 1) := by decide +kernel
theorem dX10_isCrooked_96 : decode cX10_isCrooked 96 = .ok (.getfield 26, 3) := by decide +kernel
theorem dX10_isCrooked_99 : decode cX10_isCrooked 99 = .ok (.getfield 140, 3) := by decide +kernel
theorem dX10_isCrooked_102 : decode cX10_isCrooked 102 = .ok (.iload 4, 2) := by decide +kernel
theorem dX10_isCrooked_104 : decode cX10_isCrooked 104 = .ok (.iaload, 1) := by decide +kernel
theorem dX10_isCrooked_105 : decode cX10_isCrooked 105 = .ok (.aload_n 0, 1) := by decide +kernel
theorem dX10_isCrooked_106 : decode cX10_isCrooked 106 = .ok (.getfield 26, 3) := by decide +kernel
theorem dX10_isCrooked_109 : decode cX10_isCrooked 109 = .ok (.getfield 140, 3) := by decide +kernel
theorem dX10_isCrooked_112 : decode cX10_isCrooked 112 = .ok (.iload 5, 2) := by decide +kernel
theorem dX10_isCrooked_114 : decode cX10_isCrooked 114 = .ok (.iaload, 1) := by decide +kernel
theorem dX10_isCrooked_115 : decode cX10_isCrooked 115 = .ok (.iadd, 1) := by decide +kernel
theorem dX10_isCrooked_116 : decode cX10_isCrooked 116 = .ok (.aload_n 0, 1) := by decide +kernel
theorem dX10_isCrooked_117 : decode cX10_isCrooked 117 = .ok (.getfield 26, 3) := by decide +kernel
theorem dX10_isCrooked_120 : decode cX10_isCrooked 120 = .ok (.getfield 140, 3) := by decide +kernel
theorem dX10_isCrooked_123 : decode cX10_isCrooked 123 = .ok (.iload 6, 2) := by decide +kernel
theorem dX10_isCrooked_125 : decode cX10_isCrooked 125 = .ok (.iaload, 1) := by decide +kernel
theorem dX10_isCrooked_126 : decode cX10_isCrooked 126 = .ok (.iadd, 1) := by decide +kernel
theorem dX10_isCrooked_127 : decode cX10_isCrooked 127 = .ok (.if_icmp .le 7, 3) := by decide +kernel
theorem dX10_isCrooked_130 : decode cX10_isCrooked 130 = .ok (.iconst 1, 1) := by decide +kernel
theorem dX10_isCrooked_131 : decode cX10_isCrooked 131 = .ok (.goto 4, 3) := by decide +kernel
theorem dX10_isCrooked_134 : decode cX10_isCrooked 134 = .ok (.iconst 0, 1) := by decide +kernel
theorem dX10_isCrooked_135 : decode cX10_isCrooked 135 = .ok (.ireturn, 1) := by decide +kernel
set_option maxRecDepth 20000 in
theorem ggX10_feetIfMoved_X10_isMiles : GoodIn wsX10_feetIfMoved wsX10_isMiles := goodIn_r _ [10] rfl (by decide +kernel)
set_option maxRecDepth 20000 in
theorem gX10_feetIfMoved_X10_isMiles : GoodIn wsX10_feetIfMoved (va_wsS RX10 208 yX10_isMiles wsX10_isMiles) := goodIn_app (goodIn_of _ (by decide +kernel)) ggX10_feetIfMoved_X10_isMiles
set_option maxRecDepth 20000 in
theorem ggX10_feetIfMoved_X9_go : GoodIn wsX10_feetIfMoved wsX9_go := goodIn_r _ [15, 16, 17, 18, 19, 20, 14, 21, 22, 23, 24, 25, 26, 27, 28, 29, 30, 31, 32, 33, 34, 35, 36, 37, 38, 39, 40, 41, 42, 43, 44, 45, 46, 47, 48, 49, 50, 86, 87, 88, 73, 74, 75, 76, 77, 78, 79, 80, 81, 82, 83, 84, 85] rfl (by decide +kernel)
set_option maxRecDepth 20000 in
theorem gX10_feetIfMoved_X9_go : GoodIn wsX10_feetIfMoved (wsV RX10 249 RX9 yX9_go wsX9_go) := goodIn_app (goodIn_of _ (by decide +kernel)) ggX10_feetIfMoved_X9_go
set_option maxRecDepth 20000 in
theorem ggX10_feetIfMoved_X9_together : GoodIn wsX10_feetIfMoved wsX9_together := goodIn_r _ [54, 16, 17, 86, 87, 88] rfl (by decide +kernel)
set_option maxRecDepth 20000 in
theorem gX10_feetIfMoved_X9_together : GoodIn wsX10_feetIfMoved (wsV RX10 253 RX9 yX9_together wsX9_together) := goodIn_app (goodIn_of _ (by decide +kernel)) ggX10_feetIfMoved_X9_together
theorem dX10_feetIfMoved_0 : decode cX10_feetIfMoved 0 = .ok (.aload_n 0, 1) := by decide +kernel
theorem dX10_feetIfMoved_1 : decode cX10_feetIfMoved 1 = .ok (.getfield 26, 3) := by decide +kernel
theorem dX10_feetIfMoved_4 : decode cX10_feetIfMoved 4 = .ok (.getfield 140, 3) := by decide +kernel
theorem dX10_feetIfMoved_7 : decode cX10_feetIfMoved 7 = .ok (.iload_n 3, 1) := by decide +kernel
theorem dX10_feetIfMoved_8 : decode cX10_feetIfMoved 8 = .ok (.iaload, 1) := by decide +kernel
theorem dX10_feetIfMoved_9 : decode cX10_feetIfMoved 9 = .ok (.iload 4, 2) := by decide +kernel
theorem dX10_feetIfMoved_11 : decode cX10_feetIfMoved 11 = .ok (.iadd, 1) := by decide +kernel
theorem dX10_feetIfMoved_12 : decode cX10_feetIfMoved 12 = .ok (.invokestatic 208, 3) := by decide +kernel
theorem dX10_feetIfMoved_15 : decode cX10_feetIfMoved 15 = .ok (.ifCond .ne 5, 3) := by decide +kernel
theorem dX10_feetIfMoved_18 : decode cX10_feetIfMoved 18 = .ok (.iconst (-1), 1) := by decide +kernel
theorem dX10_feetIfMoved_19 : decode cX10_feetIfMoved 19 = .ok (.ireturn, 1) := by decide +kernel
theorem dX10_feetIfMoved_20 : decode cX10_feetIfMoved 20 = .ok (.aload_n 0, 1) := by decide +kernel
theorem dX10_feetIfMoved_21 : decode cX10_feetIfMoved 21 = .ok (.getfield 79, 3) := by decide +kernel
theorem dX10_feetIfMoved_24 : decode cX10_feetIfMoved 24 = .ok (.iload_n 3, 1) := by decide +kernel
theorem dX10_feetIfMoved_25 : decode cX10_feetIfMoved 25 = .ok (.aload_n 0, 1) := by decide +kernel
theorem dX10_feetIfMoved_26 : decode cX10_feetIfMoved 26 = .ok (.getfield 26, 3) := by decide +kernel
theorem dX10_feetIfMoved_29 : decode cX10_feetIfMoved 29 = .ok (.getfield 140, 3) := by decide +kernel
theorem dX10_feetIfMoved_32 : decode cX10_feetIfMoved 32 = .ok (.iload_n 3, 1) := by decide +kernel
theorem dX10_feetIfMoved_33 : decode cX10_feetIfMoved 33 = .ok (.iaload, 1) := by decide +kernel
theorem dX10_feetIfMoved_34 : decode cX10_feetIfMoved 34 = .ok (.iload 4, 2) := by decide +kernel
theorem dX10_feetIfMoved_36 : decode cX10_feetIfMoved 36 = .ok (.iadd, 1) := by decide +kernel
theorem dX10_feetIfMoved_37 : decode cX10_feetIfMoved 37 = .ok (.iastore, 1) := by decide +kernel
theorem dX10_feetIfMoved_38 : decode cX10_feetIfMoved 38 = .ok (.aload_n 0, 1) := by decide +kernel
theorem dX10_feetIfMoved_39 : decode cX10_feetIfMoved 39 = .ok (.getfield 54, 3) := by decide +kernel
theorem dX10_feetIfMoved_42 : decode cX10_feetIfMoved 42 = .ok (.aload_n 0, 1) := by decide +kernel
theorem dX10_feetIfMoved_43 : decode cX10_feetIfMoved 43 = .ok (.getfield 19, 3) := by decide +kernel
theorem dX10_feetIfMoved_46 : decode cX10_feetIfMoved 46 = .ok (.aload_n 0, 1) := by decide +kernel
theorem dX10_feetIfMoved_47 : decode cX10_feetIfMoved 47 = .ok (.getfield 79, 3) := by decide +kernel
theorem dX10_feetIfMoved_50 : decode cX10_feetIfMoved 50 = .ok (.iload_n 1, 1) := by decide +kernel
theorem dX10_feetIfMoved_51 : decode cX10_feetIfMoved 51 = .ok (.iload_n 2, 1) := by decide +kernel
theorem dX10_feetIfMoved_52 : decode cX10_feetIfMoved 52 = .ok (.invokevirtual 249, 3) := by decide +kernel
theorem dX10_feetIfMoved_55 : decode cX10_feetIfMoved 55 = .ok (.ifCond .eq 20, 3) := by decide +kernel
theorem dX10_feetIfMoved_58 : decode cX10_feetIfMoved 58 = .ok (.aload_n 0, 1) := by decide +kernel
theorem dX10_feetIfMoved_59 : decode cX10_feetIfMoved 59 = .ok (.getfield 54, 3) := by decide +kernel
theorem dX10_feetIfMoved_62 : decode cX10_feetIfMoved 62 = .ok (.aload_n 0, 1) := by decide +kernel
theorem dX10_feetIfMoved_63 : decode cX10_feetIfMoved 63 = .ok (.getfield 19, 3) := by decide +kernel
theorem dX10_feetIfMoved_66 : decode cX10_feetIfMoved 66 = .ok (.getfield 185, 3) := by decide +kernel
theorem dX10_feetIfMoved_69 : decode cX10_feetIfMoved 69 = .ok (.invokevirtual 253, 3) := by decide +kernel
theorem dX10_feetIfMoved_72 : decode cX10_feetIfMoved 72 = .ok (.goto 4, 3) := by decide +kernel
theorem dX10_feetIfMoved_75 : decode cX10_feetIfMoved 75 = .ok (.iconst (-1), 1) := by decide +kernel
theorem dX10_feetIfMoved_76 : decode cX10_feetIfMoved 76 = .ok (.istore 5, 2) := by decide +kernel
theorem dX10_feetIfMoved_78 : decode cX10_feetIfMoved 78 = .ok (.aload_n 0, 1) := by decide +kernel
theorem dX10_feetIfMoved_79 : decode cX10_feetIfMoved 79 = .ok (.getfield 79, 3) := by decide +kernel
theorem dX10_feetIfMoved_82 : decode cX10_feetIfMoved 82 = .ok (.iload_n 3, 1) := by decide +kernel
theorem dX10_feetIfMoved_83 : decode cX10_feetIfMoved 83 = .ok (.aload_n 0, 1) := by decide +kernel
theorem dX10_feetIfMoved_84 : decode cX10_feetIfMoved 84 = .ok (.getfield 26, 3) := by decide +kernel
theorem dX10_feetIfMoved_87 : decode cX10_feetIfMoved 87 = .ok (.getfield 140, 3) := by decide +kernel
theorem dX10_feetIfMoved_90 : decode cX10_feetIfMoved 90 = .ok (.iload_n 3, 1) := by decide +kernel
theorem dX10_feetIfMoved_91 : decode cX10_feetIfMoved 91 = .ok (.iaload, 1) := by decide +kernel
theorem dX10_feetIfMoved_92 : decode cX10_feetIfMoved 92 = .ok (.iastore, 1) := by decide +kernel
theorem dX10_feetIfMoved_93 : decode cX10_feetIfMoved 93 = .ok (.iload 5, 2) := by decide +kernel
theorem dX10_feetIfMoved_95 : decode cX10_feetIfMoved 95 = .ok (.ireturn, 1) := by decide +kernel
set_option maxRecDepth 20000 in
theorem ggX11_init_X11_begins : GoodIn wsX11_init wsX11_begins := goodIn_r _ [29, 7, 5, 14, 30, 31, 32, 11, 33, 34, 35, 36, 37, 38, 39, 40, 41, 42, 43, 44, 45, 46, 47, 48, 49, 50, 51, 52, 53, 54, 55, 56, 57, 58, 59, 60, 61, 62, 63, 64] rfl (by decide +kernel)
set_option maxRecDepth 20000 in
theorem gX11_init_X11_begins : GoodIn wsX11_init (wsV RX11 69 RX11 yX11_begins wsX11_begins) := goodIn_app (goodIn_of _ (by decide +kernel)) ggX11_init_X11_begins
theorem dX11_init_0 : decode cX11_init 0 = .ok (.aload_n 0, 1) := by decide +kernel
theorem dX11_init_1 : decode cX11_init 1 = .ok (.invokespecial 1, 3) := by decide +kernel
theorem dX11_init_4 : decode cX11_init 4 = .ok (.aload_n 0, 1) := by decide +kernel
theorem dX11_init_5 : decode cX11_init 5 = .ok (.bipush 68, 2) := by decide +kernel
theorem dX11_init_7 : decode cX11_init 7 = .ok (.newarray .int, 2) := by decide +kernel
theorem dX11_init_9 : decode cX11_init 9 = .ok (.putfield 7, 3) := by decide +kernel
theorem dX11_init_12 : decode cX11_init 12 = .ok (.aload_n 0, 1) := by decide +kernel
theorem dX11_init_13 : decode cX11_init 13 = .ok (.bipush 68, 2) := by decide +kernel
theorem dX11_init_15 : decode cX11_init 15 = .ok (.newarray .int, 2) := by decide +kernel
theorem dX11_init_17 : decode cX11_init 17 = .ok (.putfield 13, 3) := by decide +kernel
theorem dX11_init_20 : decode cX11_init 20 = .ok (.aload_n 0, 1) := by decide +kernel
theorem dX11_init_21 : decode cX11_init 21 = .ok (.bipush 14, 2) := by decide +kernel
theorem dX11_init_23 : decode cX11_init 23 = .ok (.newarray .int, 2) := by decide +kernel
theorem dX11_init_25 : decode cX11_init 25 = .ok (.putfield 16, 3) := by decide +kernel
theorem dX11_init_28 : decode cX11_init 28 = .ok (.aload_n 0, 1) := by decide +kernel
theorem dX11_init_29 : decode cX11_init 29 = .ok (.sipush 280, 3) := by decide +kernel
theorem dX11_init_32 : decode cX11_init 32 = .ok (.newarray .int, 2) := by decide +kernel
theorem dX11_init_34 : decode cX11_init 34 = .ok (.putfield 19, 3) := by decide +kernel
theorem dX11_init_37 : decode cX11_init 37 = .ok (.aload_n 0, 1) := by decide +kernel
theorem dX11_init_38 : decode cX11_init 38 = .ok (.bipush 30, 2) := by decide +kernel
theorem dX11_init_40 : decode cX11_init 40 = .ok (.newarray .int, 2) := by decide +kernel
theorem dX11_init_42 : decode cX11_init 42 = .ok (.putfield 22, 3) := by decide +kernel
theorem dX11_init_45 : decode cX11_init 45 = .ok (.aload_n 0, 1) := by decide +kernel
theorem dX11_init_46 : decode cX11_init 46 = .ok (.iconst 2, 1) := by decide +kernel
theorem dX11_init_47 : decode cX11_init 47 = .ok (.newarray .boolean, 2) := by decide +kernel
theorem dX11_init_49 : decode cX11_init 49 = .ok (.putfield 25, 3) := by decide +kernel
theorem dX11_init_52 : decode cX11_init 52 = .ok (.aload_n 0, 1) := by decide +kernel
theorem dX11_init_53 : decode cX11_init 53 = .ok (.sipush 250, 3) := by decide +kernel
theorem dX11_init_56 : decode cX11_init 56 = .ok (.newarray .int, 2) := by decide +kernel
theorem dX11_init_58 : decode cX11_init 58 = .ok (.putfield 29, 3) := by decide +kernel
theorem dX11_init_61 : decode cX11_init 61 = .ok (.aload_n 0, 1) := by decide +kernel
theorem dX11_init_62 : decode cX11_init 62 = .ok (.iconst (-1), 1) := by decide +kernel
theorem dX11_init_63 : decode cX11_init 63 = .ok (.putfield 32, 3) := by decide +kernel
theorem dX11_init_66 : decode cX11_init 66 = .ok (.aload_n 0, 1) := by decide +kernel
theorem dX11_init_67 : decode cX11_init 67 = .ok (.bipush 9, 2) := by decide +kernel
theorem dX11_init_69 : decode cX11_init 69 = .ok (.newarray .int, 2) := by decide +kernel
theorem dX11_init_71 : decode cX11_init 71 = .ok (.putfield 36, 3) := by decide +kernel
theorem dX11_init_74 : decode cX11_init 74 = .ok (.aload_n 0, 1) := by decide +kernel
theorem dX11_init_75 : decode cX11_init 75 = .ok (.bipush 16, 2) := by decide +kernel
theorem dX11_init_77 : decode cX11_init 77 = .ok (.newarray .int, 2) := by decide +kernel
theorem dX11_init_79 : decode cX11_init 79 = .ok (.putfield 39, 3) := by decide +kernel
theorem dX11_init_82 : decode cX11_init 82 = .ok (.aload_n 0, 1) := by decide +kernel
theorem dX11_init_83 : decode cX11_init 83 = .ok (.bipush 30, 2) := by decide +kernel
theorem dX11_init_85 : decode cX11_init 85 = .ok (.newarray .int, 2) := by decide +kernel
theorem dX11_init_87 : decode cX11_init 87 = .ok (.putfield 42, 3) := by decide +kernel
theorem dX11_init_90 : decode cX11_init 90 = .ok (.aload_n 0, 1) := by decide +kernel
theorem dX11_init_91 : decode cX11_init 91 = .ok (.bipush 6, 2) := by decide +kernel
theorem dX11_init_93 : decode cX11_init 93 = .ok (.newarray .int, 2) := by decide +kernel
theorem dX11_init_95 : decode cX11_init 95 = .ok (.putfield 45, 3) := by decide +kernel
theorem dX11_init_98 : decode cX11_init 98 = .ok (.aload_n 0, 1) := by decide +kernel
theorem dX11_init_99 : decode cX11_init 99 = .ok (.bipush 9, 2) := by decide +kernel
theorem dX11_init_101 : decode cX11_init 101 = .ok (.newarray .int, 2) := by decide +kernel
theorem dX11_init_103 : decode cX11_init 103 = .ok (.putfield 48, 3) := by decide +kernel
theorem dX11_init_106 : decode cX11_init 106 = .ok (.aload_n 0, 1) := by decide +kernel
theorem dX11_init_107 : decode cX11_init 107 = .ok (.bipush 6, 2) := by decide +kernel
theorem dX11_init_109 : decode cX11_init 109 = .ok (.newarray .int, 2) := by decide +kernel
theorem dX11_init_111 : decode cX11_init 111 = .ok (.putfield 51, 3) := by decide +kernel
theorem dX11_init_114 : decode cX11_init 114 = .ok (.aload_n 0, 1) := by decide +kernel
theorem dX11_init_115 : decode cX11_init 115 = .ok (.bipush 9, 2) := by decide +kernel
theorem dX11_init_117 : decode cX11_init 117 = .ok (.newarray .int, 2) := by decide +kernel
theorem dX11_init_119 : decode cX11_init 119 = .ok (.putfield 54, 3) := by decide +kernel
theorem dX11_init_122 : decode cX11_init 122 = .ok (.aload_n 0, 1) := by decide +kernel
theorem dX11_init_123 : decode cX11_init 123 = .ok (.bipush 9, 2) := by decide +kernel
theorem dX11_init_125 : decode cX11_init 125 = .ok (.newarray .int, 2) := by decide +kernel
theorem dX11_init_127 : decode cX11_init 127 = .ok (.putfield 57, 3) := by decide +kernel
theorem dX11_init_130 : decode cX11_init 130 = .ok (.aload_n 0, 1) := by decide +kernel
theorem dX11_init_131 : decode cX11_init 131 = .ok (.bipush 9, 2) := by decide +kernel
theorem dX11_init_133 : decode cX11_init 133 = .ok (.newarray .int, 2) := by decide +kernel
theorem dX11_init_135 : decode cX11_init 135 = .ok (.putfield 60, 3) := by decide +kernel
theorem dX11_init_138 : decode cX11_init 138 = .ok (.aload_n 0, 1) := by decide +kernel
theorem dX11_init_139 : decode cX11_init 139 = .ok (.iconst 5, 1) := by decide +kernel
