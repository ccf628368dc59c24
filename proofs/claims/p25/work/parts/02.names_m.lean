theorem dX11_treaty_68 : decode cX11_treaty 68 = .ok (.bipush 56, 2) := by decide +kernel
theorem dX11_treaty_70 : decode cX11_treaty 70 = .ok (.iload_n 1, 1) := by decide +kernel
theorem dX11_treaty_71 : decode cX11_treaty 71 = .ok (.iadd, 1) := by decide +kernel
theorem dX11_treaty_72 : decode cX11_treaty 72 = .ok (.iaload, 1) := by decide +kernel
theorem dX11_treaty_73 : decode cX11_treaty 73 = .ok (.aload_n 0, 1) := by decide +kernel
theorem dX11_treaty_74 : decode cX11_treaty 74 = .ok (.getfield 16, 3) := by decide +kernel
theorem dX11_treaty_77 : decode cX11_treaty 77 = .ok (.invokevirtual 152, 3) := by decide +kernel
theorem dX11_treaty_80 : decode cX11_treaty 80 = .ok (.goto 20, 3) := by decide +kernel
theorem dX11_treaty_83 : decode cX11_treaty 83 = .ok (.aload_n 0, 1) := by decide +kernel
theorem dX11_treaty_84 : decode cX11_treaty 84 = .ok (.iload_n 1, 1) := by decide +kernel
theorem dX11_treaty_85 : decode cX11_treaty 85 = .ok (.aload_n 0, 1) := by decide +kernel
theorem dX11_treaty_86 : decode cX11_treaty 86 = .ok (.getfield 16, 3) := by decide +kernel
theorem dX11_treaty_89 : decode cX11_treaty 89 = .ok (.invokevirtual 156, 3) := by decide +kernel
theorem dX11_treaty_92 : decode cX11_treaty 92 = .ok (.ifCond .eq 7, 3) := by decide +kernel
theorem dX11_treaty_95 : decode cX11_treaty 95 = .ok (.iconst 1, 1) := by decide +kernel
theorem dX11_treaty_96 : decode cX11_treaty 96 = .ok (.goto 4, 3) := by decide +kernel
theorem dX11_treaty_99 : decode cX11_treaty 99 = .ok (.iconst 0, 1) := by decide +kernel
theorem dX11_treaty_100 : decode cX11_treaty 100 = .ok (.ireturn, 1) := by decide +kernel
theorem dX11_copies_0 : decode cX11_copies 0 = .ok (.iconst 0, 1) := by decide +kernel
theorem dX11_copies_1 : decode cX11_copies 1 = .ok (.istore 4, 2) := by decide +kernel
theorem dX11_copies_3 : decode cX11_copies 3 = .ok (.iload 4, 2) := by decide +kernel
theorem dX11_copies_5 : decode cX11_copies 5 = .ok (.bipush 14, 2) := by decide +kernel
theorem dX11_copies_7 : decode cX11_copies 7 = .ok (.if_icmp .ge 21, 3) := by decide +kernel
theorem dX11_copies_10 : decode cX11_copies 10 = .ok (.aload_n 2, 1) := by decide +kernel
theorem dX11_copies_11 : decode cX11_copies 11 = .ok (.iload_n 3, 1) := by decide +kernel
theorem dX11_copies_12 : decode cX11_copies 12 = .ok (.iload 4, 2) := by decide +kernel
theorem dX11_copies_14 : decode cX11_copies 14 = .ok (.iadd, 1) := by decide +kernel
theorem dX11_copies_15 : decode cX11_copies 15 = .ok (.aload_n 0, 1) := by decide +kernel
theorem dX11_copies_16 : decode cX11_copies 16 = .ok (.iload_n 1, 1) := by decide +kernel
theorem dX11_copies_17 : decode cX11_copies 17 = .ok (.iload 4, 2) := by decide +kernel
theorem dX11_copies_19 : decode cX11_copies 19 = .ok (.iadd, 1) := by decide +kernel
theorem dX11_copies_20 : decode cX11_copies 20 = .ok (.iaload, 1) := by decide +kernel
theorem dX11_copies_21 : decode cX11_copies 21 = .ok (.iastore, 1) := by decide +kernel
theorem dX11_copies_22 : decode cX11_copies 22 = .ok (.iinc 4 1, 3) := by decide +kernel
theorem dX11_copies_25 : decode cX11_copies 25 = .ok (.goto (-22), 3) := by decide +kernel
theorem dX11_copies_28 : decode cX11_copies 28 = .ok (.return_, 1) := by decide +kernel
set_option maxRecDepth 20000 in
theorem ggX11_remember_X11_copies : GoodIn wsX11_remember wsX11_copies := goodIn_r _ [7] rfl (by decide +kernel)
set_option maxRecDepth 20000 in
theorem gX11_remember_X11_copies : GoodIn wsX11_remember (va_wsS RX11 176 yX11_copies wsX11_copies) := goodIn_app (goodIn_of _ (by decide +kernel)) ggX11_remember_X11_copies
theorem dX11_remember_0 : decode cX11_remember 0 = .ok (.aload_n 0, 1) := by decide +kernel
theorem dX11_remember_1 : decode cX11_remember 1 = .ok (.getfield 72, 3) := by decide +kernel
theorem dX11_remember_4 : decode cX11_remember 4 = .ok (.bipush 20, 2) := by decide +kernel
theorem dX11_remember_6 : decode cX11_remember 6 = .ok (.if_icmp .ne 43, 3) := by decide +kernel
theorem dX11_remember_9 : decode cX11_remember 9 = .ok (.iconst 0, 1) := by decide +kernel
theorem dX11_remember_10 : decode cX11_remember 10 = .ok (.istore_n 1, 1) := by decide +kernel
theorem dX11_remember_11 : decode cX11_remember 11 = .ok (.iload_n 1, 1) := by decide +kernel
theorem dX11_remember_12 : decode cX11_remember 12 = .ok (.sipush 266, 3) := by decide +kernel
theorem dX11_remember_15 : decode cX11_remember 15 = .ok (.if_icmp .ge 24, 3) := by decide +kernel
theorem dX11_remember_18 : decode cX11_remember 18 = .ok (.aload_n 0, 1) := by decide +kernel
theorem dX11_remember_19 : decode cX11_remember 19 = .ok (.getfield 19, 3) := by decide +kernel
theorem dX11_remember_22 : decode cX11_remember 22 = .ok (.iload_n 1, 1) := by decide +kernel
theorem dX11_remember_23 : decode cX11_remember 23 = .ok (.aload_n 0, 1) := by decide +kernel
theorem dX11_remember_24 : decode cX11_remember 24 = .ok (.getfield 19, 3) := by decide +kernel
theorem dX11_remember_27 : decode cX11_remember 27 = .ok (.iload_n 1, 1) := by decide +kernel
theorem dX11_remember_28 : decode cX11_remember 28 = .ok (.bipush 14, 2) := by decide +kernel
theorem dX11_remember_30 : decode cX11_remember 30 = .ok (.iadd, 1) := by decide +kernel
theorem dX11_remember_31 : decode cX11_remember 31 = .ok (.iaload, 1) := by decide +kernel
theorem dX11_remember_32 : decode cX11_remember 32 = .ok (.iastore, 1) := by decide +kernel
theorem dX11_remember_33 : decode cX11_remember 33 = .ok (.iinc 1 1, 3) := by decide +kernel
theorem dX11_remember_36 : decode cX11_remember 36 = .ok (.goto (-25), 3) := by decide +kernel
theorem dX11_remember_39 : decode cX11_remember 39 = .ok (.aload_n 0, 1) := by decide +kernel
theorem dX11_remember_40 : decode cX11_remember 40 = .ok (.dup, 1) := by decide +kernel
theorem dX11_remember_41 : decode cX11_remember 41 = .ok (.getfield 72, 3) := by decide +kernel
theorem dX11_remember_44 : decode cX11_remember 44 = .ok (.iconst 1, 1) := by decide +kernel
theorem dX11_remember_45 : decode cX11_remember 45 = .ok (.isub, 1) := by decide +kernel
theorem dX11_remember_46 : decode cX11_remember 46 = .ok (.putfield 72, 3) := by decide +kernel
theorem dX11_remember_49 : decode cX11_remember 49 = .ok (.aload_n 0, 1) := by decide +kernel
theorem dX11_remember_50 : decode cX11_remember 50 = .ok (.getfield 16, 3) := by decide +kernel
theorem dX11_remember_53 : decode cX11_remember 53 = .ok (.iconst 0, 1) := by decide +kernel
theorem dX11_remember_54 : decode cX11_remember 54 = .ok (.aload_n 0, 1) := by decide +kernel
theorem dX11_remember_55 : decode cX11_remember 55 = .ok (.getfield 19, 3) := by decide +kernel
theorem dX11_remember_58 : decode cX11_remember 58 = .ok (.bipush 14, 2) := by decide +kernel
theorem dX11_remember_60 : decode cX11_remember 60 = .ok (.aload_n 0, 1) := by decide +kernel
theorem dX11_remember_61 : decode cX11_remember 61 = .ok (.getfield 72, 3) := by decide +kernel
theorem dX11_remember_64 : decode cX11_remember 64 = .ok (.imul, 1) := by decide +kernel
theorem dX11_remember_65 : decode cX11_remember 65 = .ok (.invokestatic 176, 3) := by decide +kernel
theorem dX11_remember_68 : decode cX11_remember 68 = .ok (.aload_n 0, 1) := by decide +kernel
theorem dX11_remember_69 : decode cX11_remember 69 = .ok (.dup, 1) := by decide +kernel
theorem dX11_remember_70 : decode cX11_remember 70 = .ok (.getfield 72, 3) := by decide +kernel
theorem dX11_remember_73 : decode cX11_remember 73 = .ok (.iconst 1, 1) := by decide +kernel
theorem dX11_remember_74 : decode cX11_remember 74 = .ok (.iadd, 1) := by decide +kernel
theorem dX11_remember_75 : decode cX11_remember 75 = .ok (.putfield 72, 3) := by decide +kernel
theorem dX11_remember_78 : decode cX11_remember 78 = .ok (.return_, 1) := by decide +kernel
set_option maxRecDepth 20000 in
theorem ggX11_mayShift_X11_right : GoodIn wsX11_mayShift wsX11_right := goodIn_r _ [7, 1, 2, 11, 12, 13, 14, 15, 16, 17, 18, 19, 20, 21, 22, 23, 24, 25, 26, 27, 28, 29, 30, 31, 32, 33, 34, 35, 36, 37, 38, 39, 40, 41, 42] rfl (by decide +kernel)
set_option maxRecDepth 20000 in
theorem gX11_mayShift_X11_right : GoodIn wsX11_mayShift (wsV RX11 160 RX11 yX11_right wsX11_right) := goodIn_app (goodIn_of _ (by decide +kernel)) ggX11_mayShift_X11_right
set_option maxRecDepth 20000 in
theorem ggX11_mayShift_X11_has : GoodIn wsX11_mayShift wsX11_has := goodIn_r _ [10] rfl (by decide +kernel)
set_option maxRecDepth 20000 in
theorem gX11_mayShift_X11_has : GoodIn wsX11_mayShift (va_wsS RX11 148 yX11_has wsX11_has) := goodIn_app (goodIn_of _ (by decide +kernel)) ggX11_mayShift_X11_has
theorem dX11_mayShift_0 : decode cX11_mayShift 0 = .ok (.iload_n 2, 1) := by decide +kernel
theorem dX11_mayShift_1 : decode cX11_mayShift 1 = .ok (.ifCond .ge 8, 3) := by decide +kernel
theorem dX11_mayShift_4 : decode cX11_mayShift 4 = .ok (.iload_n 2, 1) := by decide +kernel
theorem dX11_mayShift_5 : decode cX11_mayShift 5 = .ok (.ineg, 1) := by decide +kernel
theorem dX11_mayShift_6 : decode cX11_mayShift 6 = .ok (.goto 4, 3) := by decide +kernel
theorem dX11_mayShift_9 : decode cX11_mayShift 9 = .ok (.iload_n 2, 1) := by decide +kernel
theorem dX11_mayShift_10 : decode cX11_mayShift 10 = .ok (.istore_n 3, 1) := by decide +kernel
theorem dX11_mayShift_11 : decode cX11_mayShift 11 = .ok (.iload_n 3, 1) := by decide +kernel
theorem dX11_mayShift_12 : decode cX11_mayShift 12 = .ok (.aload_n 0, 1) := by decide +kernel
theorem dX11_mayShift_13 : decode cX11_mayShift 13 = .ok (.getfield 7, 3) := by decide +kernel
theorem dX11_mayShift_16 : decode cX11_mayShift 16 = .ok (.iconst 2, 1) := by decide +kernel
theorem dX11_mayShift_17 : decode cX11_mayShift 17 = .ok (.iaload, 1) := by decide +kernel
theorem dX11_mayShift_18 : decode cX11_mayShift 18 = .ok (.if_icmp .gt 37, 3) := by decide +kernel
theorem dX11_mayShift_21 : decode cX11_mayShift 21 = .ok (.aload_n 0, 1) := by decide +kernel
theorem dX11_mayShift_22 : decode cX11_mayShift 22 = .ok (.getfield 7, 3) := by decide +kernel
theorem dX11_mayShift_25 : decode cX11_mayShift 25 = .ok (.bipush 41, 2) := by decide +kernel
theorem dX11_mayShift_27 : decode cX11_mayShift 27 = .ok (.iload_n 1, 1) := by decide +kernel
theorem dX11_mayShift_28 : decode cX11_mayShift 28 = .ok (.iadd, 1) := by decide +kernel
theorem dX11_mayShift_29 : decode cX11_mayShift 29 = .ok (.iaload, 1) := by decide +kernel
theorem dX11_mayShift_30 : decode cX11_mayShift 30 = .ok (.aload_n 0, 1) := by decide +kernel
theorem dX11_mayShift_31 : decode cX11_mayShift 31 = .ok (.invokevirtual 160, 3) := by decide +kernel
theorem dX11_mayShift_34 : decode cX11_mayShift 34 = .ok (.if_icmp .ne 21, 3) := by decide +kernel
theorem dX11_mayShift_37 : decode cX11_mayShift 37 = .ok (.aload_n 0, 1) := by decide +kernel
theorem dX11_mayShift_38 : decode cX11_mayShift 38 = .ok (.getfield 16, 3) := by decide +kernel
theorem dX11_mayShift_41 : decode cX11_mayShift 41 = .ok (.bipush 9, 2) := by decide +kernel
theorem dX11_mayShift_43 : decode cX11_mayShift 43 = .ok (.iaload, 1) := by decide +kernel
theorem dX11_mayShift_44 : decode cX11_mayShift 44 = .ok (.iload_n 1, 1) := by decide +kernel
theorem dX11_mayShift_45 : decode cX11_mayShift 45 = .ok (.invokestatic 148, 3) := by decide +kernel
theorem dX11_mayShift_48 : decode cX11_mayShift 48 = .ok (.ifCond .ne 7, 3) := by decide +kernel
theorem dX11_mayShift_51 : decode cX11_mayShift 51 = .ok (.iconst 1, 1) := by decide +kernel
theorem dX11_mayShift_52 : decode cX11_mayShift 52 = .ok (.goto 4, 3) := by decide +kernel
theorem dX11_mayShift_55 : decode cX11_mayShift 55 = .ok (.iconst 0, 1) := by decide +kernel
theorem dX11_mayShift_56 : decode cX11_mayShift 56 = .ok (.ireturn, 1) := by decide +kernel
theorem dX11_shifts_0 : decode cX11_shifts 0 = .ok (.aload_n 0, 1) := by decide +kernel
theorem dX11_shifts_1 : decode cX11_shifts 1 = .ok (.getfield 16, 3) := by decide +kernel
theorem dX11_shifts_4 : decode cX11_shifts 4 = .ok (.iload_n 1, 1) := by decide +kernel
theorem dX11_shifts_5 : decode cX11_shifts 5 = .ok (.dup2, 1) := by decide +kernel
theorem dX11_shifts_6 : decode cX11_shifts 6 = .ok (.iaload, 1) := by decide +kernel
theorem dX11_shifts_7 : decode cX11_shifts 7 = .ok (.iload_n 2, 1) := by decide +kernel
theorem dX11_shifts_8 : decode cX11_shifts 8 = .ok (.iadd, 1) := by decide +kernel
theorem dX11_shifts_9 : decode cX11_shifts 9 = .ok (.iastore, 1) := by decide +kernel
theorem dX11_shifts_10 : decode cX11_shifts 10 = .ok (.aload_n 0, 1) := by decide +kernel
theorem dX11_shifts_11 : decode cX11_shifts 11 = .ok (.getfield 16, 3) := by decide +kernel
theorem dX11_shifts_14 : decode cX11_shifts 14 = .ok (.bipush 9, 2) := by decide +kernel
theorem dX11_shifts_16 : decode cX11_shifts 16 = .ok (.dup2, 1) := by decide +kernel
theorem dX11_shifts_17 : decode cX11_shifts 17 = .ok (.iaload, 1) := by decide +kernel
theorem dX11_shifts_18 : decode cX11_shifts 18 = .ok (.iconst 1, 1) := by decide +kernel
theorem dX11_shifts_19 : decode cX11_shifts 19 = .ok (.iload_n 1, 1) := by decide +kernel
theorem dX11_shifts_20 : decode cX11_shifts 20 = .ok (.ishl, 1) := by decide +kernel
theorem dX11_shifts_21 : decode cX11_shifts 21 = .ok (.ior, 1) := by decide +kernel
theorem dX11_shifts_22 : decode cX11_shifts 22 = .ok (.iastore, 1) := by decide +kernel
theorem dX11_shifts_23 : decode cX11_shifts 23 = .ok (.return_, 1) := by decide +kernel
set_option maxRecDepth 20000 in
theorem ggX11_shift_X11_isRoad : GoodIn wsX11_shift wsX11_isRoad := goodIn_r _ [12, 13, 14, 15, 11, 16, 41, 42, 43, 44, 45, 46, 47, 48, 49, 50, 51, 52, 53, 54, 55, 56, 57, 58, 59, 60, 61, 62, 63, 64, 65, 66, 67, 68, 69, 70, 71, 72] rfl (by decide +kernel)
set_option maxRecDepth 20000 in
theorem gX11_shift_X11_isRoad : GoodIn wsX11_shift (wsV RX11 170 RX11 yX11_isRoad wsX11_isRoad) := goodIn_app (goodIn_of _ (by decide +kernel)) ggX11_shift_X11_isRoad
set_option maxRecDepth 20000 in
theorem ggX11_shift_X11_in : GoodIn wsX11_shift wsX11_in := goodIn_r _ [16] rfl (by decide +kernel)
set_option maxRecDepth 20000 in
theorem gX11_shift_X11_in : GoodIn wsX11_shift (va_wsS RX11 83 yX11_in wsX11_in) := goodIn_app (goodIn_of _ (by decide +kernel)) ggX11_shift_X11_in
set_option maxRecDepth 20000 in
theorem ggX11_shift_X11_mayShift : GoodIn wsX11_shift wsX11_mayShift := goodIn_r _ [20, 13, 4, 21, 22, 23, 11, 24, 25, 26, 27, 41, 42, 43, 44, 45, 46, 47, 48, 49, 50, 51, 52, 53, 54, 55, 56, 57, 58, 59, 60, 61, 62, 63, 64, 65, 66, 67, 68, 69, 70, 71, 72] rfl (by decide +kernel)
set_option maxRecDepth 20000 in
theorem gX11_shift_X11_mayShift : GoodIn wsX11_shift (wsV RX11 186 RX11 yX11_mayShift wsX11_mayShift) := goodIn_app (goodIn_of _ (by decide +kernel)) ggX11_shift_X11_mayShift
set_option maxRecDepth 20000 in
theorem ggX11_shift_X11_remember : GoodIn wsX11_shift wsX11_remember := goodIn_r _ [31, 32, 33, 4, 34, 35, 11, 36, 41, 42, 43, 44, 45, 46, 47, 48, 49, 50, 51, 52, 53, 54, 55, 56, 57, 58, 59, 60, 61, 62, 63, 64, 65, 66, 67, 68, 69, 70, 71, 72] rfl (by decide +kernel)
set_option maxRecDepth 20000 in
theorem gX11_shift_X11_remember : GoodIn wsX11_shift (wsV RX11 190 RX11 yX11_remember wsX11_remember) := goodIn_app (goodIn_of _ (by decide +kernel)) ggX11_shift_X11_remember
set_option maxRecDepth 20000 in
theorem ggX11_shift_X11_shifts : GoodIn wsX11_shift wsX11_shifts := goodIn_r _ [40, 4, 41, 42, 43, 44, 45, 46, 47, 48, 49, 50, 51, 52, 53, 54, 55, 56, 57, 58, 59, 60, 61, 62, 63, 64, 65, 66, 67, 68, 69, 70, 71, 72] rfl (by decide +kernel)
set_option maxRecDepth 20000 in
theorem gX11_shift_X11_shifts : GoodIn wsX11_shift (wsV RX11 193 RX11 yX11_shifts wsX11_shifts) := goodIn_app (goodIn_of _ (by decide +kernel)) ggX11_shift_X11_shifts
theorem dX11_shift_0 : decode cX11_shift 0 = .ok (.aload_n 0, 1) := by decide +kernel
theorem dX11_shift_1 : decode cX11_shift 1 = .ok (.iload_n 1, 1) := by decide +kernel
theorem dX11_shift_2 : decode cX11_shift 2 = .ok (.invokevirtual 170, 3) := by decide +kernel
theorem dX11_shift_5 : decode cX11_shift 5 = .ok (.ifCond .ne 6, 3) := by decide +kernel
theorem dX11_shift_8 : decode cX11_shift 8 = .ok (.ldc 173, 2) := by decide +kernel
theorem dX11_shift_10 : decode cX11_shift 10 = .ok (.ireturn, 1) := by decide +kernel
theorem dX11_shift_11 : decode cX11_shift 11 = .ok (.iload_n 2, 1) := by decide +kernel
theorem dX11_shift_12 : decode cX11_shift 12 = .ok (.i2l, 1) := by decide +kernel
theorem dX11_shift_13 : decode cX11_shift 13 = .ok (.ldc2_w 180, 3) := by decide +kernel
theorem dX11_shift_16 : decode cX11_shift 16 = .ok (.ldc2_w 182, 3) := by decide +kernel
theorem dX11_shift_19 : decode cX11_shift 19 = .ok (.invokestatic 83, 3) := by decide +kernel
theorem dX11_shift_22 : decode cX11_shift 22 = .ok (.ifCond .eq 26, 3) := by decide +kernel
theorem dX11_shift_25 : decode cX11_shift 25 = .ok (.iload_n 2, 1) := by decide +kernel
theorem dX11_shift_26 : decode cX11_shift 26 = .ok (.ifCond .eq 22, 3) := by decide +kernel
theorem dX11_shift_29 : decode cX11_shift 29 = .ok (.aload_n 0, 1) := by decide +kernel
theorem dX11_shift_30 : decode cX11_shift 30 = .ok (.getfield 16, 3) := by decide +kernel
theorem dX11_shift_33 : decode cX11_shift 33 = .ok (.iload_n 1, 1) := by decide +kernel
theorem dX11_shift_34 : decode cX11_shift 34 = .ok (.iaload, 1) := by decide +kernel
theorem dX11_shift_35 : decode cX11_shift 35 = .ok (.iload_n 2, 1) := by decide +kernel
theorem dX11_shift_36 : decode cX11_shift 36 = .ok (.iadd, 1) := by decide +kernel
theorem dX11_shift_37 : decode cX11_shift 37 = .ok (.i2l, 1) := by decide +kernel
theorem dX11_shift_38 : decode cX11_shift 38 = .ok (.lconst 1, 1) := by decide +kernel
theorem dX11_shift_39 : decode cX11_shift 39 = .ok (.ldc2_w 184, 3) := by decide +kernel
theorem dX11_shift_42 : decode cX11_shift 42 = .ok (.invokestatic 83, 3) := by decide +kernel
theorem dX11_shift_45 : decode cX11_shift 45 = .ok (.ifCond .ne 6, 3) := by decide +kernel
theorem dX11_shift_48 : decode cX11_shift 48 = .ok (.ldc 87, 2) := by decide +kernel
theorem dX11_shift_50 : decode cX11_shift 50 = .ok (.ireturn, 1) := by decide +kernel
theorem dX11_shift_51 : decode cX11_shift 51 = .ok (.aload_n 0, 1) := by decide +kernel
theorem dX11_shift_52 : decode cX11_shift 52 = .ok (.iload_n 1, 1) := by decide +kernel
theorem dX11_shift_53 : decode cX11_shift 53 = .ok (.iload_n 2, 1) := by decide +kernel
theorem dX11_shift_54 : decode cX11_shift 54 = .ok (.invokevirtual 186, 3) := by decide +kernel
theorem dX11_shift_57 : decode cX11_shift 57 = .ok (.ifCond .ne 6, 3) := by decide +kernel
theorem dX11_shift_60 : decode cX11_shift 60 = .ok (.ldc 189, 2) := by decide +kernel
theorem dX11_shift_62 : decode cX11_shift 62 = .ok (.ireturn, 1) := by decide +kernel
theorem dX11_shift_63 : decode cX11_shift 63 = .ok (.aload_n 0, 1) := by decide +kernel
theorem dX11_shift_64 : decode cX11_shift 64 = .ok (.invokevirtual 190, 3) := by decide +kernel
theorem dX11_shift_67 : decode cX11_shift 67 = .ok (.aload_n 0, 1) := by decide +kernel
theorem dX11_shift_68 : decode cX11_shift 68 = .ok (.iload_n 1, 1) := by decide +kernel
theorem dX11_shift_69 : decode cX11_shift 69 = .ok (.iload_n 2, 1) := by decide +kernel
theorem dX11_shift_70 : decode cX11_shift 70 = .ok (.invokevirtual 193, 3) := by decide +kernel
theorem dX11_shift_73 : decode cX11_shift 73 = .ok (.aload_n 0, 1) := by decide +kernel
theorem dX11_shift_74 : decode cX11_shift 74 = .ok (.getfield 16, 3) := by decide +kernel
theorem dX11_shift_77 : decode cX11_shift 77 = .ok (.iload_n 1, 1) := by decide +kernel
theorem dX11_shift_78 : decode cX11_shift 78 = .ok (.iaload, 1) := by decide +kernel
theorem dX11_shift_79 : decode cX11_shift 79 = .ok (.ireturn, 1) := by decide +kernel
set_option maxRecDepth 20000 in
theorem ggX11_yearGoes_X11_allTreaties : GoodIn wsX11_yearGoes wsX11_allTreaties := goodIn_r _ [6, 7, 23, 24, 25, 26, 27, 28, 29, 30, 31, 32, 33, 34, 35, 36, 37, 38, 39, 40, 41, 42, 43, 44, 45, 46, 47, 48, 49, 50, 51, 52, 53, 54] rfl (by decide +kernel)
set_option maxRecDepth 20000 in
theorem gX11_yearGoes_X11_allTreaties : GoodIn wsX11_yearGoes (wsV RX11 197 RX11 yX11_allTreaties wsX11_allTreaties) := goodIn_app (goodIn_of _ (by decide +kernel)) ggX11_yearGoes_X11_allTreaties
set_option maxRecDepth 20000 in
theorem ggX11_yearGoes_X11_holding : GoodIn wsX11_yearGoes wsX11_holding := goodIn_r _ [11, 7, 12, 13, 14, 5, 15, 16, 17, 18, 19, 20, 21, 22, 23, 24, 25, 26, 27, 28, 29, 30, 31, 32, 33, 34, 35, 36, 37, 38, 39, 40, 41, 42, 43, 44, 45, 46, 47, 48, 49, 50, 51, 52, 53, 54] rfl (by decide +kernel)
set_option maxRecDepth 20000 in
theorem gX11_yearGoes_X11_holding : GoodIn wsX11_yearGoes (wsV RX11 163 RX11 yX11_holding wsX11_holding) := goodIn_app (goodIn_of _ (by decide +kernel)) ggX11_yearGoes_X11_holding
set_option maxRecDepth 20000 in
theorem ggX11_yearGoes_X11_has : GoodIn wsX11_yearGoes wsX11_has := goodIn_r _ [22] rfl (by decide +kernel)
set_option maxRecDepth 20000 in
theorem gX11_yearGoes_X11_has : GoodIn wsX11_yearGoes (va_wsS RX11 148 yX11_has wsX11_has) := goodIn_app (goodIn_of _ (by decide +kernel)) ggX11_yearGoes_X11_has
theorem dX11_yearGoes_0 : decode cX11_yearGoes 0 = .ok (.aload_n 0, 1) := by decide +kernel
theorem dX11_yearGoes_1 : decode cX11_yearGoes 1 = .ok (.invokevirtual 197, 3) := by decide +kernel
theorem dX11_yearGoes_4 : decode cX11_yearGoes 4 = .ok (.aload_n 0, 1) := by decide +kernel
theorem dX11_yearGoes_5 : decode cX11_yearGoes 5 = .ok (.aload_n 0, 1) := by decide +kernel
theorem dX11_yearGoes_6 : decode cX11_yearGoes 6 = .ok (.getfield 16, 3) := by decide +kernel
theorem dX11_yearGoes_9 : decode cX11_yearGoes 9 = .ok (.invokevirtual 163, 3) := by decide +kernel
theorem dX11_yearGoes_12 : decode cX11_yearGoes 12 = .ok (.iconst (-1), 1) := by decide +kernel
theorem dX11_yearGoes_13 : decode cX11_yearGoes 13 = .ok (.ixor, 1) := by decide +kernel
theorem dX11_yearGoes_14 : decode cX11_yearGoes 14 = .ok (.iand, 1) := by decide +kernel
theorem dX11_yearGoes_15 : decode cX11_yearGoes 15 = .ok (.istore_n 1, 1) := by decide +kernel
theorem dX11_yearGoes_16 : decode cX11_yearGoes 16 = .ok (.iload_n 1, 1) := by decide +kernel
theorem dX11_yearGoes_17 : decode cX11_yearGoes 17 = .ok (.ifCond .eq 52, 3) := by decide +kernel
theorem dX11_yearGoes_20 : decode cX11_yearGoes 20 = .ok (.aload_n 0, 1) := by decide +kernel
theorem dX11_yearGoes_21 : decode cX11_yearGoes 21 = .ok (.getfield 16, 3) := by decide +kernel
theorem dX11_yearGoes_24 : decode cX11_yearGoes 24 = .ok (.bipush 12, 2) := by decide +kernel
theorem dX11_yearGoes_26 : decode cX11_yearGoes 26 = .ok (.iaload, 1) := by decide +kernel
theorem dX11_yearGoes_27 : decode cX11_yearGoes 27 = .ok (.iconst (-1), 1) := by decide +kernel
theorem dX11_yearGoes_28 : decode cX11_yearGoes 28 = .ok (.if_icmp .ne 41, 3) := by decide +kernel
theorem dX11_yearGoes_31 : decode cX11_yearGoes 31 = .ok (.iconst 0, 1) := by decide +kernel
theorem dX11_yearGoes_32 : decode cX11_yearGoes 32 = .ok (.istore_n 2, 1) := by decide +kernel
theorem dX11_yearGoes_33 : decode cX11_yearGoes 33 = .ok (.iload_n 1, 1) := by decide +kernel
theorem dX11_yearGoes_34 : decode cX11_yearGoes 34 = .ok (.iload_n 2, 1) := by decide +kernel
theorem dX11_yearGoes_35 : decode cX11_yearGoes 35 = .ok (.invokestatic 148, 3) := by decide +kernel
theorem dX11_yearGoes_38 : decode cX11_yearGoes 38 = .ok (.ifCond .ne 9, 3) := by decide +kernel
theorem dX11_yearGoes_41 : decode cX11_yearGoes 41 = .ok (.iinc 2 1, 3) := by decide +kernel
theorem dX11_yearGoes_44 : decode cX11_yearGoes 44 = .ok (.goto (-11), 3) := by decide +kernel
theorem dX11_yearGoes_47 : decode cX11_yearGoes 47 = .ok (.aload_n 0, 1) := by decide +kernel
theorem dX11_yearGoes_48 : decode cX11_yearGoes 48 = .ok (.getfield 16, 3) := by decide +kernel
theorem dX11_yearGoes_51 : decode cX11_yearGoes 51 = .ok (.bipush 12, 2) := by decide +kernel
theorem dX11_yearGoes_53 : decode cX11_yearGoes 53 = .ok (.iload_n 2, 1) := by decide +kernel
theorem dX11_yearGoes_54 : decode cX11_yearGoes 54 = .ok (.iastore, 1) := by decide +kernel
theorem dX11_yearGoes_55 : decode cX11_yearGoes 55 = .ok (.aload_n 0, 1) := by decide +kernel
theorem dX11_yearGoes_56 : decode cX11_yearGoes 56 = .ok (.getfield 16, 3) := by decide +kernel
theorem dX11_yearGoes_59 : decode cX11_yearGoes 59 = .ok (.bipush 13, 2) := by decide +kernel
theorem dX11_yearGoes_61 : decode cX11_yearGoes 61 = .ok (.aload_n 0, 1) := by decide +kernel
theorem dX11_yearGoes_62 : decode cX11_yearGoes 62 = .ok (.getfield 16, 3) := by decide +kernel
theorem dX11_yearGoes_65 : decode cX11_yearGoes 65 = .ok (.bipush 10, 2) := by decide +kernel
theorem dX11_yearGoes_67 : decode cX11_yearGoes 67 = .ok (.iaload, 1) := by decide +kernel
theorem dX11_yearGoes_68 : decode cX11_yearGoes 68 = .ok (.iastore, 1) := by decide +kernel
theorem dX11_yearGoes_69 : decode cX11_yearGoes 69 = .ok (.aload_n 0, 1) := by decide +kernel
theorem dX11_yearGoes_70 : decode cX11_yearGoes 70 = .ok (.getfield 16, 3) := by decide +kernel
theorem dX11_yearGoes_73 : decode cX11_yearGoes 73 = .ok (.bipush 11, 2) := by decide +kernel
theorem dX11_yearGoes_75 : decode cX11_yearGoes 75 = .ok (.dup2, 1) := by decide +kernel
theorem dX11_yearGoes_76 : decode cX11_yearGoes 76 = .ok (.iaload, 1) := by decide +kernel
theorem dX11_yearGoes_77 : decode cX11_yearGoes 77 = .ok (.iload_n 1, 1) := by decide +kernel
theorem dX11_yearGoes_78 : decode cX11_yearGoes 78 = .ok (.ior, 1) := by decide +kernel
theorem dX11_yearGoes_79 : decode cX11_yearGoes 79 = .ok (.iastore, 1) := by decide +kernel
theorem dX11_yearGoes_80 : decode cX11_yearGoes 80 = .ok (.aload_n 0, 1) := by decide +kernel
theorem dX11_yearGoes_81 : decode cX11_yearGoes 81 = .ok (.getfield 16, 3) := by decide +kernel
theorem dX11_yearGoes_84 : decode cX11_yearGoes 84 = .ok (.bipush 9, 2) := by decide +kernel
theorem dX11_yearGoes_86 : decode cX11_yearGoes 86 = .ok (.iconst 0, 1) := by decide +kernel
theorem dX11_yearGoes_87 : decode cX11_yearGoes 87 = .ok (.iastore, 1) := by decide +kernel
theorem dX11_yearGoes_88 : decode cX11_yearGoes 88 = .ok (.aload_n 0, 1) := by decide +kernel
theorem dX11_yearGoes_89 : decode cX11_yearGoes 89 = .ok (.getfield 16, 3) := by decide +kernel
theorem dX11_yearGoes_92 : decode cX11_yearGoes 92 = .ok (.bipush 10, 2) := by decide +kernel
theorem dX11_yearGoes_94 : decode cX11_yearGoes 94 = .ok (.dup2, 1) := by decide +kernel
theorem dX11_yearGoes_95 : decode cX11_yearGoes 95 = .ok (.iaload, 1) := by decide +kernel
theorem dX11_yearGoes_96 : decode cX11_yearGoes 96 = .ok (.iconst 1, 1) := by decide +kernel
theorem dX11_yearGoes_97 : decode cX11_yearGoes 97 = .ok (.iadd, 1) := by decide +kernel
theorem dX11_yearGoes_98 : decode cX11_yearGoes 98 = .ok (.iastore, 1) := by decide +kernel
theorem dX11_yearGoes_99 : decode cX11_yearGoes 99 = .ok (.return_, 1) := by decide +kernel
set_option maxRecDepth 20000 in
theorem ggX11_refusesYears_X11_in : GoodIn wsX11_refusesYears wsX11_in := goodIn_r _ [10] rfl (by decide +kernel)
set_option maxRecDepth 20000 in
theorem gX11_refusesYears_X11_in : GoodIn wsX11_refusesYears (va_wsS RX11 83 yX11_in wsX11_in) := goodIn_app (goodIn_of _ (by decide +kernel)) ggX11_refusesYears_X11_in
theorem dX11_refusesYears_0 : decode cX11_refusesYears 0 = .ok (.iload_n 1, 1) := by decide +kernel
theorem dX11_refusesYears_1 : decode cX11_refusesYears 1 = .ok (.i2l, 1) := by decide +kernel
theorem dX11_refusesYears_2 : decode cX11_refusesYears 2 = .ok (.lconst 1, 1) := by decide +kernel
theorem dX11_refusesYears_3 : decode cX11_refusesYears 3 = .ok (.ldc2_w 200, 3) := by decide +kernel
theorem dX11_refusesYears_6 : decode cX11_refusesYears 6 = .ok (.invokestatic 83, 3) := by decide +kernel
theorem dX11_refusesYears_9 : decode cX11_refusesYears 9 = .ok (.ifCond .ne 6, 3) := by decide +kernel
theorem dX11_refusesYears_12 : decode cX11_refusesYears 12 = .ok (.ldc 87, 2) := by decide +kernel
theorem dX11_refusesYears_14 : decode cX11_refusesYears 14 = .ok (.ireturn, 1) := by decide +kernel
theorem dX11_refusesYears_15 : decode cX11_refusesYears 15 = .ok (.aload_n 0, 1) := by decide +kernel
theorem dX11_refusesYears_16 : decode cX11_refusesYears 16 = .ok (.getfield 7, 3) := by decide +kernel
theorem dX11_refusesYears_19 : decode cX11_refusesYears 19 = .ok (.iconst 0, 1) := by decide +kernel
theorem dX11_refusesYears_20 : decode cX11_refusesYears 20 = .ok (.iaload, 1) := by decide +kernel
theorem dX11_refusesYears_21 : decode cX11_refusesYears 21 = .ok (.ifCond .ne 8, 3) := by decide +kernel
theorem dX11_refusesYears_24 : decode cX11_refusesYears 24 = .ok (.ldc 189, 2) := by decide +kernel
theorem dX11_refusesYears_26 : decode cX11_refusesYears 26 = .ok (.goto 22, 3) := by decide +kernel
theorem dX11_refusesYears_29 : decode cX11_refusesYears 29 = .ok (.aload_n 0, 1) := by decide +kernel
theorem dX11_refusesYears_30 : decode cX11_refusesYears 30 = .ok (.getfield 16, 3) := by decide +kernel
theorem dX11_refusesYears_33 : decode cX11_refusesYears 33 = .ok (.bipush 10, 2) := by decide +kernel
theorem dX11_refusesYears_35 : decode cX11_refusesYears 35 = .ok (.iaload, 1) := by decide +kernel
theorem dX11_refusesYears_36 : decode cX11_refusesYears 36 = .ok (.sipush 9000, 3) := by decide +kernel
theorem dX11_refusesYears_39 : decode cX11_refusesYears 39 = .ok (.if_icmp .le 8, 3) := by decide +kernel
theorem dX11_refusesYears_42 : decode cX11_refusesYears 42 = .ok (.ldc 91, 2) := by decide +kernel
theorem dX11_refusesYears_44 : decode cX11_refusesYears 44 = .ok (.goto 4, 3) := by decide +kernel
theorem dX11_refusesYears_47 : decode cX11_refusesYears 47 = .ok (.iconst 0, 1) := by decide +kernel
theorem dX11_refusesYears_48 : decode cX11_refusesYears 48 = .ok (.ireturn, 1) := by decide +kernel
set_option maxRecDepth 20000 in
theorem ggX11_year_X11_refusesYears : GoodIn wsX11_year wsX11_refusesYears := goodIn_r _ [6, 7, 8, 9, 10, 1, 11, 12, 13, 5, 14, 47, 48, 49, 50, 51, 52, 53, 54, 55, 56, 57, 58, 59, 60, 61, 62, 63, 64, 65, 66, 67, 68, 69, 70, 71, 72, 73, 74, 75, 76, 77, 78] rfl (by decide +kernel)
set_option maxRecDepth 20000 in
theorem gX11_year_X11_refusesYears : GoodIn wsX11_year (wsV RX11 202 RX11 yX11_refusesYears wsX11_refusesYears) := goodIn_app (goodIn_of _ (by decide +kernel)) ggX11_year_X11_refusesYears
set_option maxRecDepth 20000 in
theorem ggX11_year_X11_remember : GoodIn wsX11_year wsX11_remember := goodIn_r _ [18, 19, 20, 1, 21, 22, 5, 23, 47, 48, 49, 50, 51, 52, 53, 54, 55, 56, 57, 58, 59, 60, 61, 62, 63, 64, 65, 66, 67, 68, 69, 70, 71, 72, 73, 74, 75, 76, 77, 78] rfl (by decide +kernel)
set_option maxRecDepth 20000 in
theorem gX11_year_X11_remember : GoodIn wsX11_year (wsV RX11 190 RX11 yX11_remember wsX11_remember) := goodIn_app (goodIn_of _ (by decide +kernel)) ggX11_year_X11_remember
set_option maxRecDepth 20000 in
theorem ggX11_year_X11_yearGoes : GoodIn wsX11_year wsX11_yearGoes := goodIn_r _ [27, 1, 28, 29, 30, 5, 31, 9, 32, 33, 34, 35, 36, 37, 38, 39, 40, 41, 42, 43, 44, 45, 46, 47, 48, 49, 50, 51, 52, 53, 54, 55, 56, 57, 58, 59, 60, 61, 62, 63, 64, 65, 66, 67, 68, 69, 70, 71, 72, 73, 74, 75, 76, 77, 78] rfl (by decide +kernel)
set_option maxRecDepth 20000 in
theorem gX11_year_X11_yearGoes : GoodIn wsX11_year (wsV RX11 206 RX11 yX11_yearGoes wsX11_yearGoes) := goodIn_app (goodIn_of _ (by decide +kernel)) ggX11_year_X11_yearGoes
theorem dX11_year_0 : decode cX11_year 0 = .ok (.aload_n 0, 1) := by decide +kernel
theorem dX11_year_1 : decode cX11_year 1 = .ok (.iload_n 1, 1) := by decide +kernel
theorem dX11_year_2 : decode cX11_year 2 = .ok (.invokevirtual 202, 3) := by decide +kernel
theorem dX11_year_5 : decode cX11_year 5 = .ok (.istore_n 2, 1) := by decide +kernel
theorem dX11_year_6 : decode cX11_year 6 = .ok (.iload_n 2, 1) := by decide +kernel
theorem dX11_year_7 : decode cX11_year 7 = .ok (.ifCond .eq 5, 3) := by decide +kernel
theorem dX11_year_10 : decode cX11_year 10 = .ok (.iload_n 2, 1) := by decide +kernel
theorem dX11_year_11 : decode cX11_year 11 = .ok (.ireturn, 1) := by decide +kernel
theorem dX11_year_12 : decode cX11_year 12 = .ok (.aload_n 0, 1) := by decide +kernel
theorem dX11_year_13 : decode cX11_year 13 = .ok (.invokevirtual 190, 3) := by decide +kernel
theorem dX11_year_16 : decode cX11_year 16 = .ok (.iconst 0, 1) := by decide +kernel
theorem dX11_year_17 : decode cX11_year 17 = .ok (.istore_n 3, 1) := by decide +kernel
theorem dX11_year_18 : decode cX11_year 18 = .ok (.iload_n 3, 1) := by decide +kernel
theorem dX11_year_19 : decode cX11_year 19 = .ok (.iload_n 1, 1) := by decide +kernel
theorem dX11_year_20 : decode cX11_year 20 = .ok (.if_icmp .ge 13, 3) := by decide +kernel
theorem dX11_year_23 : decode cX11_year 23 = .ok (.aload_n 0, 1) := by decide +kernel
theorem dX11_year_24 : decode cX11_year 24 = .ok (.invokevirtual 206, 3) := by decide +kernel
theorem dX11_year_27 : decode cX11_year 27 = .ok (.iinc 3 1, 3) := by decide +kernel
theorem dX11_year_30 : decode cX11_year 30 = .ok (.goto (-12), 3) := by decide +kernel
theorem dX11_year_33 : decode cX11_year 33 = .ok (.aload_n 0, 1) := by decide +kernel
theorem dX11_year_34 : decode cX11_year 34 = .ok (.getfield 16, 3) := by decide +kernel
theorem dX11_year_37 : decode cX11_year 37 = .ok (.bipush 10, 2) := by decide +kernel
theorem dX11_year_39 : decode cX11_year 39 = .ok (.iaload, 1) := by decide +kernel
theorem dX11_year_40 : decode cX11_year 40 = .ok (.ireturn, 1) := by decide +kernel
theorem dX11_strikes_0 : decode cX11_strikes 0 = .ok (.iconst 0, 1) := by decide +kernel
theorem dX11_strikes_1 : decode cX11_strikes 1 = .ok (.istore_n 1, 1) := by decide +kernel
theorem dX11_strikes_2 : decode cX11_strikes 2 = .ok (.iconst 0, 1) := by decide +kernel
theorem dX11_strikes_3 : decode cX11_strikes 3 = .ok (.istore_n 2, 1) := by decide +kernel
theorem dX11_strikes_4 : decode cX11_strikes 4 = .ok (.iload_n 2, 1) := by decide +kernel
theorem dX11_strikes_5 : decode cX11_strikes 5 = .ok (.aload_n 0, 1) := by decide +kernel
theorem dX11_strikes_6 : decode cX11_strikes 6 = .ok (.getfield 7, 3) := by decide +kernel
theorem dX11_strikes_9 : decode cX11_strikes 9 = .ok (.iconst 3, 1) := by decide +kernel
theorem dX11_strikes_10 : decode cX11_strikes 10 = .ok (.iaload, 1) := by decide +kernel
theorem dX11_strikes_11 : decode cX11_strikes 11 = .ok (.if_icmp .ge 50, 3) := by decide +kernel
theorem dX11_strikes_14 : decode cX11_strikes 14 = .ok (.iload_n 1, 1) := by decide +kernel
theorem dX11_strikes_15 : decode cX11_strikes 15 = .ok (.aload_n 0, 1) := by decide +kernel
theorem dX11_strikes_16 : decode cX11_strikes 16 = .ok (.getfield 16, 3) := by decide +kernel
theorem dX11_strikes_19 : decode cX11_strikes 19 = .ok (.iload_n 2, 1) := by decide +kernel
theorem dX11_strikes_20 : decode cX11_strikes 20 = .ok (.iaload, 1) := by decide +kernel
theorem dX11_strikes_21 : decode cX11_strikes 21 = .ok (.aload_n 0, 1) := by decide +kernel
theorem dX11_strikes_22 : decode cX11_strikes 22 = .ok (.getfield 7, 3) := by decide +kernel
theorem dX11_strikes_25 : decode cX11_strikes 25 = .ok (.bipush 23, 2) := by decide +kernel
theorem dX11_strikes_27 : decode cX11_strikes 27 = .ok (.iload_n 2, 1) := by decide +kernel
theorem dX11_strikes_28 : decode cX11_strikes 28 = .ok (.iadd, 1) := by decide +kernel
theorem dX11_strikes_29 : decode cX11_strikes 29 = .ok (.iaload, 1) := by decide +kernel
theorem dX11_strikes_30 : decode cX11_strikes 30 = .ok (.if_icmp .ne 7, 3) := by decide +kernel
theorem dX11_strikes_33 : decode cX11_strikes 33 = .ok (.iconst 0, 1) := by decide +kernel
theorem dX11_strikes_34 : decode cX11_strikes 34 = .ok (.goto 4, 3) := by decide +kernel
theorem dX11_strikes_37 : decode cX11_strikes 37 = .ok (.iconst 1, 1) := by decide +kernel
theorem dX11_strikes_38 : decode cX11_strikes 38 = .ok (.iadd, 1) := by decide +kernel
theorem dX11_strikes_39 : decode cX11_strikes 39 = .ok (.istore_n 1, 1) := by decide +kernel
theorem dX11_strikes_40 : decode cX11_strikes 40 = .ok (.aload_n 0, 1) := by decide +kernel
theorem dX11_strikes_41 : decode cX11_strikes 41 = .ok (.getfield 16, 3) := by decide +kernel
theorem dX11_strikes_44 : decode cX11_strikes 44 = .ok (.iload_n 2, 1) := by decide +kernel
theorem dX11_strikes_45 : decode cX11_strikes 45 = .ok (.aload_n 0, 1) := by decide +kernel
theorem dX11_strikes_46 : decode cX11_strikes 46 = .ok (.getfield 7, 3) := by decide +kernel
theorem dX11_strikes_49 : decode cX11_strikes 49 = .ok (.bipush 23, 2) := by decide +kernel
theorem dX11_strikes_51 : decode cX11_strikes 51 = .ok (.iload_n 2, 1) := by decide +kernel
theorem dX11_strikes_52 : decode cX11_strikes 52 = .ok (.iadd, 1) := by decide +kernel
theorem dX11_strikes_53 : decode cX11_strikes 53 = .ok (.iaload, 1) := by decide +kernel
theorem dX11_strikes_54 : decode cX11_strikes 54 = .ok (.iastore, 1) := by decide +kernel
theorem dX11_strikes_55 : decode cX11_strikes 55 = .ok (.iinc 2 1, 3) := by decide +kernel
theorem dX11_strikes_58 : decode cX11_strikes 58 = .ok (.goto (-54), 3) := by decide +kernel
theorem dX11_strikes_61 : decode cX11_strikes 61 = .ok (.aload_n 0, 1) := by decide +kernel
theorem dX11_strikes_62 : decode cX11_strikes 62 = .ok (.getfield 16, 3) := by decide +kernel
theorem dX11_strikes_65 : decode cX11_strikes 65 = .ok (.bipush 9, 2) := by decide +kernel
theorem dX11_strikes_67 : decode cX11_strikes 67 = .ok (.iconst 0, 1) := by decide +kernel
theorem dX11_strikes_68 : decode cX11_strikes 68 = .ok (.iastore, 1) := by decide +kernel
theorem dX11_strikes_69 : decode cX11_strikes 69 = .ok (.iload_n 1, 1) := by decide +kernel
theorem dX11_strikes_70 : decode cX11_strikes 70 = .ok (.ireturn, 1) := by decide +kernel
set_option maxRecDepth 20000 in
theorem ggX11_strike_X11_remember : GoodIn wsX11_strike wsX11_remember := goodIn_r _ [7, 8, 9, 10, 11, 12, 6, 13, 18, 19, 20, 21, 22, 23, 24, 25, 26, 27, 28, 29, 30, 31, 32, 33, 34, 35, 36, 37, 38, 39, 40, 41, 42, 43, 44, 45, 46, 47, 48, 49] rfl (by decide +kernel)
set_option maxRecDepth 20000 in
theorem gX11_strike_X11_remember : GoodIn wsX11_strike (wsV RX11 190 RX11 yX11_remember wsX11_remember) := goodIn_app (goodIn_of _ (by decide +kernel)) ggX11_strike_X11_remember
set_option maxRecDepth 20000 in
theorem ggX11_strike_X11_strikes : GoodIn wsX11_strike wsX11_strikes := goodIn_r _ [17, 1, 10, 18, 19, 20, 21, 22, 23, 24, 25, 26, 27, 28, 29, 30, 31, 32, 33, 34, 35, 36, 37, 38, 39, 40, 41, 42, 43, 44, 45, 46, 47, 48, 49] rfl (by decide +kernel)
set_option maxRecDepth 20000 in
theorem gX11_strike_X11_strikes : GoodIn wsX11_strike (wsV RX11 209 RX11 yX11_strikes wsX11_strikes) := goodIn_app (goodIn_of _ (by decide +kernel)) ggX11_strike_X11_strikes
theorem dX11_strike_0 : decode cX11_strike 0 = .ok (.aload_n 0, 1) := by decide +kernel
theorem dX11_strike_1 : decode cX11_strike 1 = .ok (.getfield 7, 3) := by decide +kernel
theorem dX11_strike_4 : decode cX11_strike 4 = .ok (.iconst 0, 1) := by decide +kernel
theorem dX11_strike_5 : decode cX11_strike 5 = .ok (.iaload, 1) := by decide +kernel
theorem dX11_strike_6 : decode cX11_strike 6 = .ok (.ifCond .ne 6, 3) := by decide +kernel
theorem dX11_strike_9 : decode cX11_strike 9 = .ok (.ldc 189, 2) := by decide +kernel
theorem dX11_strike_11 : decode cX11_strike 11 = .ok (.ireturn, 1) := by decide +kernel
theorem dX11_strike_12 : decode cX11_strike 12 = .ok (.aload_n 0, 1) := by decide +kernel
theorem dX11_strike_13 : decode cX11_strike 13 = .ok (.invokevirtual 190, 3) := by decide +kernel
theorem dX11_strike_16 : decode cX11_strike 16 = .ok (.aload_n 0, 1) := by decide +kernel
theorem dX11_strike_17 : decode cX11_strike 17 = .ok (.invokevirtual 209, 3) := by decide +kernel
theorem dX11_strike_20 : decode cX11_strike 20 = .ok (.ireturn, 1) := by decide +kernel
theorem dX11_draw_0 : decode cX11_draw 0 = .ok (.aload_n 0, 1) := by decide +kernel
theorem dX11_draw_1 : decode cX11_draw 1 = .ok (.aload_n 0, 1) := by decide +kernel
theorem dX11_draw_2 : decode cX11_draw 2 = .ok (.getfield 212, 3) := by decide +kernel
theorem dX11_draw_5 : decode cX11_draw 5 = .ok (.ldc2_w 216, 3) := by decide +kernel
theorem dX11_draw_8 : decode cX11_draw 8 = .ok (.lmul, 1) := by decide +kernel
theorem dX11_draw_9 : decode cX11_draw 9 = .ok (.ldc2_w 218, 3) := by decide +kernel
theorem dX11_draw_12 : decode cX11_draw 12 = .ok (.ladd, 1) := by decide +kernel
theorem dX11_draw_13 : decode cX11_draw 13 = .ok (.ldc2_w 220, 3) := by decide +kernel
theorem dX11_draw_16 : decode cX11_draw 16 = .ok (.lrem, 1) := by decide +kernel
theorem dX11_draw_17 : decode cX11_draw 17 = .ok (.putfield 212, 3) := by decide +kernel
theorem dX11_draw_20 : decode cX11_draw 20 = .ok (.aload_n 0, 1) := by decide +kernel
theorem dX11_draw_21 : decode cX11_draw 21 = .ok (.getfield 212, 3) := by decide +kernel
theorem dX11_draw_24 : decode cX11_draw 24 = .ok (.ldc2_w 222, 3) := by decide +kernel
theorem dX11_draw_27 : decode cX11_draw 27 = .ok (.ldiv, 1) := by decide +kernel
theorem dX11_draw_28 : decode cX11_draw 28 = .ok (.iload_n 1, 1) := by decide +kernel
theorem dX11_draw_29 : decode cX11_draw 29 = .ok (.i2l, 1) := by decide +kernel
theorem dX11_draw_30 : decode cX11_draw 30 = .ok (.lrem, 1) := by decide +kernel
theorem dX11_draw_31 : decode cX11_draw 31 = .ok (.l2i, 1) := by decide +kernel
theorem dX11_draw_32 : decode cX11_draw 32 = .ok (.ireturn, 1) := by decide +kernel
set_option maxRecDepth 20000 in
theorem ggX11_drift_X11_refusesYears : GoodIn wsX11_drift wsX11_refusesYears := goodIn_r _ [8, 9, 10, 1, 11, 2, 12, 13, 14, 7, 15, 73, 74, 75, 76, 77, 78, 79, 80, 81, 82, 83, 84, 85, 86, 87, 88, 89, 90, 91, 92, 93, 94, 95, 96, 97, 98, 99, 100, 101, 102, 103, 104] rfl (by decide +kernel)
set_option maxRecDepth 20000 in
theorem gX11_drift_X11_refusesYears : GoodIn wsX11_drift (wsV RX11 202 RX11 yX11_refusesYears wsX11_refusesYears) := goodIn_app (goodIn_of _ (by decide +kernel)) ggX11_drift_X11_refusesYears
set_option maxRecDepth 20000 in
theorem ggX11_drift_X11_remember : GoodIn wsX11_drift wsX11_remember := goodIn_r _ [19, 20, 21, 2, 22, 23, 7, 24, 73, 74, 75, 76, 77, 78, 79, 80, 81, 82, 83, 84, 85, 86, 87, 88, 89, 90, 91, 92, 93, 94, 95, 96, 97, 98, 99, 100, 101, 102, 103, 104] rfl (by decide +kernel)
set_option maxRecDepth 20000 in
theorem gX11_drift_X11_remember : GoodIn wsX11_drift (wsV RX11 190 RX11 yX11_remember wsX11_remember) := goodIn_app (goodIn_of _ (by decide +kernel)) ggX11_drift_X11_remember
set_option maxRecDepth 20000 in
theorem ggX11_drift_X11_draw : GoodIn wsX11_drift wsX11_draw := goodIn_r _ [28, 29, 30, 31, 32, 33, 73, 74, 75, 76, 77, 78, 79, 80, 81, 82, 83, 84, 85, 86, 87, 88, 89, 90, 91, 92, 93, 94, 95, 96, 97, 98, 99, 100, 101, 102, 103, 104] rfl (by decide +kernel)
set_option maxRecDepth 20000 in
theorem gX11_drift_X11_draw : GoodIn wsX11_drift (wsV RX11 224 RX11 yX11_draw wsX11_draw) := goodIn_app (goodIn_of _ (by decide +kernel)) ggX11_drift_X11_draw
set_option maxRecDepth 20000 in
theorem ggX11_drift_X11_strikes : GoodIn wsX11_drift wsX11_strikes := goodIn_r _ [37, 1, 2, 73, 74, 75, 76, 77, 78, 79, 80, 81, 82, 83, 84, 85, 86, 87, 88, 89, 90, 91, 92, 93, 94, 95, 96, 97, 98, 99, 100, 101, 102, 103, 104] rfl (by decide +kernel)
set_option maxRecDepth 20000 in
theorem gX11_drift_X11_strikes : GoodIn wsX11_drift (wsV RX11 209 RX11 yX11_strikes wsX11_strikes) := goodIn_app (goodIn_of _ (by decide +kernel)) ggX11_drift_X11_strikes
set_option maxRecDepth 20000 in
theorem ggX11_drift_X11_in : GoodIn wsX11_drift wsX11_in := goodIn_r _ [15] rfl (by decide +kernel)
set_option maxRecDepth 20000 in
theorem gX11_drift_X11_in : GoodIn wsX11_drift (va_wsS RX11 83 yX11_in wsX11_in) := goodIn_app (goodIn_of _ (by decide +kernel)) ggX11_drift_X11_in
set_option maxRecDepth 20000 in
theorem ggX11_drift_X11_mayShift : GoodIn wsX11_drift wsX11_mayShift := goodIn_r _ [41, 1, 2, 42, 43, 44, 7, 45, 46, 47, 48, 73, 74, 75, 76, 77, 78, 79, 80, 81, 82, 83, 84, 85, 86, 87, 88, 89, 90, 91, 92, 93, 94, 95, 96, 97, 98, 99, 100, 101, 102, 103, 104] rfl (by decide +kernel)
set_option maxRecDepth 20000 in
theorem gX11_drift_X11_mayShift : GoodIn wsX11_drift (wsV RX11 186 RX11 yX11_mayShift wsX11_mayShift) := goodIn_app (goodIn_of _ (by decide +kernel)) ggX11_drift_X11_mayShift
set_option maxRecDepth 20000 in
theorem ggX11_drift_X11_shifts : GoodIn wsX11_drift wsX11_shifts := goodIn_r _ [52, 2, 73, 74, 75, 76, 77, 78, 79, 80, 81, 82, 83, 84, 85, 86, 87, 88, 89, 90, 91, 92, 93, 94, 95, 96, 97, 98, 99, 100, 101, 102, 103, 104] rfl (by decide +kernel)
set_option maxRecDepth 20000 in
theorem gX11_drift_X11_shifts : GoodIn wsX11_drift (wsV RX11 193 RX11 yX11_shifts wsX11_shifts) := goodIn_app (goodIn_of _ (by decide +kernel)) ggX11_drift_X11_shifts
set_option maxRecDepth 20000 in
theorem ggX11_drift_X11_yearGoes : GoodIn wsX11_drift wsX11_yearGoes := goodIn_r _ [56, 2, 57, 58, 59, 7, 60, 1, 61, 62, 63, 64, 65, 66, 67, 68, 69, 70, 71, 72, 46, 47, 48, 73, 74, 75, 76, 77, 78, 79, 80, 81, 82, 83, 84, 85, 86, 87, 88, 89, 90, 91, 92, 93, 94, 95, 96, 97, 98, 99, 100, 101, 102, 103, 104] rfl (by decide +kernel)
set_option maxRecDepth 20000 in
theorem gX11_drift_X11_yearGoes : GoodIn wsX11_drift (wsV RX11 206 RX11 yX11_yearGoes wsX11_yearGoes) := goodIn_app (goodIn_of _ (by decide +kernel)) ggX11_drift_X11_yearGoes
theorem dX11_drift_0 : decode cX11_drift 0 = .ok (.aload_n 0, 1) := by decide +kernel
theorem dX11_drift_1 : decode cX11_drift 1 = .ok (.iload_n 1, 1) := by decide +kernel
theorem dX11_drift_2 : decode cX11_drift 2 = .ok (.invokevirtual 202, 3) := by decide +kernel
theorem dX11_drift_5 : decode cX11_drift 5 = .ok (.istore_n 2, 1) := by decide +kernel
theorem dX11_drift_6 : decode cX11_drift 6 = .ok (.iload_n 2, 1) := by decide +kernel
theorem dX11_drift_7 : decode cX11_drift 7 = .ok (.ifCond .eq 5, 3) := by decide +kernel
theorem dX11_drift_10 : decode cX11_drift 10 = .ok (.iload_n 2, 1) := by decide +kernel
theorem dX11_drift_11 : decode cX11_drift 11 = .ok (.ireturn, 1) := by decide +kernel
theorem dX11_drift_12 : decode cX11_drift 12 = .ok (.aload_n 0, 1) := by decide +kernel
theorem dX11_drift_13 : decode cX11_drift 13 = .ok (.invokevirtual 190, 3) := by decide +kernel
theorem dX11_drift_16 : decode cX11_drift 16 = .ok (.iconst 0, 1) := by decide +kernel
theorem dX11_drift_17 : decode cX11_drift 17 = .ok (.istore_n 3, 1) := by decide +kernel
theorem dX11_drift_18 : decode cX11_drift 18 = .ok (.iload_n 3, 1) := by decide +kernel
theorem dX11_drift_19 : decode cX11_drift 19 = .ok (.iload_n 1, 1) := by decide +kernel
theorem dX11_drift_20 : decode cX11_drift 20 = .ok (.if_icmp .ge 120, 3) := by decide +kernel
theorem dX11_drift_23 : decode cX11_drift 23 = .ok (.aload_n 0, 1) := by decide +kernel
theorem dX11_drift_24 : decode cX11_drift 24 = .ok (.bipush 12, 2) := by decide +kernel
theorem dX11_drift_26 : decode cX11_drift 26 = .ok (.invokevirtual 224, 3) := by decide +kernel
theorem dX11_drift_29 : decode cX11_drift 29 = .ok (.ifCond .ne 12, 3) := by decide +kernel
theorem dX11_drift_32 : decode cX11_drift 32 = .ok (.aload_n 0, 1) := by decide +kernel
theorem dX11_drift_33 : decode cX11_drift 33 = .ok (.invokevirtual 209, 3) := by decide +kernel
theorem dX11_drift_36 : decode cX11_drift 36 = .ok (.istore 4, 2) := by decide +kernel
theorem dX11_drift_38 : decode cX11_drift 38 = .ok (.goto 92, 3) := by decide +kernel
theorem dX11_drift_41 : decode cX11_drift 41 = .ok (.aload_n 0, 1) := by decide +kernel
theorem dX11_drift_42 : decode cX11_drift 42 = .ok (.getfield 7, 3) := by decide +kernel
theorem dX11_drift_45 : decode cX11_drift 45 = .ok (.iconst 3, 1) := by decide +kernel
theorem dX11_drift_46 : decode cX11_drift 46 = .ok (.iaload, 1) := by decide +kernel
theorem dX11_drift_47 : decode cX11_drift 47 = .ok (.ifCond .le 83, 3) := by decide +kernel
theorem dX11_drift_50 : decode cX11_drift 50 = .ok (.aload_n 0, 1) := by decide +kernel
theorem dX11_drift_51 : decode cX11_drift 51 = .ok (.aload_n 0, 1) := by decide +kernel
theorem dX11_drift_52 : decode cX11_drift 52 = .ok (.getfield 7, 3) := by decide +kernel
theorem dX11_drift_55 : decode cX11_drift 55 = .ok (.iconst 3, 1) := by decide +kernel
theorem dX11_drift_56 : decode cX11_drift 56 = .ok (.iaload, 1) := by decide +kernel
theorem dX11_drift_57 : decode cX11_drift 57 = .ok (.invokevirtual 224, 3) := by decide +kernel
theorem dX11_drift_60 : decode cX11_drift 60 = .ok (.istore 4, 2) := by decide +kernel
theorem dX11_drift_62 : decode cX11_drift 62 = .ok (.aload_n 0, 1) := by decide +kernel
theorem dX11_drift_63 : decode cX11_drift 63 = .ok (.iconst 2, 1) := by decide +kernel
theorem dX11_drift_64 : decode cX11_drift 64 = .ok (.aload_n 0, 1) := by decide +kernel
theorem dX11_drift_65 : decode cX11_drift 65 = .ok (.getfield 7, 3) := by decide +kernel
theorem dX11_drift_68 : decode cX11_drift 68 = .ok (.iconst 2, 1) := by decide +kernel
theorem dX11_drift_69 : decode cX11_drift 69 = .ok (.iaload, 1) := by decide +kernel
theorem dX11_drift_70 : decode cX11_drift 70 = .ok (.imul, 1) := by decide +kernel
theorem dX11_drift_71 : decode cX11_drift 71 = .ok (.iconst 1, 1) := by decide +kernel
theorem dX11_drift_72 : decode cX11_drift 72 = .ok (.iadd, 1) := by decide +kernel
theorem dX11_drift_73 : decode cX11_drift 73 = .ok (.invokevirtual 224, 3) := by decide +kernel
theorem dX11_drift_76 : decode cX11_drift 76 = .ok (.aload_n 0, 1) := by decide +kernel
theorem dX11_drift_77 : decode cX11_drift 77 = .ok (.getfield 7, 3) := by decide +kernel
theorem dX11_drift_80 : decode cX11_drift 80 = .ok (.iconst 2, 1) := by decide +kernel
theorem dX11_drift_81 : decode cX11_drift 81 = .ok (.iaload, 1) := by decide +kernel
theorem dX11_drift_82 : decode cX11_drift 82 = .ok (.isub, 1) := by decide +kernel
theorem dX11_drift_83 : decode cX11_drift 83 = .ok (.istore 5, 2) := by decide +kernel
theorem dX11_drift_85 : decode cX11_drift 85 = .ok (.iload 5, 2) := by decide +kernel
theorem dX11_drift_87 : decode cX11_drift 87 = .ok (.ifCond .eq 43, 3) := by decide +kernel
theorem dX11_drift_90 : decode cX11_drift 90 = .ok (.aload_n 0, 1) := by decide +kernel
theorem dX11_drift_91 : decode cX11_drift 91 = .ok (.getfield 16, 3) := by decide +kernel
theorem dX11_drift_94 : decode cX11_drift 94 = .ok (.iload 4, 2) := by decide +kernel
theorem dX11_drift_96 : decode cX11_drift 96 = .ok (.iaload, 1) := by decide +kernel
theorem dX11_drift_97 : decode cX11_drift 97 = .ok (.iload 5, 2) := by decide +kernel
theorem dX11_drift_99 : decode cX11_drift 99 = .ok (.iadd, 1) := by decide +kernel
theorem dX11_drift_100 : decode cX11_drift 100 = .ok (.i2l, 1) := by decide +kernel
theorem dX11_drift_101 : decode cX11_drift 101 = .ok (.lconst 1, 1) := by decide +kernel
theorem dX11_drift_102 : decode cX11_drift 102 = .ok (.ldc2_w 184, 3) := by decide +kernel
theorem dX11_drift_105 : decode cX11_drift 105 = .ok (.invokestatic 83, 3) := by decide +kernel
theorem dX11_drift_108 : decode cX11_drift 108 = .ok (.ifCond .eq 22, 3) := by decide +kernel
theorem dX11_drift_111 : decode cX11_drift 111 = .ok (.aload_n 0, 1) := by decide +kernel
theorem dX11_drift_112 : decode cX11_drift 112 = .ok (.iload 4, 2) := by decide +kernel
theorem dX11_drift_114 : decode cX11_drift 114 = .ok (.iload 5, 2) := by decide +kernel
theorem dX11_drift_116 : decode cX11_drift 116 = .ok (.invokevirtual 186, 3) := by decide +kernel
theorem dX11_drift_119 : decode cX11_drift 119 = .ok (.ifCond .eq 11, 3) := by decide +kernel
theorem dX11_drift_122 : decode cX11_drift 122 = .ok (.aload_n 0, 1) := by decide +kernel
theorem dX11_drift_123 : decode cX11_drift 123 = .ok (.iload 4, 2) := by decide +kernel
theorem dX11_drift_125 : decode cX11_drift 125 = .ok (.iload 5, 2) := by decide +kernel
theorem dX11_drift_127 : decode cX11_drift 127 = .ok (.invokevirtual 193, 3) := by decide +kernel
theorem dX11_drift_130 : decode cX11_drift 130 = .ok (.aload_n 0, 1) := by decide +kernel
theorem dX11_drift_131 : decode cX11_drift 131 = .ok (.invokevirtual 206, 3) := by decide +kernel
theorem dX11_drift_134 : decode cX11_drift 134 = .ok (.iinc 3 1, 3) := by decide +kernel
theorem dX11_drift_137 : decode cX11_drift 137 = .ok (.goto (-119), 3) := by decide +kernel
theorem dX11_drift_140 : decode cX11_drift 140 = .ok (.aload_n 0, 1) := by decide +kernel
theorem dX11_drift_141 : decode cX11_drift 141 = .ok (.getfield 16, 3) := by decide +kernel
theorem dX11_drift_144 : decode cX11_drift 144 = .ok (.bipush 10, 2) := by decide +kernel
theorem dX11_drift_146 : decode cX11_drift 146 = .ok (.iaload, 1) := by decide +kernel
theorem dX11_drift_147 : decode cX11_drift 147 = .ok (.ireturn, 1) := by decide +kernel
set_option maxRecDepth 20000 in
theorem ggX11_undo_X11_copies : GoodIn wsX11_undo wsX11_copies := goodIn_r _ [8] rfl (by decide +kernel)
set_option maxRecDepth 20000 in
theorem gX11_undo_X11_copies : GoodIn wsX11_undo (va_wsS RX11 176 yX11_copies wsX11_copies) := goodIn_app (goodIn_of _ (by decide +kernel)) ggX11_undo_X11_copies
theorem dX11_undo_0 : decode cX11_undo 0 = .ok (.aload_n 0, 1) := by decide +kernel
theorem dX11_undo_1 : decode cX11_undo 1 = .ok (.getfield 72, 3) := by decide +kernel
theorem dX11_undo_4 : decode cX11_undo 4 = .ok (.ifCond .ne 6, 3) := by decide +kernel
theorem dX11_undo_7 : decode cX11_undo 7 = .ok (.ldc 189, 2) := by decide +kernel
theorem dX11_undo_9 : decode cX11_undo 9 = .ok (.ireturn, 1) := by decide +kernel
theorem dX11_undo_10 : decode cX11_undo 10 = .ok (.aload_n 0, 1) := by decide +kernel
theorem dX11_undo_11 : decode cX11_undo 11 = .ok (.dup, 1) := by decide +kernel
theorem dX11_undo_12 : decode cX11_undo 12 = .ok (.getfield 72, 3) := by decide +kernel
theorem dX11_undo_15 : decode cX11_undo 15 = .ok (.iconst 1, 1) := by decide +kernel
theorem dX11_undo_16 : decode cX11_undo 16 = .ok (.isub, 1) := by decide +kernel
theorem dX11_undo_17 : decode cX11_undo 17 = .ok (.putfield 72, 3) := by decide +kernel
theorem dX11_undo_20 : decode cX11_undo 20 = .ok (.aload_n 0, 1) := by decide +kernel
theorem dX11_undo_21 : decode cX11_undo 21 = .ok (.getfield 19, 3) := by decide +kernel
theorem dX11_undo_24 : decode cX11_undo 24 = .ok (.bipush 14, 2) := by decide +kernel
theorem dX11_undo_26 : decode cX11_undo 26 = .ok (.aload_n 0, 1) := by decide +kernel
theorem dX11_undo_27 : decode cX11_undo 27 = .ok (.getfield 72, 3) := by decide +kernel
theorem dX11_undo_30 : decode cX11_undo 30 = .ok (.imul, 1) := by decide +kernel
theorem dX11_undo_31 : decode cX11_undo 31 = .ok (.aload_n 0, 1) := by decide +kernel
theorem dX11_undo_32 : decode cX11_undo 32 = .ok (.getfield 16, 3) := by decide +kernel
theorem dX11_undo_35 : decode cX11_undo 35 = .ok (.iconst 0, 1) := by decide +kernel
theorem dX11_undo_36 : decode cX11_undo 36 = .ok (.invokestatic 176, 3) := by decide +kernel
theorem dX11_undo_39 : decode cX11_undo 39 = .ok (.aload_n 0, 1) := by decide +kernel
theorem dX11_undo_40 : decode cX11_undo 40 = .ok (.getfield 72, 3) := by decide +kernel
theorem dX11_undo_43 : decode cX11_undo 43 = .ok (.ireturn, 1) := by decide +kernel
theorem dX11_otherEnd_0 : decode cX11_otherEnd 0 = .ok (.aload_n 0, 1) := by decide +kernel
theorem dX11_otherEnd_1 : decode cX11_otherEnd 1 = .ok (.getfield 7, 3) := by decide +kernel
theorem dX11_otherEnd_4 : decode cX11_otherEnd 4 = .ok (.iconst 5, 1) := by decide +kernel
theorem dX11_otherEnd_5 : decode cX11_otherEnd 5 = .ok (.iload_n 1, 1) := by decide +kernel
theorem dX11_otherEnd_6 : decode cX11_otherEnd 6 = .ok (.iadd, 1) := by decide +kernel
theorem dX11_otherEnd_7 : decode cX11_otherEnd 7 = .ok (.iaload, 1) := by decide +kernel
theorem dX11_otherEnd_8 : decode cX11_otherEnd 8 = .ok (.iload_n 2, 1) := by decide +kernel
theorem dX11_otherEnd_9 : decode cX11_otherEnd 9 = .ok (.if_icmp .ne 15, 3) := by decide +kernel
theorem dX11_otherEnd_12 : decode cX11_otherEnd 12 = .ok (.aload_n 0, 1) := by decide +kernel
theorem dX11_otherEnd_13 : decode cX11_otherEnd 13 = .ok (.getfield 7, 3) := by decide +kernel
theorem dX11_otherEnd_16 : decode cX11_otherEnd 16 = .ok (.bipush 14, 2) := by decide +kernel
theorem dX11_otherEnd_18 : decode cX11_otherEnd 18 = .ok (.iload_n 1, 1) := by decide +kernel
theorem dX11_otherEnd_19 : decode cX11_otherEnd 19 = .ok (.iadd, 1) := by decide +kernel
theorem dX11_otherEnd_20 : decode cX11_otherEnd 20 = .ok (.iaload, 1) := by decide +kernel
theorem dX11_otherEnd_21 : decode cX11_otherEnd 21 = .ok (.goto 28, 3) := by decide +kernel
theorem dX11_otherEnd_24 : decode cX11_otherEnd 24 = .ok (.aload_n 0, 1) := by decide +kernel
theorem dX11_otherEnd_25 : decode cX11_otherEnd 25 = .ok (.getfield 7, 3) := by decide +kernel
theorem dX11_otherEnd_28 : decode cX11_otherEnd 28 = .ok (.bipush 14, 2) := by decide +kernel
theorem dX11_otherEnd_30 : decode cX11_otherEnd 30 = .ok (.iload_n 1, 1) := by decide +kernel
theorem dX11_otherEnd_31 : decode cX11_otherEnd 31 = .ok (.iadd, 1) := by decide +kernel
theorem dX11_otherEnd_32 : decode cX11_otherEnd 32 = .ok (.iaload, 1) := by decide +kernel
theorem dX11_otherEnd_33 : decode cX11_otherEnd 33 = .ok (.iload_n 2, 1) := by decide +kernel
theorem dX11_otherEnd_34 : decode cX11_otherEnd 34 = .ok (.if_icmp .ne 14, 3) := by decide +kernel
theorem dX11_otherEnd_37 : decode cX11_otherEnd 37 = .ok (.aload_n 0, 1) := by decide +kernel
theorem dX11_otherEnd_38 : decode cX11_otherEnd 38 = .ok (.getfield 7, 3) := by decide +kernel
theorem dX11_otherEnd_41 : decode cX11_otherEnd 41 = .ok (.iconst 5, 1) := by decide +kernel
theorem dX11_otherEnd_42 : decode cX11_otherEnd 42 = .ok (.iload_n 1, 1) := by decide +kernel
theorem dX11_otherEnd_43 : decode cX11_otherEnd 43 = .ok (.iadd, 1) := by decide +kernel
theorem dX11_otherEnd_44 : decode cX11_otherEnd 44 = .ok (.iaload, 1) := by decide +kernel
theorem dX11_otherEnd_45 : decode cX11_otherEnd 45 = .ok (.goto 4, 3) := by decide +kernel
theorem dX11_otherEnd_48 : decode cX11_otherEnd 48 = .ok (.iconst (-1), 1) := by decide +kernel
theorem dX11_otherEnd_49 : decode cX11_otherEnd 49 = .ok (.ireturn, 1) := by decide +kernel
theorem dX11_layFar_0 : decode cX11_layFar 0 = .ok (.iconst 0, 1) := by decide +kernel
theorem dX11_layFar_1 : decode cX11_layFar 1 = .ok (.istore_n 3, 1) := by decide +kernel
theorem dX11_layFar_2 : decode cX11_layFar 2 = .ok (.iload_n 3, 1) := by decide +kernel
theorem dX11_layFar_3 : decode cX11_layFar 3 = .ok (.bipush 6, 2) := by decide +kernel
theorem dX11_layFar_5 : decode cX11_layFar 5 = .ok (.if_icmp .ge 26, 3) := by decide +kernel
theorem dX11_layFar_8 : decode cX11_layFar 8 = .ok (.aload_n 0, 1) := by decide +kernel
theorem dX11_layFar_9 : decode cX11_layFar 9 = .ok (.getfield 45, 3) := by decide +kernel
theorem dX11_layFar_12 : decode cX11_layFar 12 = .ok (.iload_n 3, 1) := by decide +kernel
theorem dX11_layFar_13 : decode cX11_layFar 13 = .ok (.iload_n 3, 1) := by decide +kernel
theorem dX11_layFar_14 : decode cX11_layFar 14 = .ok (.iload_n 1, 1) := by decide +kernel
theorem dX11_layFar_15 : decode cX11_layFar 15 = .ok (.if_icmp .ne 7, 3) := by decide +kernel
theorem dX11_layFar_18 : decode cX11_layFar 18 = .ok (.iconst 0, 1) := by decide +kernel
theorem dX11_layFar_19 : decode cX11_layFar 19 = .ok (.goto 5, 3) := by decide +kernel
theorem dX11_layFar_22 : decode cX11_layFar 22 = .ok (.ldc 227, 2) := by decide +kernel
