theorem dX11_init_140 : decode cX11_init 140 = .ok (.newarray .int, 2) := by decide +kernel
theorem dX11_init_142 : decode cX11_init 142 = .ok (.putfield 63, 3) := by decide +kernel
theorem dX11_init_145 : decode cX11_init 145 = .ok (.aload_n 0, 1) := by decide +kernel
theorem dX11_init_146 : decode cX11_init 146 = .ok (.iconst 5, 1) := by decide +kernel
theorem dX11_init_147 : decode cX11_init 147 = .ok (.newarray .int, 2) := by decide +kernel
theorem dX11_init_149 : decode cX11_init 149 = .ok (.putfield 66, 3) := by decide +kernel
theorem dX11_init_152 : decode cX11_init 152 = .ok (.aload_n 0, 1) := by decide +kernel
theorem dX11_init_153 : decode cX11_init 153 = .ok (.invokevirtual 69, 3) := by decide +kernel
theorem dX11_init_156 : decode cX11_init 156 = .ok (.return_, 1) := by decide +kernel
theorem dX11_in_0 : decode cX11_in 0 = .ok (.lload_n 0, 1) := by decide +kernel
theorem dX11_in_1 : decode cX11_in 1 = .ok (.lload_n 2, 1) := by decide +kernel
theorem dX11_in_2 : decode cX11_in 2 = .ok (.lcmp, 1) := by decide +kernel
theorem dX11_in_3 : decode cX11_in 3 = .ok (.ifCond .lt 14, 3) := by decide +kernel
theorem dX11_in_6 : decode cX11_in 6 = .ok (.lload_n 0, 1) := by decide +kernel
theorem dX11_in_7 : decode cX11_in 7 = .ok (.lload 4, 2) := by decide +kernel
theorem dX11_in_9 : decode cX11_in 9 = .ok (.lcmp, 1) := by decide +kernel
theorem dX11_in_10 : decode cX11_in 10 = .ok (.ifCond .gt 7, 3) := by decide +kernel
theorem dX11_in_13 : decode cX11_in 13 = .ok (.iconst 1, 1) := by decide +kernel
theorem dX11_in_14 : decode cX11_in 14 = .ok (.goto 4, 3) := by decide +kernel
theorem dX11_in_17 : decode cX11_in 17 = .ok (.iconst 0, 1) := by decide +kernel
theorem dX11_in_18 : decode cX11_in 18 = .ok (.ireturn, 1) := by decide +kernel
theorem dX11_has_0 : decode cX11_has 0 = .ok (.iload_n 0, 1) := by decide +kernel
theorem dX11_has_1 : decode cX11_has 1 = .ok (.iload_n 1, 1) := by decide +kernel
theorem dX11_has_2 : decode cX11_has 2 = .ok (.ishr, 1) := by decide +kernel
theorem dX11_has_3 : decode cX11_has 3 = .ok (.iconst 1, 1) := by decide +kernel
theorem dX11_has_4 : decode cX11_has 4 = .ok (.iand, 1) := by decide +kernel
theorem dX11_has_5 : decode cX11_has 5 = .ok (.iconst 1, 1) := by decide +kernel
theorem dX11_has_6 : decode cX11_has 6 = .ok (.if_icmp .ne 7, 3) := by decide +kernel
theorem dX11_has_9 : decode cX11_has 9 = .ok (.iconst 1, 1) := by decide +kernel
theorem dX11_has_10 : decode cX11_has 10 = .ok (.goto 4, 3) := by decide +kernel
theorem dX11_has_13 : decode cX11_has 13 = .ok (.iconst 0, 1) := by decide +kernel
theorem dX11_has_14 : decode cX11_has 14 = .ok (.ireturn, 1) := by decide +kernel
theorem dX11_bits_0 : decode cX11_bits 0 = .ok (.iconst 0, 1) := by decide +kernel
theorem dX11_bits_1 : decode cX11_bits 1 = .ok (.istore_n 1, 1) := by decide +kernel
theorem dX11_bits_2 : decode cX11_bits 2 = .ok (.iload_n 0, 1) := by decide +kernel
theorem dX11_bits_3 : decode cX11_bits 3 = .ok (.istore_n 2, 1) := by decide +kernel
theorem dX11_bits_4 : decode cX11_bits 4 = .ok (.iload_n 2, 1) := by decide +kernel
theorem dX11_bits_5 : decode cX11_bits 5 = .ok (.ifCond .eq 15, 3) := by decide +kernel
theorem dX11_bits_8 : decode cX11_bits 8 = .ok (.iinc 1 1, 3) := by decide +kernel
theorem dX11_bits_11 : decode cX11_bits 11 = .ok (.iload_n 2, 1) := by decide +kernel
theorem dX11_bits_12 : decode cX11_bits 12 = .ok (.iload_n 2, 1) := by decide +kernel
theorem dX11_bits_13 : decode cX11_bits 13 = .ok (.iconst 1, 1) := by decide +kernel
theorem dX11_bits_14 : decode cX11_bits 14 = .ok (.isub, 1) := by decide +kernel
theorem dX11_bits_15 : decode cX11_bits 15 = .ok (.iand, 1) := by decide +kernel
theorem dX11_bits_16 : decode cX11_bits 16 = .ok (.istore_n 2, 1) := by decide +kernel
theorem dX11_bits_17 : decode cX11_bits 17 = .ok (.goto (-13), 3) := by decide +kernel
theorem dX11_bits_20 : decode cX11_bits 20 = .ok (.iload_n 1, 1) := by decide +kernel
theorem dX11_bits_21 : decode cX11_bits 21 = .ok (.ireturn, 1) := by decide +kernel
theorem dX11_begins_0 : decode cX11_begins 0 = .ok (.iconst 0, 1) := by decide +kernel
theorem dX11_begins_1 : decode cX11_begins 1 = .ok (.istore_n 1, 1) := by decide +kernel
theorem dX11_begins_2 : decode cX11_begins 2 = .ok (.iload_n 1, 1) := by decide +kernel
theorem dX11_begins_3 : decode cX11_begins 3 = .ok (.bipush 9, 2) := by decide +kernel
theorem dX11_begins_5 : decode cX11_begins 5 = .ok (.if_icmp .ge 31, 3) := by decide +kernel
theorem dX11_begins_8 : decode cX11_begins 8 = .ok (.aload_n 0, 1) := by decide +kernel
theorem dX11_begins_9 : decode cX11_begins 9 = .ok (.getfield 16, 3) := by decide +kernel
theorem dX11_begins_12 : decode cX11_begins 12 = .ok (.iload_n 1, 1) := by decide +kernel
theorem dX11_begins_13 : decode cX11_begins 13 = .ok (.aload_n 0, 1) := by decide +kernel
theorem dX11_begins_14 : decode cX11_begins 14 = .ok (.getfield 7, 3) := by decide +kernel
theorem dX11_begins_17 : decode cX11_begins 17 = .ok (.bipush 32, 2) := by decide +kernel
theorem dX11_begins_19 : decode cX11_begins 19 = .ok (.iload_n 1, 1) := by decide +kernel
theorem dX11_begins_20 : decode cX11_begins 20 = .ok (.iadd, 1) := by decide +kernel
theorem dX11_begins_21 : decode cX11_begins 21 = .ok (.iaload, 1) := by decide +kernel
theorem dX11_begins_22 : decode cX11_begins 22 = .ok (.iastore, 1) := by decide +kernel
theorem dX11_begins_23 : decode cX11_begins 23 = .ok (.aload_n 0, 1) := by decide +kernel
theorem dX11_begins_24 : decode cX11_begins 24 = .ok (.getfield 36, 3) := by decide +kernel
theorem dX11_begins_27 : decode cX11_begins 27 = .ok (.iload_n 1, 1) := by decide +kernel
theorem dX11_begins_28 : decode cX11_begins 28 = .ok (.iconst 0, 1) := by decide +kernel
theorem dX11_begins_29 : decode cX11_begins 29 = .ok (.iastore, 1) := by decide +kernel
theorem dX11_begins_30 : decode cX11_begins 30 = .ok (.iinc 1 1, 3) := by decide +kernel
theorem dX11_begins_33 : decode cX11_begins 33 = .ok (.goto (-31), 3) := by decide +kernel
theorem dX11_begins_36 : decode cX11_begins 36 = .ok (.aload_n 0, 1) := by decide +kernel
theorem dX11_begins_37 : decode cX11_begins 37 = .ok (.getfield 16, 3) := by decide +kernel
theorem dX11_begins_40 : decode cX11_begins 40 = .ok (.bipush 9, 2) := by decide +kernel
theorem dX11_begins_42 : decode cX11_begins 42 = .ok (.iconst 0, 1) := by decide +kernel
theorem dX11_begins_43 : decode cX11_begins 43 = .ok (.iastore, 1) := by decide +kernel
theorem dX11_begins_44 : decode cX11_begins 44 = .ok (.aload_n 0, 1) := by decide +kernel
theorem dX11_begins_45 : decode cX11_begins 45 = .ok (.getfield 16, 3) := by decide +kernel
theorem dX11_begins_48 : decode cX11_begins 48 = .ok (.bipush 10, 2) := by decide +kernel
theorem dX11_begins_50 : decode cX11_begins 50 = .ok (.iconst 0, 1) := by decide +kernel
theorem dX11_begins_51 : decode cX11_begins 51 = .ok (.iastore, 1) := by decide +kernel
theorem dX11_begins_52 : decode cX11_begins 52 = .ok (.aload_n 0, 1) := by decide +kernel
theorem dX11_begins_53 : decode cX11_begins 53 = .ok (.getfield 16, 3) := by decide +kernel
theorem dX11_begins_56 : decode cX11_begins 56 = .ok (.bipush 11, 2) := by decide +kernel
theorem dX11_begins_58 : decode cX11_begins 58 = .ok (.iconst 0, 1) := by decide +kernel
theorem dX11_begins_59 : decode cX11_begins 59 = .ok (.iastore, 1) := by decide +kernel
theorem dX11_begins_60 : decode cX11_begins 60 = .ok (.aload_n 0, 1) := by decide +kernel
theorem dX11_begins_61 : decode cX11_begins 61 = .ok (.getfield 16, 3) := by decide +kernel
theorem dX11_begins_64 : decode cX11_begins 64 = .ok (.bipush 12, 2) := by decide +kernel
theorem dX11_begins_66 : decode cX11_begins 66 = .ok (.iconst (-1), 1) := by decide +kernel
theorem dX11_begins_67 : decode cX11_begins 67 = .ok (.iastore, 1) := by decide +kernel
theorem dX11_begins_68 : decode cX11_begins 68 = .ok (.aload_n 0, 1) := by decide +kernel
theorem dX11_begins_69 : decode cX11_begins 69 = .ok (.getfield 16, 3) := by decide +kernel
theorem dX11_begins_72 : decode cX11_begins 72 = .ok (.bipush 13, 2) := by decide +kernel
theorem dX11_begins_74 : decode cX11_begins 74 = .ok (.iconst (-1), 1) := by decide +kernel
theorem dX11_begins_75 : decode cX11_begins 75 = .ok (.iastore, 1) := by decide +kernel
theorem dX11_begins_76 : decode cX11_begins 76 = .ok (.aload_n 0, 1) := by decide +kernel
theorem dX11_begins_77 : decode cX11_begins 77 = .ok (.iconst 0, 1) := by decide +kernel
theorem dX11_begins_78 : decode cX11_begins 78 = .ok (.putfield 72, 3) := by decide +kernel
theorem dX11_begins_81 : decode cX11_begins 81 = .ok (.aload_n 0, 1) := by decide +kernel
theorem dX11_begins_82 : decode cX11_begins 82 = .ok (.iconst 0, 1) := by decide +kernel
theorem dX11_begins_83 : decode cX11_begins 83 = .ok (.putfield 75, 3) := by decide +kernel
theorem dX11_begins_86 : decode cX11_begins 86 = .ok (.aload_n 0, 1) := by decide +kernel
theorem dX11_begins_87 : decode cX11_begins 87 = .ok (.iconst 0, 1) := by decide +kernel
theorem dX11_begins_88 : decode cX11_begins 88 = .ok (.putfield 78, 3) := by decide +kernel
theorem dX11_begins_91 : decode cX11_begins 91 = .ok (.aload_n 0, 1) := by decide +kernel
theorem dX11_begins_92 : decode cX11_begins 92 = .ok (.getfield 25, 3) := by decide +kernel
theorem dX11_begins_95 : decode cX11_begins 95 = .ok (.iconst 0, 1) := by decide +kernel
theorem dX11_begins_96 : decode cX11_begins 96 = .ok (.iconst 0, 1) := by decide +kernel
theorem dX11_begins_97 : decode cX11_begins 97 = .ok (.bastore, 1) := by decide +kernel
theorem dX11_begins_98 : decode cX11_begins 98 = .ok (.aload_n 0, 1) := by decide +kernel
theorem dX11_begins_99 : decode cX11_begins 99 = .ok (.getfield 25, 3) := by decide +kernel
theorem dX11_begins_102 : decode cX11_begins 102 = .ok (.iconst 1, 1) := by decide +kernel
theorem dX11_begins_103 : decode cX11_begins 103 = .ok (.iconst 0, 1) := by decide +kernel
theorem dX11_begins_104 : decode cX11_begins 104 = .ok (.bastore, 1) := by decide +kernel
theorem dX11_begins_105 : decode cX11_begins 105 = .ok (.return_, 1) := by decide +kernel
set_option maxRecDepth 20000 in
theorem ggX11_feed_X11_in : GoodIn wsX11_feed wsX11_in := goodIn_r _ [9] rfl (by decide +kernel)
set_option maxRecDepth 20000 in
theorem gX11_feed_X11_in : GoodIn wsX11_feed (va_wsS RX11 83 yX11_in wsX11_in) := goodIn_app (goodIn_of _ (by decide +kernel)) ggX11_feed_X11_in
theorem dX11_feed_0 : decode cX11_feed 0 = .ok (.iload_n 1, 1) := by decide +kernel
theorem dX11_feed_1 : decode cX11_feed 1 = .ok (.i2l, 1) := by decide +kernel
theorem dX11_feed_2 : decode cX11_feed 2 = .ok (.lconst 0, 1) := by decide +kernel
theorem dX11_feed_3 : decode cX11_feed 3 = .ok (.ldc2_w 81, 3) := by decide +kernel
theorem dX11_feed_6 : decode cX11_feed 6 = .ok (.invokestatic 83, 3) := by decide +kernel
theorem dX11_feed_9 : decode cX11_feed 9 = .ok (.ifCond .ne 6, 3) := by decide +kernel
theorem dX11_feed_12 : decode cX11_feed 12 = .ok (.ldc 87, 2) := by decide +kernel
theorem dX11_feed_14 : decode cX11_feed 14 = .ok (.ireturn, 1) := by decide +kernel
theorem dX11_feed_15 : decode cX11_feed 15 = .ok (.aload_n 0, 1) := by decide +kernel
theorem dX11_feed_16 : decode cX11_feed 16 = .ok (.getfield 88, 3) := by decide +kernel
theorem dX11_feed_19 : decode cX11_feed 19 = .ok (.sipush 250, 3) := by decide +kernel
theorem dX11_feed_22 : decode cX11_feed 22 = .ok (.if_icmp .ne 6, 3) := by decide +kernel
theorem dX11_feed_25 : decode cX11_feed 25 = .ok (.ldc 91, 2) := by decide +kernel
theorem dX11_feed_27 : decode cX11_feed 27 = .ok (.ireturn, 1) := by decide +kernel
theorem dX11_feed_28 : decode cX11_feed 28 = .ok (.aload_n 0, 1) := by decide +kernel
theorem dX11_feed_29 : decode cX11_feed 29 = .ok (.getfield 29, 3) := by decide +kernel
theorem dX11_feed_32 : decode cX11_feed 32 = .ok (.aload_n 0, 1) := by decide +kernel
theorem dX11_feed_33 : decode cX11_feed 33 = .ok (.getfield 88, 3) := by decide +kernel
theorem dX11_feed_36 : decode cX11_feed 36 = .ok (.iload_n 1, 1) := by decide +kernel
theorem dX11_feed_37 : decode cX11_feed 37 = .ok (.iastore, 1) := by decide +kernel
theorem dX11_feed_38 : decode cX11_feed 38 = .ok (.aload_n 0, 1) := by decide +kernel
theorem dX11_feed_39 : decode cX11_feed 39 = .ok (.dup, 1) := by decide +kernel
theorem dX11_feed_40 : decode cX11_feed 40 = .ok (.getfield 88, 3) := by decide +kernel
theorem dX11_feed_43 : decode cX11_feed 43 = .ok (.iconst 1, 1) := by decide +kernel
theorem dX11_feed_44 : decode cX11_feed 44 = .ok (.iadd, 1) := by decide +kernel
theorem dX11_feed_45 : decode cX11_feed 45 = .ok (.putfield 88, 3) := by decide +kernel
theorem dX11_feed_48 : decode cX11_feed 48 = .ok (.aload_n 0, 1) := by decide +kernel
theorem dX11_feed_49 : decode cX11_feed 49 = .ok (.getfield 88, 3) := by decide +kernel
theorem dX11_feed_52 : decode cX11_feed 52 = .ok (.ireturn, 1) := by decide +kernel
theorem dX11_here_0 : decode cX11_here 0 = .ok (.aload_n 0, 1) := by decide +kernel
theorem dX11_here_1 : decode cX11_here 1 = .ok (.getfield 92, 3) := by decide +kernel
theorem dX11_here_4 : decode cX11_here 4 = .ok (.aload_n 0, 1) := by decide +kernel
theorem dX11_here_5 : decode cX11_here 5 = .ok (.getfield 88, 3) := by decide +kernel
theorem dX11_here_8 : decode cX11_here 8 = .ok (.if_icmp .ge 15, 3) := by decide +kernel
theorem dX11_here_11 : decode cX11_here 11 = .ok (.aload_n 0, 1) := by decide +kernel
theorem dX11_here_12 : decode cX11_here 12 = .ok (.getfield 29, 3) := by decide +kernel
theorem dX11_here_15 : decode cX11_here 15 = .ok (.aload_n 0, 1) := by decide +kernel
theorem dX11_here_16 : decode cX11_here 16 = .ok (.getfield 92, 3) := by decide +kernel
theorem dX11_here_19 : decode cX11_here 19 = .ok (.iaload, 1) := by decide +kernel
theorem dX11_here_20 : decode cX11_here 20 = .ok (.goto 4, 3) := by decide +kernel
theorem dX11_here_23 : decode cX11_here 23 = .ok (.iconst (-1), 1) := by decide +kernel
theorem dX11_here_24 : decode cX11_here 24 = .ok (.ireturn, 1) := by decide +kernel
set_option maxRecDepth 20000 in
theorem ggX11_next_X11_here : GoodIn wsX11_next wsX11_here := goodIn_r _ [12, 1, 13, 14, 18, 19, 20, 21, 22, 23, 24, 25, 26, 27, 28, 29, 30, 31, 32, 33, 34, 35, 36, 37, 38, 39, 40, 41, 42, 43, 44, 45, 46, 47, 48, 49] rfl (by decide +kernel)
set_option maxRecDepth 20000 in
theorem gX11_next_X11_here : GoodIn wsX11_next (wsV RX11 95 RX11 yX11_here wsX11_here) := goodIn_app (goodIn_of _ (by decide +kernel)) ggX11_next_X11_here
set_option maxRecDepth 20000 in
theorem ggX11_next_X11_in : GoodIn wsX11_next wsX11_in := goodIn_r _ [17] rfl (by decide +kernel)
set_option maxRecDepth 20000 in
theorem gX11_next_X11_in : GoodIn wsX11_next (va_wsS RX11 83 yX11_in wsX11_in) := goodIn_app (goodIn_of _ (by decide +kernel)) ggX11_next_X11_in
theorem dX11_next_0 : decode cX11_next 0 = .ok (.aload_n 0, 1) := by decide +kernel
theorem dX11_next_1 : decode cX11_next 1 = .ok (.invokevirtual 95, 3) := by decide +kernel
theorem dX11_next_4 : decode cX11_next 4 = .ok (.bipush 32, 2) := by decide +kernel
theorem dX11_next_6 : decode cX11_next 6 = .ok (.if_icmp .ne 16, 3) := by decide +kernel
theorem dX11_next_9 : decode cX11_next 9 = .ok (.aload_n 0, 1) := by decide +kernel
theorem dX11_next_10 : decode cX11_next 10 = .ok (.dup, 1) := by decide +kernel
theorem dX11_next_11 : decode cX11_next 11 = .ok (.getfield 92, 3) := by decide +kernel
theorem dX11_next_14 : decode cX11_next 14 = .ok (.iconst 1, 1) := by decide +kernel
theorem dX11_next_15 : decode cX11_next 15 = .ok (.iadd, 1) := by decide +kernel
theorem dX11_next_16 : decode cX11_next 16 = .ok (.putfield 92, 3) := by decide +kernel
theorem dX11_next_19 : decode cX11_next 19 = .ok (.goto (-19), 3) := by decide +kernel
theorem dX11_next_22 : decode cX11_next 22 = .ok (.aload_n 0, 1) := by decide +kernel
theorem dX11_next_23 : decode cX11_next 23 = .ok (.aload_n 0, 1) := by decide +kernel
theorem dX11_next_24 : decode cX11_next 24 = .ok (.getfield 92, 3) := by decide +kernel
theorem dX11_next_27 : decode cX11_next 27 = .ok (.putfield 99, 3) := by decide +kernel
theorem dX11_next_30 : decode cX11_next 30 = .ok (.aload_n 0, 1) := by decide +kernel
theorem dX11_next_31 : decode cX11_next 31 = .ok (.aload_n 0, 1) := by decide +kernel
theorem dX11_next_32 : decode cX11_next 32 = .ok (.invokevirtual 95, 3) := by decide +kernel
theorem dX11_next_35 : decode cX11_next 35 = .ok (.putfield 102, 3) := by decide +kernel
theorem dX11_next_38 : decode cX11_next 38 = .ok (.aload_n 0, 1) := by decide +kernel
theorem dX11_next_39 : decode cX11_next 39 = .ok (.iconst 0, 1) := by decide +kernel
theorem dX11_next_40 : decode cX11_next 40 = .ok (.putfield 105, 3) := by decide +kernel
theorem dX11_next_43 : decode cX11_next 43 = .ok (.aload_n 0, 1) := by decide +kernel
theorem dX11_next_44 : decode cX11_next 44 = .ok (.iconst 0, 1) := by decide +kernel
theorem dX11_next_45 : decode cX11_next 45 = .ok (.putfield 108, 3) := by decide +kernel
theorem dX11_next_48 : decode cX11_next 48 = .ok (.aload_n 0, 1) := by decide +kernel
theorem dX11_next_49 : decode cX11_next 49 = .ok (.getfield 102, 3) := by decide +kernel
theorem dX11_next_52 : decode cX11_next 52 = .ok (.i2l, 1) := by decide +kernel
theorem dX11_next_53 : decode cX11_next 53 = .ok (.ldc2_w 111, 3) := by decide +kernel
theorem dX11_next_56 : decode cX11_next 56 = .ok (.ldc2_w 113, 3) := by decide +kernel
theorem dX11_next_59 : decode cX11_next 59 = .ok (.invokestatic 83, 3) := by decide +kernel
theorem dX11_next_62 : decode cX11_next 62 = .ok (.ifCond .ne 25, 3) := by decide +kernel
theorem dX11_next_65 : decode cX11_next 65 = .ok (.aload_n 0, 1) := by decide +kernel
theorem dX11_next_66 : decode cX11_next 66 = .ok (.dup, 1) := by decide +kernel
theorem dX11_next_67 : decode cX11_next 67 = .ok (.getfield 92, 3) := by decide +kernel
theorem dX11_next_70 : decode cX11_next 70 = .ok (.aload_n 0, 1) := by decide +kernel
theorem dX11_next_71 : decode cX11_next 71 = .ok (.getfield 102, 3) := by decide +kernel
theorem dX11_next_74 : decode cX11_next 74 = .ok (.ifCond .ge 7, 3) := by decide +kernel
theorem dX11_next_77 : decode cX11_next 77 = .ok (.iconst 0, 1) := by decide +kernel
theorem dX11_next_78 : decode cX11_next 78 = .ok (.goto 4, 3) := by decide +kernel
theorem dX11_next_81 : decode cX11_next 81 = .ok (.iconst 1, 1) := by decide +kernel
theorem dX11_next_82 : decode cX11_next 82 = .ok (.iadd, 1) := by decide +kernel
theorem dX11_next_83 : decode cX11_next 83 = .ok (.putfield 92, 3) := by decide +kernel
theorem dX11_next_86 : decode cX11_next 86 = .ok (.return_, 1) := by decide +kernel
theorem dX11_next_87 : decode cX11_next 87 = .ok (.aload_n 0, 1) := by decide +kernel
theorem dX11_next_88 : decode cX11_next 88 = .ok (.bipush 48, 2) := by decide +kernel
theorem dX11_next_90 : decode cX11_next 90 = .ok (.putfield 102, 3) := by decide +kernel
theorem dX11_next_93 : decode cX11_next 93 = .ok (.aload_n 0, 1) := by decide +kernel
theorem dX11_next_94 : decode cX11_next 94 = .ok (.invokevirtual 95, 3) := by decide +kernel
theorem dX11_next_97 : decode cX11_next 97 = .ok (.i2l, 1) := by decide +kernel
theorem dX11_next_98 : decode cX11_next 98 = .ok (.ldc2_w 111, 3) := by decide +kernel
theorem dX11_next_101 : decode cX11_next 101 = .ok (.ldc2_w 113, 3) := by decide +kernel
theorem dX11_next_104 : decode cX11_next 104 = .ok (.invokestatic 83, 3) := by decide +kernel
theorem dX11_next_107 : decode cX11_next 107 = .ok (.ifCond .eq 60, 3) := by decide +kernel
theorem dX11_next_110 : decode cX11_next 110 = .ok (.aload_n 0, 1) := by decide +kernel
theorem dX11_next_111 : decode cX11_next 111 = .ok (.aload_n 0, 1) := by decide +kernel
theorem dX11_next_112 : decode cX11_next 112 = .ok (.getfield 105, 3) := by decide +kernel
theorem dX11_next_115 : decode cX11_next 115 = .ok (.iconst 3, 1) := by decide +kernel
theorem dX11_next_116 : decode cX11_next 116 = .ok (.if_icmp .ge 21, 3) := by decide +kernel
theorem dX11_next_119 : decode cX11_next 119 = .ok (.bipush 10, 2) := by decide +kernel
theorem dX11_next_121 : decode cX11_next 121 = .ok (.aload_n 0, 1) := by decide +kernel
theorem dX11_next_122 : decode cX11_next 122 = .ok (.getfield 108, 3) := by decide +kernel
theorem dX11_next_125 : decode cX11_next 125 = .ok (.imul, 1) := by decide +kernel
theorem dX11_next_126 : decode cX11_next 126 = .ok (.aload_n 0, 1) := by decide +kernel
theorem dX11_next_127 : decode cX11_next 127 = .ok (.invokevirtual 95, 3) := by decide +kernel
theorem dX11_next_130 : decode cX11_next 130 = .ok (.iadd, 1) := by decide +kernel
theorem dX11_next_131 : decode cX11_next 131 = .ok (.bipush 48, 2) := by decide +kernel
theorem dX11_next_133 : decode cX11_next 133 = .ok (.isub, 1) := by decide +kernel
theorem dX11_next_134 : decode cX11_next 134 = .ok (.goto 7, 3) := by decide +kernel
theorem dX11_next_137 : decode cX11_next 137 = .ok (.aload_n 0, 1) := by decide +kernel
theorem dX11_next_138 : decode cX11_next 138 = .ok (.getfield 108, 3) := by decide +kernel
theorem dX11_next_141 : decode cX11_next 141 = .ok (.putfield 108, 3) := by decide +kernel
theorem dX11_next_144 : decode cX11_next 144 = .ok (.aload_n 0, 1) := by decide +kernel
theorem dX11_next_145 : decode cX11_next 145 = .ok (.dup, 1) := by decide +kernel
theorem dX11_next_146 : decode cX11_next 146 = .ok (.getfield 105, 3) := by decide +kernel
theorem dX11_next_149 : decode cX11_next 149 = .ok (.iconst 1, 1) := by decide +kernel
theorem dX11_next_150 : decode cX11_next 150 = .ok (.iadd, 1) := by decide +kernel
theorem dX11_next_151 : decode cX11_next 151 = .ok (.putfield 105, 3) := by decide +kernel
theorem dX11_next_154 : decode cX11_next 154 = .ok (.aload_n 0, 1) := by decide +kernel
theorem dX11_next_155 : decode cX11_next 155 = .ok (.dup, 1) := by decide +kernel
theorem dX11_next_156 : decode cX11_next 156 = .ok (.getfield 92, 3) := by decide +kernel
theorem dX11_next_159 : decode cX11_next 159 = .ok (.iconst 1, 1) := by decide +kernel
theorem dX11_next_160 : decode cX11_next 160 = .ok (.iadd, 1) := by decide +kernel
theorem dX11_next_161 : decode cX11_next 161 = .ok (.putfield 92, 3) := by decide +kernel
theorem dX11_next_164 : decode cX11_next 164 = .ok (.goto (-71), 3) := by decide +kernel
theorem dX11_next_167 : decode cX11_next 167 = .ok (.return_, 1) := by decide +kernel
theorem dX11_fails_0 : decode cX11_fails 0 = .ok (.aload_n 0, 1) := by decide +kernel
theorem dX11_fails_1 : decode cX11_fails 1 = .ok (.iload_n 1, 1) := by decide +kernel
theorem dX11_fails_2 : decode cX11_fails 2 = .ok (.putfield 115, 3) := by decide +kernel
theorem dX11_fails_5 : decode cX11_fails 5 = .ok (.iconst 0, 1) := by decide +kernel
theorem dX11_fails_6 : decode cX11_fails 6 = .ok (.ireturn, 1) := by decide +kernel
set_option maxRecDepth 20000 in
theorem ggX11_isNumber_X11_fails : GoodIn wsX11_isNumber wsX11_fails := goodIn_r _ [9, 10, 14, 15, 16, 17, 18, 19, 20, 21, 22, 23, 24, 25, 26, 27, 28, 29, 30, 31, 32, 33, 34, 35, 36, 37, 38, 39, 40, 41, 42, 43, 44, 45] rfl (by decide +kernel)
set_option maxRecDepth 20000 in
theorem gX11_isNumber_X11_fails : GoodIn wsX11_isNumber (wsV RX11 118 RX11 yX11_fails wsX11_fails) := goodIn_app (goodIn_of _ (by decide +kernel)) ggX11_isNumber_X11_fails
set_option maxRecDepth 20000 in
theorem ggX11_isNumber_X11_in : GoodIn wsX11_isNumber wsX11_in := goodIn_r _ [13] rfl (by decide +kernel)
set_option maxRecDepth 20000 in
theorem gX11_isNumber_X11_in : GoodIn wsX11_isNumber (va_wsS RX11 83 yX11_in wsX11_in) := goodIn_app (goodIn_of _ (by decide +kernel)) ggX11_isNumber_X11_in
theorem dX11_isNumber_0 : decode cX11_isNumber 0 = .ok (.aload_n 0, 1) := by decide +kernel
theorem dX11_isNumber_1 : decode cX11_isNumber 1 = .ok (.getfield 102, 3) := by decide +kernel
theorem dX11_isNumber_4 : decode cX11_isNumber 4 = .ok (.bipush 48, 2) := by decide +kernel
theorem dX11_isNumber_6 : decode cX11_isNumber 6 = .ok (.if_icmp .eq 9, 3) := by decide +kernel
theorem dX11_isNumber_9 : decode cX11_isNumber 9 = .ok (.aload_n 0, 1) := by decide +kernel
theorem dX11_isNumber_10 : decode cX11_isNumber 10 = .ok (.iconst 1, 1) := by decide +kernel
theorem dX11_isNumber_11 : decode cX11_isNumber 11 = .ok (.invokevirtual 118, 3) := by decide +kernel
theorem dX11_isNumber_14 : decode cX11_isNumber 14 = .ok (.ireturn, 1) := by decide +kernel
theorem dX11_isNumber_15 : decode cX11_isNumber 15 = .ok (.aload_n 0, 1) := by decide +kernel
theorem dX11_isNumber_16 : decode cX11_isNumber 16 = .ok (.getfield 105, 3) := by decide +kernel
theorem dX11_isNumber_19 : decode cX11_isNumber 19 = .ok (.iconst 3, 1) := by decide +kernel
theorem dX11_isNumber_20 : decode cX11_isNumber 20 = .ok (.if_icmp .gt 18, 3) := by decide +kernel
theorem dX11_isNumber_23 : decode cX11_isNumber 23 = .ok (.aload_n 0, 1) := by decide +kernel
theorem dX11_isNumber_24 : decode cX11_isNumber 24 = .ok (.getfield 108, 3) := by decide +kernel
theorem dX11_isNumber_27 : decode cX11_isNumber 27 = .ok (.i2l, 1) := by decide +kernel
theorem dX11_isNumber_28 : decode cX11_isNumber 28 = .ok (.iload_n 2, 1) := by decide +kernel
theorem dX11_isNumber_29 : decode cX11_isNumber 29 = .ok (.i2l, 1) := by decide +kernel
theorem dX11_isNumber_30 : decode cX11_isNumber 30 = .ok (.iload_n 3, 1) := by decide +kernel
theorem dX11_isNumber_31 : decode cX11_isNumber 31 = .ok (.i2l, 1) := by decide +kernel
theorem dX11_isNumber_32 : decode cX11_isNumber 32 = .ok (.invokestatic 83, 3) := by decide +kernel
theorem dX11_isNumber_35 : decode cX11_isNumber 35 = .ok (.ifCond .ne 9, 3) := by decide +kernel
theorem dX11_isNumber_38 : decode cX11_isNumber 38 = .ok (.aload_n 0, 1) := by decide +kernel
theorem dX11_isNumber_39 : decode cX11_isNumber 39 = .ok (.iconst 2, 1) := by decide +kernel
theorem dX11_isNumber_40 : decode cX11_isNumber 40 = .ok (.invokevirtual 118, 3) := by decide +kernel
theorem dX11_isNumber_43 : decode cX11_isNumber 43 = .ok (.ireturn, 1) := by decide +kernel
theorem dX11_isNumber_44 : decode cX11_isNumber 44 = .ok (.aload_n 0, 1) := by decide +kernel
theorem dX11_isNumber_45 : decode cX11_isNumber 45 = .ok (.getfield 13, 3) := by decide +kernel
theorem dX11_isNumber_48 : decode cX11_isNumber 48 = .ok (.iload_n 1, 1) := by decide +kernel
theorem dX11_isNumber_49 : decode cX11_isNumber 49 = .ok (.aload_n 0, 1) := by decide +kernel
theorem dX11_isNumber_50 : decode cX11_isNumber 50 = .ok (.getfield 108, 3) := by decide +kernel
theorem dX11_isNumber_53 : decode cX11_isNumber 53 = .ok (.iastore, 1) := by decide +kernel
theorem dX11_isNumber_54 : decode cX11_isNumber 54 = .ok (.iconst 1, 1) := by decide +kernel
theorem dX11_isNumber_55 : decode cX11_isNumber 55 = .ok (.ireturn, 1) := by decide +kernel
set_option maxRecDepth 20000 in
theorem ggX11_number_X11_next : GoodIn wsX11_number wsX11_next := goodIn_r _ [5, 6, 7, 8, 9, 10, 11, 12, 13, 14, 15, 4, 16, 17, 18, 19, 20, 21, 32, 33, 34, 35, 36, 37, 38, 39, 40, 41, 42, 43, 44, 45, 46, 47, 48, 49, 50, 51, 52, 53, 54, 55, 56, 57, 58, 59, 60, 61, 62, 63] rfl (by decide +kernel)
set_option maxRecDepth 20000 in
theorem gX11_number_X11_next : GoodIn wsX11_number (wsV RX11 122 RX11 yX11_next wsX11_next) := goodIn_app (goodIn_of _ (by decide +kernel)) ggX11_number_X11_next
set_option maxRecDepth 20000 in
theorem ggX11_number_X11_isNumber : GoodIn wsX11_number wsX11_isNumber := goodIn_r _ [25, 8, 9, 10, 26, 27, 28, 29, 4, 30, 31, 19, 20, 21, 32, 33, 34, 35, 36, 37, 38, 39, 40, 41, 42, 43, 44, 45, 46, 47, 48, 49, 50, 51, 52, 53, 54, 55, 56, 57, 58, 59, 60, 61, 62, 63] rfl (by decide +kernel)
set_option maxRecDepth 20000 in
theorem gX11_number_X11_isNumber : GoodIn wsX11_number (wsV RX11 125 RX11 yX11_isNumber wsX11_isNumber) := goodIn_app (goodIn_of _ (by decide +kernel)) ggX11_number_X11_isNumber
theorem dX11_number_0 : decode cX11_number 0 = .ok (.aload_n 0, 1) := by decide +kernel
theorem dX11_number_1 : decode cX11_number 1 = .ok (.invokevirtual 122, 3) := by decide +kernel
theorem dX11_number_4 : decode cX11_number 4 = .ok (.aload_n 0, 1) := by decide +kernel
theorem dX11_number_5 : decode cX11_number 5 = .ok (.iload_n 1, 1) := by decide +kernel
theorem dX11_number_6 : decode cX11_number 6 = .ok (.iload_n 2, 1) := by decide +kernel
theorem dX11_number_7 : decode cX11_number 7 = .ok (.iload_n 3, 1) := by decide +kernel
theorem dX11_number_8 : decode cX11_number 8 = .ok (.invokevirtual 125, 3) := by decide +kernel
theorem dX11_number_11 : decode cX11_number 11 = .ok (.ireturn, 1) := by decide +kernel
set_option maxRecDepth 20000 in
theorem ggX11_ends_X11_next : GoodIn wsX11_ends wsX11_next := goodIn_r _ [6, 7, 8, 1, 9, 10, 11, 12, 13, 14, 15, 5, 16, 17, 18, 19, 20, 21, 27, 28, 29, 30, 31, 32, 33, 34, 35, 36, 37, 38, 39, 40, 41, 42, 43, 44, 45, 46, 47, 48, 49, 50, 51, 52, 53, 54, 55, 56, 57, 58] rfl (by decide +kernel)
set_option maxRecDepth 20000 in
theorem gX11_ends_X11_next : GoodIn wsX11_ends (wsV RX11 122 RX11 yX11_next wsX11_next) := goodIn_app (goodIn_of _ (by decide +kernel)) ggX11_ends_X11_next
set_option maxRecDepth 20000 in
theorem ggX11_ends_X11_fails : GoodIn wsX11_ends wsX11_fails := goodIn_r _ [25, 26, 27, 28, 29, 30, 31, 32, 33, 34, 35, 36, 37, 38, 39, 40, 41, 42, 43, 44, 45, 46, 47, 48, 49, 50, 51, 52, 53, 54, 55, 56, 57, 58] rfl (by decide +kernel)
set_option maxRecDepth 20000 in
theorem gX11_ends_X11_fails : GoodIn wsX11_ends (wsV RX11 118 RX11 yX11_fails wsX11_fails) := goodIn_app (goodIn_of _ (by decide +kernel)) ggX11_ends_X11_fails
theorem dX11_ends_0 : decode cX11_ends 0 = .ok (.aload_n 0, 1) := by decide +kernel
theorem dX11_ends_1 : decode cX11_ends 1 = .ok (.invokevirtual 122, 3) := by decide +kernel
theorem dX11_ends_4 : decode cX11_ends 4 = .ok (.aload_n 0, 1) := by decide +kernel
theorem dX11_ends_5 : decode cX11_ends 5 = .ok (.getfield 102, 3) := by decide +kernel
theorem dX11_ends_8 : decode cX11_ends 8 = .ok (.bipush 59, 2) := by decide +kernel
theorem dX11_ends_10 : decode cX11_ends 10 = .ok (.if_icmp .eq 11, 3) := by decide +kernel
theorem dX11_ends_13 : decode cX11_ends 13 = .ok (.aload_n 0, 1) := by decide +kernel
theorem dX11_ends_14 : decode cX11_ends 14 = .ok (.iconst 1, 1) := by decide +kernel
theorem dX11_ends_15 : decode cX11_ends 15 = .ok (.invokevirtual 118, 3) := by decide +kernel
theorem dX11_ends_18 : decode cX11_ends 18 = .ok (.ifCond .eq 7, 3) := by decide +kernel
theorem dX11_ends_21 : decode cX11_ends 21 = .ok (.iconst 1, 1) := by decide +kernel
theorem dX11_ends_22 : decode cX11_ends 22 = .ok (.goto 4, 3) := by decide +kernel
theorem dX11_ends_25 : decode cX11_ends 25 = .ok (.iconst 0, 1) := by decide +kernel
theorem dX11_ends_26 : decode cX11_ends 26 = .ok (.ireturn, 1) := by decide +kernel
set_option maxRecDepth 20000 in
theorem ggX11_readsRoad_X11_fails : GoodIn wsX11_readsRoad wsX11_fails := goodIn_r _ [6, 7, 40, 41, 42, 43, 44, 45, 46, 47, 48, 49, 50, 51, 52, 53, 54, 55, 56, 57, 58, 59, 60, 61, 62, 63, 64, 65, 66, 67, 68, 69, 70, 71] rfl (by decide +kernel)
set_option maxRecDepth 20000 in
theorem gX11_readsRoad_X11_fails : GoodIn wsX11_readsRoad (wsV RX11 118 RX11 yX11_fails wsX11_fails) := goodIn_app (goodIn_of _ (by decide +kernel)) ggX11_readsRoad_X11_fails
set_option maxRecDepth 20000 in
theorem ggX11_readsRoad_X11_number : GoodIn wsX11_readsRoad wsX11_number := goodIn_r _ [11, 12, 13, 14, 5, 15, 16, 17, 18, 19, 20, 21, 22, 23, 24, 25, 26, 27, 28, 29, 30, 31, 32, 33, 34, 35, 1, 2, 3, 4, 6, 7, 40, 41, 42, 43, 44, 45, 46, 47, 48, 49, 50, 51, 52, 53, 54, 55, 56, 57, 58, 59, 60, 61, 62, 63, 64, 65, 66, 67, 68, 69, 70, 71] rfl (by decide +kernel)
set_option maxRecDepth 20000 in
theorem gX11_readsRoad_X11_number : GoodIn wsX11_readsRoad (wsV RX11 129 RX11 yX11_number wsX11_number) := goodIn_app (goodIn_of _ (by decide +kernel)) ggX11_readsRoad_X11_number
set_option maxRecDepth 20000 in
theorem ggX11_readsRoad_X11_ends : GoodIn wsX11_readsRoad wsX11_ends := goodIn_r _ [39, 18, 12, 13, 14, 5, 15, 16, 17, 19, 20, 21, 22, 23, 24, 25, 26, 27, 28, 29, 30, 31, 2, 3, 4, 6, 7, 40, 41, 42, 43, 44, 45, 46, 47, 48, 49, 50, 51, 52, 53, 54, 55, 56, 57, 58, 59, 60, 61, 62, 63, 64, 65, 66, 67, 68, 69, 70, 71] rfl (by decide +kernel)
set_option maxRecDepth 20000 in
theorem gX11_readsRoad_X11_ends : GoodIn wsX11_readsRoad (wsV RX11 132 RX11 yX11_ends wsX11_ends) := goodIn_app (goodIn_of _ (by decide +kernel)) ggX11_readsRoad_X11_ends
theorem dX11_readsRoad_0 : decode cX11_readsRoad 0 = .ok (.aload_n 0, 1) := by decide +kernel
theorem dX11_readsRoad_1 : decode cX11_readsRoad 1 = .ok (.getfield 13, 3) := by decide +kernel
theorem dX11_readsRoad_4 : decode cX11_readsRoad 4 = .ok (.iconst 3, 1) := by decide +kernel
theorem dX11_readsRoad_5 : decode cX11_readsRoad 5 = .ok (.iaload, 1) := by decide +kernel
theorem dX11_readsRoad_6 : decode cX11_readsRoad 6 = .ok (.istore_n 1, 1) := by decide +kernel
theorem dX11_readsRoad_7 : decode cX11_readsRoad 7 = .ok (.aload_n 0, 1) := by decide +kernel
theorem dX11_readsRoad_8 : decode cX11_readsRoad 8 = .ok (.getfield 13, 3) := by decide +kernel
theorem dX11_readsRoad_11 : decode cX11_readsRoad 11 = .ok (.iconst 0, 1) := by decide +kernel
theorem dX11_readsRoad_12 : decode cX11_readsRoad 12 = .ok (.iaload, 1) := by decide +kernel
theorem dX11_readsRoad_13 : decode cX11_readsRoad 13 = .ok (.iconst 1, 1) := by decide +kernel
theorem dX11_readsRoad_14 : decode cX11_readsRoad 14 = .ok (.isub, 1) := by decide +kernel
theorem dX11_readsRoad_15 : decode cX11_readsRoad 15 = .ok (.istore_n 2, 1) := by decide +kernel
theorem dX11_readsRoad_16 : decode cX11_readsRoad 16 = .ok (.iload_n 1, 1) := by decide +kernel
theorem dX11_readsRoad_17 : decode cX11_readsRoad 17 = .ok (.bipush 9, 2) := by decide +kernel
theorem dX11_readsRoad_19 : decode cX11_readsRoad 19 = .ok (.if_icmp .ne 9, 3) := by decide +kernel
theorem dX11_readsRoad_22 : decode cX11_readsRoad 22 = .ok (.aload_n 0, 1) := by decide +kernel
theorem dX11_readsRoad_23 : decode cX11_readsRoad 23 = .ok (.iconst 3, 1) := by decide +kernel
theorem dX11_readsRoad_24 : decode cX11_readsRoad 24 = .ok (.invokevirtual 118, 3) := by decide +kernel
theorem dX11_readsRoad_27 : decode cX11_readsRoad 27 = .ok (.ireturn, 1) := by decide +kernel
theorem dX11_readsRoad_28 : decode cX11_readsRoad 28 = .ok (.aload_n 0, 1) := by decide +kernel
theorem dX11_readsRoad_29 : decode cX11_readsRoad 29 = .ok (.iconst 5, 1) := by decide +kernel
theorem dX11_readsRoad_30 : decode cX11_readsRoad 30 = .ok (.iload_n 1, 1) := by decide +kernel
theorem dX11_readsRoad_31 : decode cX11_readsRoad 31 = .ok (.iadd, 1) := by decide +kernel
theorem dX11_readsRoad_32 : decode cX11_readsRoad 32 = .ok (.iconst 0, 1) := by decide +kernel
theorem dX11_readsRoad_33 : decode cX11_readsRoad 33 = .ok (.iload_n 2, 1) := by decide +kernel
theorem dX11_readsRoad_34 : decode cX11_readsRoad 34 = .ok (.invokevirtual 129, 3) := by decide +kernel
theorem dX11_readsRoad_37 : decode cX11_readsRoad 37 = .ok (.ifCond .eq 16, 3) := by decide +kernel
theorem dX11_readsRoad_40 : decode cX11_readsRoad 40 = .ok (.aload_n 0, 1) := by decide +kernel
theorem dX11_readsRoad_41 : decode cX11_readsRoad 41 = .ok (.bipush 14, 2) := by decide +kernel
theorem dX11_readsRoad_43 : decode cX11_readsRoad 43 = .ok (.iload_n 1, 1) := by decide +kernel
theorem dX11_readsRoad_44 : decode cX11_readsRoad 44 = .ok (.iadd, 1) := by decide +kernel
theorem dX11_readsRoad_45 : decode cX11_readsRoad 45 = .ok (.iconst 0, 1) := by decide +kernel
theorem dX11_readsRoad_46 : decode cX11_readsRoad 46 = .ok (.iload_n 2, 1) := by decide +kernel
theorem dX11_readsRoad_47 : decode cX11_readsRoad 47 = .ok (.invokevirtual 129, 3) := by decide +kernel
theorem dX11_readsRoad_50 : decode cX11_readsRoad 50 = .ok (.ifCond .ne 5, 3) := by decide +kernel
theorem dX11_readsRoad_53 : decode cX11_readsRoad 53 = .ok (.iconst 0, 1) := by decide +kernel
theorem dX11_readsRoad_54 : decode cX11_readsRoad 54 = .ok (.ireturn, 1) := by decide +kernel
theorem dX11_readsRoad_55 : decode cX11_readsRoad 55 = .ok (.aload_n 0, 1) := by decide +kernel
theorem dX11_readsRoad_56 : decode cX11_readsRoad 56 = .ok (.getfield 13, 3) := by decide +kernel
theorem dX11_readsRoad_59 : decode cX11_readsRoad 59 = .ok (.iconst 5, 1) := by decide +kernel
theorem dX11_readsRoad_60 : decode cX11_readsRoad 60 = .ok (.iload_n 1, 1) := by decide +kernel
theorem dX11_readsRoad_61 : decode cX11_readsRoad 61 = .ok (.iadd, 1) := by decide +kernel
theorem dX11_readsRoad_62 : decode cX11_readsRoad 62 = .ok (.iaload, 1) := by decide +kernel
theorem dX11_readsRoad_63 : decode cX11_readsRoad 63 = .ok (.istore_n 3, 1) := by decide +kernel
theorem dX11_readsRoad_64 : decode cX11_readsRoad 64 = .ok (.aload_n 0, 1) := by decide +kernel
theorem dX11_readsRoad_65 : decode cX11_readsRoad 65 = .ok (.getfield 13, 3) := by decide +kernel
theorem dX11_readsRoad_68 : decode cX11_readsRoad 68 = .ok (.bipush 14, 2) := by decide +kernel
theorem dX11_readsRoad_70 : decode cX11_readsRoad 70 = .ok (.iload_n 1, 1) := by decide +kernel
theorem dX11_readsRoad_71 : decode cX11_readsRoad 71 = .ok (.iadd, 1) := by decide +kernel
theorem dX11_readsRoad_72 : decode cX11_readsRoad 72 = .ok (.iaload, 1) := by decide +kernel
theorem dX11_readsRoad_73 : decode cX11_readsRoad 73 = .ok (.istore 4, 2) := by decide +kernel
theorem dX11_readsRoad_75 : decode cX11_readsRoad 75 = .ok (.iload_n 3, 1) := by decide +kernel
theorem dX11_readsRoad_76 : decode cX11_readsRoad 76 = .ok (.iload 4, 2) := by decide +kernel
theorem dX11_readsRoad_78 : decode cX11_readsRoad 78 = .ok (.if_icmp .eq 7, 3) := by decide +kernel
theorem dX11_readsRoad_81 : decode cX11_readsRoad 81 = .ok (.iconst 1, 1) := by decide +kernel
theorem dX11_readsRoad_82 : decode cX11_readsRoad 82 = .ok (.goto 4, 3) := by decide +kernel
theorem dX11_readsRoad_85 : decode cX11_readsRoad 85 = .ok (.iconst 0, 1) := by decide +kernel
theorem dX11_readsRoad_86 : decode cX11_readsRoad 86 = .ok (.istore 5, 2) := by decide +kernel
theorem dX11_readsRoad_88 : decode cX11_readsRoad 88 = .ok (.iconst 0, 1) := by decide +kernel
theorem dX11_readsRoad_89 : decode cX11_readsRoad 89 = .ok (.istore 6, 2) := by decide +kernel
theorem dX11_readsRoad_91 : decode cX11_readsRoad 91 = .ok (.iload 6, 2) := by decide +kernel
theorem dX11_readsRoad_93 : decode cX11_readsRoad 93 = .ok (.iload_n 1, 1) := by decide +kernel
theorem dX11_readsRoad_94 : decode cX11_readsRoad 94 = .ok (.if_icmp .ge 89, 3) := by decide +kernel
theorem dX11_readsRoad_97 : decode cX11_readsRoad 97 = .ok (.aload_n 0, 1) := by decide +kernel
theorem dX11_readsRoad_98 : decode cX11_readsRoad 98 = .ok (.getfield 13, 3) := by decide +kernel
theorem dX11_readsRoad_101 : decode cX11_readsRoad 101 = .ok (.iconst 5, 1) := by decide +kernel
theorem dX11_readsRoad_102 : decode cX11_readsRoad 102 = .ok (.iload 6, 2) := by decide +kernel
theorem dX11_readsRoad_104 : decode cX11_readsRoad 104 = .ok (.iadd, 1) := by decide +kernel
theorem dX11_readsRoad_105 : decode cX11_readsRoad 105 = .ok (.iaload, 1) := by decide +kernel
theorem dX11_readsRoad_106 : decode cX11_readsRoad 106 = .ok (.iload_n 3, 1) := by decide +kernel
theorem dX11_readsRoad_107 : decode cX11_readsRoad 107 = .ok (.if_icmp .ne 18, 3) := by decide +kernel
theorem dX11_readsRoad_110 : decode cX11_readsRoad 110 = .ok (.aload_n 0, 1) := by decide +kernel
theorem dX11_readsRoad_111 : decode cX11_readsRoad 111 = .ok (.getfield 13, 3) := by decide +kernel
theorem dX11_readsRoad_114 : decode cX11_readsRoad 114 = .ok (.bipush 14, 2) := by decide +kernel
theorem dX11_readsRoad_116 : decode cX11_readsRoad 116 = .ok (.iload 6, 2) := by decide +kernel
theorem dX11_readsRoad_118 : decode cX11_readsRoad 118 = .ok (.iadd, 1) := by decide +kernel
theorem dX11_readsRoad_119 : decode cX11_readsRoad 119 = .ok (.iaload, 1) := by decide +kernel
theorem dX11_readsRoad_120 : decode cX11_readsRoad 120 = .ok (.iload 4, 2) := by decide +kernel
theorem dX11_readsRoad_122 : decode cX11_readsRoad 122 = .ok (.if_icmp .eq 31, 3) := by decide +kernel
theorem dX11_readsRoad_125 : decode cX11_readsRoad 125 = .ok (.aload_n 0, 1) := by decide +kernel
theorem dX11_readsRoad_126 : decode cX11_readsRoad 126 = .ok (.getfield 13, 3) := by decide +kernel
theorem dX11_readsRoad_129 : decode cX11_readsRoad 129 = .ok (.iconst 5, 1) := by decide +kernel
theorem dX11_readsRoad_130 : decode cX11_readsRoad 130 = .ok (.iload 6, 2) := by decide +kernel
theorem dX11_readsRoad_132 : decode cX11_readsRoad 132 = .ok (.iadd, 1) := by decide +kernel
theorem dX11_readsRoad_133 : decode cX11_readsRoad 133 = .ok (.iaload, 1) := by decide +kernel
theorem dX11_readsRoad_134 : decode cX11_readsRoad 134 = .ok (.iload 4, 2) := by decide +kernel
theorem dX11_readsRoad_136 : decode cX11_readsRoad 136 = .ok (.if_icmp .ne 21, 3) := by decide +kernel
theorem dX11_readsRoad_139 : decode cX11_readsRoad 139 = .ok (.aload_n 0, 1) := by decide +kernel
theorem dX11_readsRoad_140 : decode cX11_readsRoad 140 = .ok (.getfield 13, 3) := by decide +kernel
theorem dX11_readsRoad_143 : decode cX11_readsRoad 143 = .ok (.bipush 14, 2) := by decide +kernel
theorem dX11_readsRoad_145 : decode cX11_readsRoad 145 = .ok (.iload 6, 2) := by decide +kernel
theorem dX11_readsRoad_147 : decode cX11_readsRoad 147 = .ok (.iadd, 1) := by decide +kernel
theorem dX11_readsRoad_148 : decode cX11_readsRoad 148 = .ok (.iaload, 1) := by decide +kernel
theorem dX11_readsRoad_149 : decode cX11_readsRoad 149 = .ok (.iload_n 3, 1) := by decide +kernel
theorem dX11_readsRoad_150 : decode cX11_readsRoad 150 = .ok (.if_icmp .ne 7, 3) := by decide +kernel
theorem dX11_readsRoad_153 : decode cX11_readsRoad 153 = .ok (.iconst 1, 1) := by decide +kernel
theorem dX11_readsRoad_154 : decode cX11_readsRoad 154 = .ok (.goto 4, 3) := by decide +kernel
theorem dX11_readsRoad_157 : decode cX11_readsRoad 157 = .ok (.iconst 0, 1) := by decide +kernel
theorem dX11_readsRoad_158 : decode cX11_readsRoad 158 = .ok (.istore 7, 2) := by decide +kernel
theorem dX11_readsRoad_160 : decode cX11_readsRoad 160 = .ok (.iload 5, 2) := by decide +kernel
theorem dX11_readsRoad_162 : decode cX11_readsRoad 162 = .ok (.ifCond .eq 12, 3) := by decide +kernel
theorem dX11_readsRoad_165 : decode cX11_readsRoad 165 = .ok (.iload 7, 2) := by decide +kernel
theorem dX11_readsRoad_167 : decode cX11_readsRoad 167 = .ok (.ifCond .ne 7, 3) := by decide +kernel
theorem dX11_readsRoad_170 : decode cX11_readsRoad 170 = .ok (.iconst 1, 1) := by decide +kernel
theorem dX11_readsRoad_171 : decode cX11_readsRoad 171 = .ok (.goto 4, 3) := by decide +kernel
theorem dX11_readsRoad_174 : decode cX11_readsRoad 174 = .ok (.iconst 0, 1) := by decide +kernel
theorem dX11_readsRoad_175 : decode cX11_readsRoad 175 = .ok (.istore 5, 2) := by decide +kernel
theorem dX11_readsRoad_177 : decode cX11_readsRoad 177 = .ok (.iinc 6 1, 3) := by decide +kernel
theorem dX11_readsRoad_180 : decode cX11_readsRoad 180 = .ok (.goto (-89), 3) := by decide +kernel
theorem dX11_readsRoad_183 : decode cX11_readsRoad 183 = .ok (.iload 5, 2) := by decide +kernel
theorem dX11_readsRoad_185 : decode cX11_readsRoad 185 = .ok (.ifCond .ne 9, 3) := by decide +kernel
theorem dX11_readsRoad_188 : decode cX11_readsRoad 188 = .ok (.aload_n 0, 1) := by decide +kernel
theorem dX11_readsRoad_189 : decode cX11_readsRoad 189 = .ok (.iconst 4, 1) := by decide +kernel
theorem dX11_readsRoad_190 : decode cX11_readsRoad 190 = .ok (.invokevirtual 118, 3) := by decide +kernel
theorem dX11_readsRoad_193 : decode cX11_readsRoad 193 = .ok (.ireturn, 1) := by decide +kernel
theorem dX11_readsRoad_194 : decode cX11_readsRoad 194 = .ok (.aload_n 0, 1) := by decide +kernel
theorem dX11_readsRoad_195 : decode cX11_readsRoad 195 = .ok (.getfield 13, 3) := by decide +kernel
theorem dX11_readsRoad_198 : decode cX11_readsRoad 198 = .ok (.iconst 3, 1) := by decide +kernel
theorem dX11_readsRoad_199 : decode cX11_readsRoad 199 = .ok (.dup2, 1) := by decide +kernel
theorem dX11_readsRoad_200 : decode cX11_readsRoad 200 = .ok (.iaload, 1) := by decide +kernel
theorem dX11_readsRoad_201 : decode cX11_readsRoad 201 = .ok (.iconst 1, 1) := by decide +kernel
theorem dX11_readsRoad_202 : decode cX11_readsRoad 202 = .ok (.iadd, 1) := by decide +kernel
theorem dX11_readsRoad_203 : decode cX11_readsRoad 203 = .ok (.iastore, 1) := by decide +kernel
theorem dX11_readsRoad_204 : decode cX11_readsRoad 204 = .ok (.aload_n 0, 1) := by decide +kernel
theorem dX11_readsRoad_205 : decode cX11_readsRoad 205 = .ok (.bipush 23, 2) := by decide +kernel
theorem dX11_readsRoad_207 : decode cX11_readsRoad 207 = .ok (.iload_n 1, 1) := by decide +kernel
theorem dX11_readsRoad_208 : decode cX11_readsRoad 208 = .ok (.iadd, 1) := by decide +kernel
theorem dX11_readsRoad_209 : decode cX11_readsRoad 209 = .ok (.iconst 1, 1) := by decide +kernel
theorem dX11_readsRoad_210 : decode cX11_readsRoad 210 = .ok (.bipush 99, 2) := by decide +kernel
theorem dX11_readsRoad_212 : decode cX11_readsRoad 212 = .ok (.invokevirtual 129, 3) := by decide +kernel
theorem dX11_readsRoad_215 : decode cX11_readsRoad 215 = .ok (.ifCond .eq 48, 3) := by decide +kernel
theorem dX11_readsRoad_218 : decode cX11_readsRoad 218 = .ok (.aload_n 0, 1) := by decide +kernel
theorem dX11_readsRoad_219 : decode cX11_readsRoad 219 = .ok (.bipush 32, 2) := by decide +kernel
theorem dX11_readsRoad_221 : decode cX11_readsRoad 221 = .ok (.iload_n 1, 1) := by decide +kernel
theorem dX11_readsRoad_222 : decode cX11_readsRoad 222 = .ok (.iadd, 1) := by decide +kernel
theorem dX11_readsRoad_223 : decode cX11_readsRoad 223 = .ok (.iconst 1, 1) := by decide +kernel
theorem dX11_readsRoad_224 : decode cX11_readsRoad 224 = .ok (.bipush 99, 2) := by decide +kernel
theorem dX11_readsRoad_226 : decode cX11_readsRoad 226 = .ok (.invokevirtual 129, 3) := by decide +kernel
theorem dX11_readsRoad_229 : decode cX11_readsRoad 229 = .ok (.ifCond .eq 34, 3) := by decide +kernel
theorem dX11_readsRoad_232 : decode cX11_readsRoad 232 = .ok (.aload_n 0, 1) := by decide +kernel
theorem dX11_readsRoad_233 : decode cX11_readsRoad 233 = .ok (.bipush 41, 2) := by decide +kernel
theorem dX11_readsRoad_235 : decode cX11_readsRoad 235 = .ok (.iload_n 1, 1) := by decide +kernel
theorem dX11_readsRoad_236 : decode cX11_readsRoad 236 = .ok (.iadd, 1) := by decide +kernel
theorem dX11_readsRoad_237 : decode cX11_readsRoad 237 = .ok (.iconst 0, 1) := by decide +kernel
theorem dX11_readsRoad_238 : decode cX11_readsRoad 238 = .ok (.aload_n 0, 1) := by decide +kernel
theorem dX11_readsRoad_239 : decode cX11_readsRoad 239 = .ok (.getfield 13, 3) := by decide +kernel
theorem dX11_readsRoad_242 : decode cX11_readsRoad 242 = .ok (.iconst 1, 1) := by decide +kernel
theorem dX11_readsRoad_243 : decode cX11_readsRoad 243 = .ok (.iaload, 1) := by decide +kernel
theorem dX11_readsRoad_244 : decode cX11_readsRoad 244 = .ok (.iconst 1, 1) := by decide +kernel
theorem dX11_readsRoad_245 : decode cX11_readsRoad 245 = .ok (.isub, 1) := by decide +kernel
theorem dX11_readsRoad_246 : decode cX11_readsRoad 246 = .ok (.invokevirtual 129, 3) := by decide +kernel
theorem dX11_readsRoad_249 : decode cX11_readsRoad 249 = .ok (.ifCond .eq 14, 3) := by decide +kernel
theorem dX11_readsRoad_252 : decode cX11_readsRoad 252 = .ok (.aload_n 0, 1) := by decide +kernel
theorem dX11_readsRoad_253 : decode cX11_readsRoad 253 = .ok (.invokevirtual 132, 3) := by decide +kernel
theorem dX11_readsRoad_256 : decode cX11_readsRoad 256 = .ok (.ifCond .eq 7, 3) := by decide +kernel
theorem dX11_readsRoad_259 : decode cX11_readsRoad 259 = .ok (.iconst 1, 1) := by decide +kernel
theorem dX11_readsRoad_260 : decode cX11_readsRoad 260 = .ok (.goto 4, 3) := by decide +kernel
theorem dX11_readsRoad_263 : decode cX11_readsRoad 263 = .ok (.iconst 0, 1) := by decide +kernel
theorem dX11_readsRoad_264 : decode cX11_readsRoad 264 = .ok (.ireturn, 1) := by decide +kernel
set_option maxRecDepth 20000 in
theorem ggX11_readsTreaty_X11_fails : GoodIn wsX11_readsTreaty wsX11_fails := goodIn_r _ [7, 8, 40, 41, 42, 43, 44, 45, 46, 47, 48, 49, 50, 51, 52, 53, 54, 55, 56, 57, 58, 59, 60, 61, 62, 63, 64, 65, 66, 67, 68, 69, 70, 71] rfl (by decide +kernel)
set_option maxRecDepth 20000 in
theorem gX11_readsTreaty_X11_fails : GoodIn wsX11_readsTreaty (wsV RX11 118 RX11 yX11_fails wsX11_fails) := goodIn_app (goodIn_of _ (by decide +kernel)) ggX11_readsTreaty_X11_fails
set_option maxRecDepth 20000 in
theorem ggX11_readsTreaty_X11_number : GoodIn wsX11_readsTreaty wsX11_number := goodIn_r _ [12, 13, 14, 15, 6, 16, 17, 18, 2, 19, 20, 21, 22, 23, 24, 25, 26, 27, 28, 29, 30, 31, 32, 33, 34, 35, 1, 3, 4, 5, 7, 8, 40, 41, 42, 43, 44, 45, 46, 47, 48, 49, 50, 51, 52, 53, 54, 55, 56, 57, 58, 59, 60, 61, 62, 63, 64, 65, 66, 67, 68, 69, 70, 71] rfl (by decide +kernel)
set_option maxRecDepth 20000 in
theorem gX11_readsTreaty_X11_number : GoodIn wsX11_readsTreaty (wsV RX11 129 RX11 yX11_number wsX11_number) := goodIn_app (goodIn_of _ (by decide +kernel)) ggX11_readsTreaty_X11_number
set_option maxRecDepth 20000 in
theorem ggX11_readsTreaty_X11_next : GoodIn wsX11_readsTreaty wsX11_next := goodIn_r _ [16, 17, 18, 2, 19, 20, 21, 22, 23, 24, 25, 6, 26, 27, 28, 29, 30, 31, 40, 41, 42, 43, 44, 45, 46, 47, 48, 49, 50, 51, 52, 53, 54, 55, 56, 57, 58, 59, 60, 61, 62, 63, 64, 65, 66, 67, 68, 69, 70, 71] rfl (by decide +kernel)
set_option maxRecDepth 20000 in
theorem gX11_readsTreaty_X11_next : GoodIn wsX11_readsTreaty (wsV RX11 122 RX11 yX11_next wsX11_next) := goodIn_app (goodIn_of _ (by decide +kernel)) ggX11_readsTreaty_X11_next
set_option maxRecDepth 20000 in
theorem ggX11_readsTreaty_X11_isNumber : GoodIn wsX11_readsTreaty wsX11_isNumber := goodIn_r _ [35, 2, 19, 20, 1, 3, 4, 5, 6, 7, 8, 29, 30, 31, 40, 41, 42, 43, 44, 45, 46, 47, 48, 49, 50, 51, 52, 53, 54, 55, 56, 57, 58, 59, 60, 61, 62, 63, 64, 65, 66, 67, 68, 69, 70, 71] rfl (by decide +kernel)
set_option maxRecDepth 20000 in
theorem gX11_readsTreaty_X11_isNumber : GoodIn wsX11_readsTreaty (wsV RX11 125 RX11 yX11_isNumber wsX11_isNumber) := goodIn_app (goodIn_of _ (by decide +kernel)) ggX11_readsTreaty_X11_isNumber
set_option maxRecDepth 20000 in
theorem ggX11_readsTreaty_X11_ends : GoodIn wsX11_readsTreaty wsX11_ends := goodIn_r _ [39, 2, 13, 14, 15, 6, 16, 17, 18, 19, 20, 21, 22, 23, 24, 25, 26, 27, 28, 29, 30, 31, 3, 4, 5, 7, 8, 40, 41, 42, 43, 44, 45, 46, 47, 48, 49, 50, 51, 52, 53, 54, 55, 56, 57, 58, 59, 60, 61, 62, 63, 64, 65, 66, 67, 68, 69, 70, 71] rfl (by decide +kernel)
set_option maxRecDepth 20000 in
theorem gX11_readsTreaty_X11_ends : GoodIn wsX11_readsTreaty (wsV RX11 132 RX11 yX11_ends wsX11_ends) := goodIn_app (goodIn_of _ (by decide +kernel)) ggX11_readsTreaty_X11_ends
theorem dX11_readsTreaty_0 : decode cX11_readsTreaty 0 = .ok (.aload_n 0, 1) := by decide +kernel
theorem dX11_readsTreaty_1 : decode cX11_readsTreaty 1 = .ok (.getfield 13, 3) := by decide +kernel
theorem dX11_readsTreaty_4 : decode cX11_readsTreaty 4 = .ok (.iconst 4, 1) := by decide +kernel
theorem dX11_readsTreaty_5 : decode cX11_readsTreaty 5 = .ok (.iaload, 1) := by decide +kernel
theorem dX11_readsTreaty_6 : decode cX11_readsTreaty 6 = .ok (.istore_n 1, 1) := by decide +kernel
theorem dX11_readsTreaty_7 : decode cX11_readsTreaty 7 = .ok (.iload_n 1, 1) := by decide +kernel
theorem dX11_readsTreaty_8 : decode cX11_readsTreaty 8 = .ok (.bipush 6, 2) := by decide +kernel
theorem dX11_readsTreaty_10 : decode cX11_readsTreaty 10 = .ok (.if_icmp .ne 9, 3) := by decide +kernel
theorem dX11_readsTreaty_13 : decode cX11_readsTreaty 13 = .ok (.aload_n 0, 1) := by decide +kernel
theorem dX11_readsTreaty_14 : decode cX11_readsTreaty 14 = .ok (.iconst 3, 1) := by decide +kernel
theorem dX11_readsTreaty_15 : decode cX11_readsTreaty 15 = .ok (.invokevirtual 118, 3) := by decide +kernel
theorem dX11_readsTreaty_18 : decode cX11_readsTreaty 18 = .ok (.ireturn, 1) := by decide +kernel
theorem dX11_readsTreaty_19 : decode cX11_readsTreaty 19 = .ok (.aload_n 0, 1) := by decide +kernel
theorem dX11_readsTreaty_20 : decode cX11_readsTreaty 20 = .ok (.bipush 50, 2) := by decide +kernel
theorem dX11_readsTreaty_22 : decode cX11_readsTreaty 22 = .ok (.iload_n 1, 1) := by decide +kernel
theorem dX11_readsTreaty_23 : decode cX11_readsTreaty 23 = .ok (.iadd, 1) := by decide +kernel
theorem dX11_readsTreaty_24 : decode cX11_readsTreaty 24 = .ok (.iconst 0, 1) := by decide +kernel
theorem dX11_readsTreaty_25 : decode cX11_readsTreaty 25 = .ok (.iconst 2, 1) := by decide +kernel
theorem dX11_readsTreaty_26 : decode cX11_readsTreaty 26 = .ok (.invokevirtual 129, 3) := by decide +kernel
theorem dX11_readsTreaty_29 : decode cX11_readsTreaty 29 = .ok (.ifCond .ne 5, 3) := by decide +kernel
theorem dX11_readsTreaty_32 : decode cX11_readsTreaty 32 = .ok (.iconst 0, 1) := by decide +kernel
theorem dX11_readsTreaty_33 : decode cX11_readsTreaty 33 = .ok (.ireturn, 1) := by decide +kernel
theorem dX11_readsTreaty_34 : decode cX11_readsTreaty 34 = .ok (.iconst (-1), 1) := by decide +kernel
theorem dX11_readsTreaty_35 : decode cX11_readsTreaty 35 = .ok (.istore_n 2, 1) := by decide +kernel
theorem dX11_readsTreaty_36 : decode cX11_readsTreaty 36 = .ok (.iconst 1, 1) := by decide +kernel
theorem dX11_readsTreaty_37 : decode cX11_readsTreaty 37 = .ok (.istore_n 3, 1) := by decide +kernel
theorem dX11_readsTreaty_38 : decode cX11_readsTreaty 38 = .ok (.iload_n 3, 1) := by decide +kernel
theorem dX11_readsTreaty_39 : decode cX11_readsTreaty 39 = .ok (.ifCond .eq 91, 3) := by decide +kernel
theorem dX11_readsTreaty_42 : decode cX11_readsTreaty 42 = .ok (.aload_n 0, 1) := by decide +kernel
theorem dX11_readsTreaty_43 : decode cX11_readsTreaty 43 = .ok (.bipush 62, 2) := by decide +kernel
theorem dX11_readsTreaty_45 : decode cX11_readsTreaty 45 = .ok (.iload_n 1, 1) := by decide +kernel
theorem dX11_readsTreaty_46 : decode cX11_readsTreaty 46 = .ok (.iadd, 1) := by decide +kernel
theorem dX11_readsTreaty_47 : decode cX11_readsTreaty 47 = .ok (.iconst 0, 1) := by decide +kernel
theorem dX11_readsTreaty_48 : decode cX11_readsTreaty 48 = .ok (.aload_n 0, 1) := by decide +kernel
theorem dX11_readsTreaty_49 : decode cX11_readsTreaty 49 = .ok (.getfield 13, 3) := by decide +kernel
theorem dX11_readsTreaty_52 : decode cX11_readsTreaty 52 = .ok (.iconst 3, 1) := by decide +kernel
theorem dX11_readsTreaty_53 : decode cX11_readsTreaty 53 = .ok (.iaload, 1) := by decide +kernel
theorem dX11_readsTreaty_54 : decode cX11_readsTreaty 54 = .ok (.iconst 1, 1) := by decide +kernel
theorem dX11_readsTreaty_55 : decode cX11_readsTreaty 55 = .ok (.isub, 1) := by decide +kernel
theorem dX11_readsTreaty_56 : decode cX11_readsTreaty 56 = .ok (.invokevirtual 129, 3) := by decide +kernel
theorem dX11_readsTreaty_59 : decode cX11_readsTreaty 59 = .ok (.ifCond .ne 5, 3) := by decide +kernel
theorem dX11_readsTreaty_62 : decode cX11_readsTreaty 62 = .ok (.iconst 0, 1) := by decide +kernel
theorem dX11_readsTreaty_63 : decode cX11_readsTreaty 63 = .ok (.ireturn, 1) := by decide +kernel
theorem dX11_readsTreaty_64 : decode cX11_readsTreaty 64 = .ok (.aload_n 0, 1) := by decide +kernel
theorem dX11_readsTreaty_65 : decode cX11_readsTreaty 65 = .ok (.getfield 13, 3) := by decide +kernel
theorem dX11_readsTreaty_68 : decode cX11_readsTreaty 68 = .ok (.bipush 62, 2) := by decide +kernel
theorem dX11_readsTreaty_70 : decode cX11_readsTreaty 70 = .ok (.iload_n 1, 1) := by decide +kernel
theorem dX11_readsTreaty_71 : decode cX11_readsTreaty 71 = .ok (.iadd, 1) := by decide +kernel
theorem dX11_readsTreaty_72 : decode cX11_readsTreaty 72 = .ok (.iaload, 1) := by decide +kernel
theorem dX11_readsTreaty_73 : decode cX11_readsTreaty 73 = .ok (.iload_n 2, 1) := by decide +kernel
theorem dX11_readsTreaty_74 : decode cX11_readsTreaty 74 = .ok (.if_icmp .gt 9, 3) := by decide +kernel
theorem dX11_readsTreaty_77 : decode cX11_readsTreaty 77 = .ok (.aload_n 0, 1) := by decide +kernel
theorem dX11_readsTreaty_78 : decode cX11_readsTreaty 78 = .ok (.iconst 4, 1) := by decide +kernel
theorem dX11_readsTreaty_79 : decode cX11_readsTreaty 79 = .ok (.invokevirtual 118, 3) := by decide +kernel
theorem dX11_readsTreaty_82 : decode cX11_readsTreaty 82 = .ok (.ireturn, 1) := by decide +kernel
theorem dX11_readsTreaty_83 : decode cX11_readsTreaty 83 = .ok (.aload_n 0, 1) := by decide +kernel
theorem dX11_readsTreaty_84 : decode cX11_readsTreaty 84 = .ok (.getfield 13, 3) := by decide +kernel
theorem dX11_readsTreaty_87 : decode cX11_readsTreaty 87 = .ok (.bipush 62, 2) := by decide +kernel
theorem dX11_readsTreaty_89 : decode cX11_readsTreaty 89 = .ok (.iload_n 1, 1) := by decide +kernel
theorem dX11_readsTreaty_90 : decode cX11_readsTreaty 90 = .ok (.iadd, 1) := by decide +kernel
theorem dX11_readsTreaty_91 : decode cX11_readsTreaty 91 = .ok (.iaload, 1) := by decide +kernel
theorem dX11_readsTreaty_92 : decode cX11_readsTreaty 92 = .ok (.istore_n 2, 1) := by decide +kernel
theorem dX11_readsTreaty_93 : decode cX11_readsTreaty 93 = .ok (.aload_n 0, 1) := by decide +kernel
theorem dX11_readsTreaty_94 : decode cX11_readsTreaty 94 = .ok (.getfield 13, 3) := by decide +kernel
theorem dX11_readsTreaty_97 : decode cX11_readsTreaty 97 = .ok (.bipush 56, 2) := by decide +kernel
theorem dX11_readsTreaty_99 : decode cX11_readsTreaty 99 = .ok (.iload_n 1, 1) := by decide +kernel
theorem dX11_readsTreaty_100 : decode cX11_readsTreaty 100 = .ok (.iadd, 1) := by decide +kernel
theorem dX11_readsTreaty_101 : decode cX11_readsTreaty 101 = .ok (.dup2, 1) := by decide +kernel
theorem dX11_readsTreaty_102 : decode cX11_readsTreaty 102 = .ok (.iaload, 1) := by decide +kernel
theorem dX11_readsTreaty_103 : decode cX11_readsTreaty 103 = .ok (.iconst 1, 1) := by decide +kernel
theorem dX11_readsTreaty_104 : decode cX11_readsTreaty 104 = .ok (.iload_n 2, 1) := by decide +kernel
theorem dX11_readsTreaty_105 : decode cX11_readsTreaty 105 = .ok (.ishl, 1) := by decide +kernel
theorem dX11_readsTreaty_106 : decode cX11_readsTreaty 106 = .ok (.ior, 1) := by decide +kernel
theorem dX11_readsTreaty_107 : decode cX11_readsTreaty 107 = .ok (.iastore, 1) := by decide +kernel
theorem dX11_readsTreaty_108 : decode cX11_readsTreaty 108 = .ok (.aload_n 0, 1) := by decide +kernel
theorem dX11_readsTreaty_109 : decode cX11_readsTreaty 109 = .ok (.invokevirtual 122, 3) := by decide +kernel
theorem dX11_readsTreaty_112 : decode cX11_readsTreaty 112 = .ok (.aload_n 0, 1) := by decide +kernel
theorem dX11_readsTreaty_113 : decode cX11_readsTreaty 113 = .ok (.getfield 102, 3) := by decide +kernel
theorem dX11_readsTreaty_116 : decode cX11_readsTreaty 116 = .ok (.bipush 44, 2) := by decide +kernel
theorem dX11_readsTreaty_118 : decode cX11_readsTreaty 118 = .ok (.if_icmp .ne 7, 3) := by decide +kernel
theorem dX11_readsTreaty_121 : decode cX11_readsTreaty 121 = .ok (.iconst 1, 1) := by decide +kernel
theorem dX11_readsTreaty_122 : decode cX11_readsTreaty 122 = .ok (.goto 4, 3) := by decide +kernel
theorem dX11_readsTreaty_125 : decode cX11_readsTreaty 125 = .ok (.iconst 0, 1) := by decide +kernel
theorem dX11_readsTreaty_126 : decode cX11_readsTreaty 126 = .ok (.istore_n 3, 1) := by decide +kernel
theorem dX11_readsTreaty_127 : decode cX11_readsTreaty 127 = .ok (.goto (-89), 3) := by decide +kernel
theorem dX11_readsTreaty_130 : decode cX11_readsTreaty 130 = .ok (.aload_n 0, 1) := by decide +kernel
theorem dX11_readsTreaty_131 : decode cX11_readsTreaty 131 = .ok (.getfield 13, 3) := by decide +kernel
theorem dX11_readsTreaty_134 : decode cX11_readsTreaty 134 = .ok (.iconst 4, 1) := by decide +kernel
theorem dX11_readsTreaty_135 : decode cX11_readsTreaty 135 = .ok (.dup2, 1) := by decide +kernel
theorem dX11_readsTreaty_136 : decode cX11_readsTreaty 136 = .ok (.iaload, 1) := by decide +kernel
