theorem dX11_deceive_146 : decode cX11_deceive 146 = .ok (.iload 5, 2) := by decide +kernel
theorem dX11_deceive_148 : decode cX11_deceive 148 = .ok (.imul, 1) := by decide +kernel
theorem dX11_deceive_149 : decode cX11_deceive 149 = .ok (.iload 6, 2) := by decide +kernel
theorem dX11_deceive_151 : decode cX11_deceive 151 = .ok (.iadd, 1) := by decide +kernel
theorem dX11_deceive_152 : decode cX11_deceive 152 = .ok (.goto 5, 3) := by decide +kernel
theorem dX11_deceive_155 : decode cX11_deceive 155 = .ok (.iload 4, 2) := by decide +kernel
theorem dX11_deceive_157 : decode cX11_deceive 157 = .ok (.istore 4, 2) := by decide +kernel
theorem dX11_deceive_159 : decode cX11_deceive 159 = .ok (.iload 7, 2) := by decide +kernel
theorem dX11_deceive_161 : decode cX11_deceive 161 = .ok (.iload_n 3, 1) := by decide +kernel
theorem dX11_deceive_162 : decode cX11_deceive 162 = .ok (.if_icmp .le 8, 3) := by decide +kernel
theorem dX11_deceive_165 : decode cX11_deceive 165 = .ok (.iload 7, 2) := by decide +kernel
theorem dX11_deceive_167 : decode cX11_deceive 167 = .ok (.goto 4, 3) := by decide +kernel
theorem dX11_deceive_170 : decode cX11_deceive 170 = .ok (.iload_n 3, 1) := by decide +kernel
theorem dX11_deceive_171 : decode cX11_deceive 171 = .ok (.istore_n 3, 1) := by decide +kernel
theorem dX11_deceive_172 : decode cX11_deceive 172 = .ok (.iinc 6 1, 3) := by decide +kernel
theorem dX11_deceive_175 : decode cX11_deceive 175 = .ok (.goto (-127), 3) := by decide +kernel
theorem dX11_deceive_178 : decode cX11_deceive 178 = .ok (.iinc 5 1, 3) := by decide +kernel
theorem dX11_deceive_181 : decode cX11_deceive 181 = .ok (.goto (-152), 3) := by decide +kernel
theorem dX11_deceive_184 : decode cX11_deceive 184 = .ok (.iload 4, 2) := by decide +kernel
theorem dX11_deceive_186 : decode cX11_deceive 186 = .ok (.ireturn, 1) := by decide +kernel
set_option maxRecDepth 20000 in
theorem ggX11_fee_X11_areTowns : GoodIn wsX11_fee wsX11_areTowns := goodIn_r _ [10, 11, 12, 13, 9, 14, 5, 15, 16, 17, 36, 37, 38, 39, 40, 41, 42, 43, 44, 45, 46, 47, 48, 49, 50, 51, 52, 53, 54, 55, 56, 57, 58, 59, 60, 61, 62, 63, 64, 65, 66, 67] rfl (by decide +kernel)
set_option maxRecDepth 20000 in
theorem gX11_fee_X11_areTowns : GoodIn wsX11_fee (wsV RX11 228 RX11 yX11_areTowns wsX11_areTowns) := goodIn_app (goodIn_of _ (by decide +kernel)) ggX11_fee_X11_areTowns
set_option maxRecDepth 20000 in
theorem ggX11_fee_X11_isCounty : GoodIn wsX11_fee wsX11_isCounty := goodIn_r _ [21, 5, 15, 16, 9, 17, 36, 37, 38, 39, 40, 41, 42, 43, 44, 45, 46, 47, 48, 49, 50, 51, 52, 53, 54, 55, 56, 57, 58, 59, 60, 61, 62, 63, 64, 65, 66, 67] rfl (by decide +kernel)
set_option maxRecDepth 20000 in
theorem gX11_fee_X11_isCounty : GoodIn wsX11_fee (wsV RX11 270 RX11 yX11_isCounty wsX11_isCounty) := goodIn_app (goodIn_of _ (by decide +kernel)) ggX11_fee_X11_isCounty
set_option maxRecDepth 20000 in
theorem ggX11_fee_X11_layWay : GoodIn wsX11_fee wsX11_layWay := goodIn_r _ [25, 3, 26, 27, 4, 5, 28, 29, 30, 9, 31, 32, 33, 34, 35, 36, 37, 38, 39, 40, 41, 42, 43, 44, 45, 46, 47, 48, 49, 50, 51, 52, 53, 54, 55, 56, 57, 58, 59, 60, 61, 62, 63, 64, 65, 66, 67] rfl (by decide +kernel)
set_option maxRecDepth 20000 in
theorem gX11_fee_X11_layWay : GoodIn wsX11_fee (wsV RX11 242 RX11 yX11_layWay wsX11_layWay) := goodIn_app (goodIn_of _ (by decide +kernel)) ggX11_fee_X11_layWay
theorem dX11_fee_0 : decode cX11_fee 0 = .ok (.aload_n 0, 1) := by decide +kernel
theorem dX11_fee_1 : decode cX11_fee 1 = .ok (.iload_n 1, 1) := by decide +kernel
theorem dX11_fee_2 : decode cX11_fee 2 = .ok (.iload_n 2, 1) := by decide +kernel
theorem dX11_fee_3 : decode cX11_fee 3 = .ok (.invokevirtual 228, 3) := by decide +kernel
theorem dX11_fee_6 : decode cX11_fee 6 = .ok (.ifCond .eq 11, 3) := by decide +kernel
theorem dX11_fee_9 : decode cX11_fee 9 = .ok (.aload_n 0, 1) := by decide +kernel
theorem dX11_fee_10 : decode cX11_fee 10 = .ok (.iload_n 3, 1) := by decide +kernel
theorem dX11_fee_11 : decode cX11_fee 11 = .ok (.invokevirtual 270, 3) := by decide +kernel
theorem dX11_fee_14 : decode cX11_fee 14 = .ok (.ifCond .ne 6, 3) := by decide +kernel
theorem dX11_fee_17 : decode cX11_fee 17 = .ok (.ldc 173, 2) := by decide +kernel
theorem dX11_fee_19 : decode cX11_fee 19 = .ok (.ireturn, 1) := by decide +kernel
theorem dX11_fee_20 : decode cX11_fee 20 = .ok (.aload_n 0, 1) := by decide +kernel
theorem dX11_fee_21 : decode cX11_fee 21 = .ok (.iload_n 1, 1) := by decide +kernel
theorem dX11_fee_22 : decode cX11_fee 22 = .ok (.iload_n 2, 1) := by decide +kernel
theorem dX11_fee_23 : decode cX11_fee 23 = .ok (.aload_n 0, 1) := by decide +kernel
theorem dX11_fee_24 : decode cX11_fee 24 = .ok (.getfield 16, 3) := by decide +kernel
theorem dX11_fee_27 : decode cX11_fee 27 = .ok (.invokevirtual 242, 3) := by decide +kernel
theorem dX11_fee_30 : decode cX11_fee 30 = .ok (.iconst (-1), 1) := by decide +kernel
theorem dX11_fee_31 : decode cX11_fee 31 = .ok (.if_icmp .ne 5, 3) := by decide +kernel
theorem dX11_fee_34 : decode cX11_fee 34 = .ok (.iconst (-1), 1) := by decide +kernel
theorem dX11_fee_35 : decode cX11_fee 35 = .ok (.ireturn, 1) := by decide +kernel
theorem dX11_fee_36 : decode cX11_fee 36 = .ok (.iconst 0, 1) := by decide +kernel
theorem dX11_fee_37 : decode cX11_fee 37 = .ok (.istore 4, 2) := by decide +kernel
theorem dX11_fee_39 : decode cX11_fee 39 = .ok (.iconst 0, 1) := by decide +kernel
theorem dX11_fee_40 : decode cX11_fee 40 = .ok (.istore 5, 2) := by decide +kernel
theorem dX11_fee_42 : decode cX11_fee 42 = .ok (.iconst 0, 1) := by decide +kernel
theorem dX11_fee_43 : decode cX11_fee 43 = .ok (.istore 6, 2) := by decide +kernel
theorem dX11_fee_45 : decode cX11_fee 45 = .ok (.iload 6, 2) := by decide +kernel
theorem dX11_fee_47 : decode cX11_fee 47 = .ok (.aload_n 0, 1) := by decide +kernel
theorem dX11_fee_48 : decode cX11_fee 48 = .ok (.getfield 235, 3) := by decide +kernel
theorem dX11_fee_51 : decode cX11_fee 51 = .ok (.if_icmp .ge 66, 3) := by decide +kernel
theorem dX11_fee_54 : decode cX11_fee 54 = .ok (.iload 5, 2) := by decide +kernel
theorem dX11_fee_56 : decode cX11_fee 56 = .ok (.aload_n 0, 1) := by decide +kernel
theorem dX11_fee_57 : decode cX11_fee 57 = .ok (.getfield 16, 3) := by decide +kernel
theorem dX11_fee_60 : decode cX11_fee 60 = .ok (.aload_n 0, 1) := by decide +kernel
theorem dX11_fee_61 : decode cX11_fee 61 = .ok (.getfield 51, 3) := by decide +kernel
theorem dX11_fee_64 : decode cX11_fee 64 = .ok (.iload 6, 2) := by decide +kernel
theorem dX11_fee_66 : decode cX11_fee 66 = .ok (.iaload, 1) := by decide +kernel
theorem dX11_fee_67 : decode cX11_fee 67 = .ok (.iaload, 1) := by decide +kernel
theorem dX11_fee_68 : decode cX11_fee 68 = .ok (.iadd, 1) := by decide +kernel
theorem dX11_fee_69 : decode cX11_fee 69 = .ok (.istore 5, 2) := by decide +kernel
theorem dX11_fee_71 : decode cX11_fee 71 = .ok (.iload 4, 2) := by decide +kernel
theorem dX11_fee_73 : decode cX11_fee 73 = .ok (.aload_n 0, 1) := by decide +kernel
theorem dX11_fee_74 : decode cX11_fee 74 = .ok (.getfield 7, 3) := by decide +kernel
theorem dX11_fee_77 : decode cX11_fee 77 = .ok (.bipush 41, 2) := by decide +kernel
theorem dX11_fee_79 : decode cX11_fee 79 = .ok (.aload_n 0, 1) := by decide +kernel
theorem dX11_fee_80 : decode cX11_fee 80 = .ok (.getfield 51, 3) := by decide +kernel
theorem dX11_fee_83 : decode cX11_fee 83 = .ok (.iload 6, 2) := by decide +kernel
theorem dX11_fee_85 : decode cX11_fee 85 = .ok (.iaload, 1) := by decide +kernel
theorem dX11_fee_86 : decode cX11_fee 86 = .ok (.iadd, 1) := by decide +kernel
theorem dX11_fee_87 : decode cX11_fee 87 = .ok (.iaload, 1) := by decide +kernel
theorem dX11_fee_88 : decode cX11_fee 88 = .ok (.iload_n 3, 1) := by decide +kernel
theorem dX11_fee_89 : decode cX11_fee 89 = .ok (.if_icmp .ne 18, 3) := by decide +kernel
theorem dX11_fee_92 : decode cX11_fee 92 = .ok (.aload_n 0, 1) := by decide +kernel
theorem dX11_fee_93 : decode cX11_fee 93 = .ok (.getfield 16, 3) := by decide +kernel
theorem dX11_fee_96 : decode cX11_fee 96 = .ok (.aload_n 0, 1) := by decide +kernel
theorem dX11_fee_97 : decode cX11_fee 97 = .ok (.getfield 51, 3) := by decide +kernel
theorem dX11_fee_100 : decode cX11_fee 100 = .ok (.iload 6, 2) := by decide +kernel
theorem dX11_fee_102 : decode cX11_fee 102 = .ok (.iaload, 1) := by decide +kernel
theorem dX11_fee_103 : decode cX11_fee 103 = .ok (.iaload, 1) := by decide +kernel
theorem dX11_fee_104 : decode cX11_fee 104 = .ok (.goto 4, 3) := by decide +kernel
theorem dX11_fee_107 : decode cX11_fee 107 = .ok (.iconst 0, 1) := by decide +kernel
theorem dX11_fee_108 : decode cX11_fee 108 = .ok (.iadd, 1) := by decide +kernel
theorem dX11_fee_109 : decode cX11_fee 109 = .ok (.istore 4, 2) := by decide +kernel
theorem dX11_fee_111 : decode cX11_fee 111 = .ok (.iinc 6 1, 3) := by decide +kernel
theorem dX11_fee_114 : decode cX11_fee 114 = .ok (.goto (-69), 3) := by decide +kernel
theorem dX11_fee_117 : decode cX11_fee 117 = .ok (.sipush 1000, 3) := by decide +kernel
theorem dX11_fee_120 : decode cX11_fee 120 = .ok (.iload 4, 2) := by decide +kernel
theorem dX11_fee_122 : decode cX11_fee 122 = .ok (.imul, 1) := by decide +kernel
theorem dX11_fee_123 : decode cX11_fee 123 = .ok (.iload 5, 2) := by decide +kernel
theorem dX11_fee_125 : decode cX11_fee 125 = .ok (.idiv, 1) := by decide +kernel
theorem dX11_fee_126 : decode cX11_fee 126 = .ok (.ireturn, 1) := by decide +kernel
set_option maxRecDepth 20000 in
theorem ggX11_owes_X11_isCounty : GoodIn wsX11_owes wsX11_isCounty := goodIn_r _ [8, 2, 9, 10, 7, 11, 12, 13, 14, 15, 16, 17, 18, 19, 20, 21, 22, 23, 24, 25, 26, 27, 28, 29, 30, 31, 32, 33, 34, 35, 36, 37, 38, 39, 40, 41, 42, 43] rfl (by decide +kernel)
set_option maxRecDepth 20000 in
theorem gX11_owes_X11_isCounty : GoodIn wsX11_owes (wsV RX11 270 RX11 yX11_isCounty wsX11_isCounty) := goodIn_app (goodIn_of _ (by decide +kernel)) ggX11_owes_X11_isCounty
theorem dX11_owes_0 : decode cX11_owes 0 = .ok (.aload_n 0, 1) := by decide +kernel
theorem dX11_owes_1 : decode cX11_owes 1 = .ok (.iload_n 1, 1) := by decide +kernel
theorem dX11_owes_2 : decode cX11_owes 2 = .ok (.invokevirtual 270, 3) := by decide +kernel
theorem dX11_owes_5 : decode cX11_owes 5 = .ok (.ifCond .ne 6, 3) := by decide +kernel
theorem dX11_owes_8 : decode cX11_owes 8 = .ok (.ldc 173, 2) := by decide +kernel
theorem dX11_owes_10 : decode cX11_owes 10 = .ok (.ireturn, 1) := by decide +kernel
theorem dX11_owes_11 : decode cX11_owes 11 = .ok (.sipush 1000, 3) := by decide +kernel
theorem dX11_owes_14 : decode cX11_owes 14 = .ok (.istore_n 2, 1) := by decide +kernel
theorem dX11_owes_15 : decode cX11_owes 15 = .ok (.iconst 0, 1) := by decide +kernel
theorem dX11_owes_16 : decode cX11_owes 16 = .ok (.istore_n 3, 1) := by decide +kernel
theorem dX11_owes_17 : decode cX11_owes 17 = .ok (.iload_n 3, 1) := by decide +kernel
theorem dX11_owes_18 : decode cX11_owes 18 = .ok (.aload_n 0, 1) := by decide +kernel
theorem dX11_owes_19 : decode cX11_owes 19 = .ok (.getfield 7, 3) := by decide +kernel
theorem dX11_owes_22 : decode cX11_owes 22 = .ok (.iconst 3, 1) := by decide +kernel
theorem dX11_owes_23 : decode cX11_owes 23 = .ok (.iaload, 1) := by decide +kernel
theorem dX11_owes_24 : decode cX11_owes 24 = .ok (.if_icmp .ge 45, 3) := by decide +kernel
theorem dX11_owes_27 : decode cX11_owes 27 = .ok (.iload_n 2, 1) := by decide +kernel
theorem dX11_owes_28 : decode cX11_owes 28 = .ok (.aload_n 0, 1) := by decide +kernel
theorem dX11_owes_29 : decode cX11_owes 29 = .ok (.getfield 7, 3) := by decide +kernel
theorem dX11_owes_32 : decode cX11_owes 32 = .ok (.bipush 41, 2) := by decide +kernel
theorem dX11_owes_34 : decode cX11_owes 34 = .ok (.iload_n 3, 1) := by decide +kernel
theorem dX11_owes_35 : decode cX11_owes 35 = .ok (.iadd, 1) := by decide +kernel
theorem dX11_owes_36 : decode cX11_owes 36 = .ok (.iaload, 1) := by decide +kernel
theorem dX11_owes_37 : decode cX11_owes 37 = .ok (.iload_n 1, 1) := by decide +kernel
theorem dX11_owes_38 : decode cX11_owes 38 = .ok (.if_icmp .ne 22, 3) := by decide +kernel
theorem dX11_owes_41 : decode cX11_owes 41 = .ok (.aload_n 0, 1) := by decide +kernel
theorem dX11_owes_42 : decode cX11_owes 42 = .ok (.getfield 16, 3) := by decide +kernel
theorem dX11_owes_45 : decode cX11_owes 45 = .ok (.iload_n 3, 1) := by decide +kernel
theorem dX11_owes_46 : decode cX11_owes 46 = .ok (.iaload, 1) := by decide +kernel
theorem dX11_owes_47 : decode cX11_owes 47 = .ok (.aload_n 0, 1) := by decide +kernel
theorem dX11_owes_48 : decode cX11_owes 48 = .ok (.getfield 7, 3) := by decide +kernel
theorem dX11_owes_51 : decode cX11_owes 51 = .ok (.bipush 23, 2) := by decide +kernel
theorem dX11_owes_53 : decode cX11_owes 53 = .ok (.iload_n 3, 1) := by decide +kernel
theorem dX11_owes_54 : decode cX11_owes 54 = .ok (.iadd, 1) := by decide +kernel
theorem dX11_owes_55 : decode cX11_owes 55 = .ok (.iaload, 1) := by decide +kernel
theorem dX11_owes_56 : decode cX11_owes 56 = .ok (.isub, 1) := by decide +kernel
theorem dX11_owes_57 : decode cX11_owes 57 = .ok (.goto 4, 3) := by decide +kernel
theorem dX11_owes_60 : decode cX11_owes 60 = .ok (.iconst 0, 1) := by decide +kernel
theorem dX11_owes_61 : decode cX11_owes 61 = .ok (.iadd, 1) := by decide +kernel
theorem dX11_owes_62 : decode cX11_owes 62 = .ok (.istore_n 2, 1) := by decide +kernel
theorem dX11_owes_63 : decode cX11_owes 63 = .ok (.iinc 3 1, 3) := by decide +kernel
theorem dX11_owes_66 : decode cX11_owes 66 = .ok (.goto (-49), 3) := by decide +kernel
theorem dX11_owes_69 : decode cX11_owes 69 = .ok (.iload_n 2, 1) := by decide +kernel
theorem dX11_owes_70 : decode cX11_owes 70 = .ok (.ireturn, 1) := by decide +kernel
set_option maxRecDepth 20000 in
theorem ggX11_clash_X11_bits : GoodIn wsX11_clash wsX11_bits := goodIn_r _ [6] rfl (by decide +kernel)
set_option maxRecDepth 20000 in
theorem gX11_clash_X11_bits : GoodIn wsX11_clash (va_wsS RX11 255 yX11_bits wsX11_bits) := goodIn_app (goodIn_of _ (by decide +kernel)) ggX11_clash_X11_bits
theorem dX11_clash_0 : decode cX11_clash 0 = .ok (.iconst 0, 1) := by decide +kernel
theorem dX11_clash_1 : decode cX11_clash 1 = .ok (.istore_n 1, 1) := by decide +kernel
theorem dX11_clash_2 : decode cX11_clash 2 = .ok (.iload_n 1, 1) := by decide +kernel
theorem dX11_clash_3 : decode cX11_clash 3 = .ok (.aload_n 0, 1) := by decide +kernel
theorem dX11_clash_4 : decode cX11_clash 4 = .ok (.getfield 7, 3) := by decide +kernel
theorem dX11_clash_7 : decode cX11_clash 7 = .ok (.iconst 4, 1) := by decide +kernel
theorem dX11_clash_8 : decode cX11_clash 8 = .ok (.iaload, 1) := by decide +kernel
theorem dX11_clash_9 : decode cX11_clash 9 = .ok (.if_icmp .ge 176, 3) := by decide +kernel
theorem dX11_clash_12 : decode cX11_clash 12 = .ok (.iload_n 1, 1) := by decide +kernel
theorem dX11_clash_13 : decode cX11_clash 13 = .ok (.iconst 1, 1) := by decide +kernel
theorem dX11_clash_14 : decode cX11_clash 14 = .ok (.iadd, 1) := by decide +kernel
theorem dX11_clash_15 : decode cX11_clash 15 = .ok (.istore_n 2, 1) := by decide +kernel
theorem dX11_clash_16 : decode cX11_clash 16 = .ok (.iload_n 2, 1) := by decide +kernel
theorem dX11_clash_17 : decode cX11_clash 17 = .ok (.aload_n 0, 1) := by decide +kernel
theorem dX11_clash_18 : decode cX11_clash 18 = .ok (.getfield 7, 3) := by decide +kernel
theorem dX11_clash_21 : decode cX11_clash 21 = .ok (.iconst 4, 1) := by decide +kernel
theorem dX11_clash_22 : decode cX11_clash 22 = .ok (.iaload, 1) := by decide +kernel
theorem dX11_clash_23 : decode cX11_clash 23 = .ok (.if_icmp .ge 156, 3) := by decide +kernel
theorem dX11_clash_26 : decode cX11_clash 26 = .ok (.aload_n 0, 1) := by decide +kernel
theorem dX11_clash_27 : decode cX11_clash 27 = .ok (.getfield 7, 3) := by decide +kernel
theorem dX11_clash_30 : decode cX11_clash 30 = .ok (.bipush 56, 2) := by decide +kernel
theorem dX11_clash_32 : decode cX11_clash 32 = .ok (.iload_n 1, 1) := by decide +kernel
theorem dX11_clash_33 : decode cX11_clash 33 = .ok (.iadd, 1) := by decide +kernel
theorem dX11_clash_34 : decode cX11_clash 34 = .ok (.iaload, 1) := by decide +kernel
theorem dX11_clash_35 : decode cX11_clash 35 = .ok (.invokestatic 255, 3) := by decide +kernel
theorem dX11_clash_38 : decode cX11_clash 38 = .ok (.istore_n 3, 1) := by decide +kernel
theorem dX11_clash_39 : decode cX11_clash 39 = .ok (.ldc 227, 2) := by decide +kernel
theorem dX11_clash_41 : decode cX11_clash 41 = .ok (.istore 4, 2) := by decide +kernel
theorem dX11_clash_43 : decode cX11_clash 43 = .ok (.iconst 0, 1) := by decide +kernel
theorem dX11_clash_44 : decode cX11_clash 44 = .ok (.istore 5, 2) := by decide +kernel
theorem dX11_clash_46 : decode cX11_clash 46 = .ok (.iload 5, 2) := by decide +kernel
theorem dX11_clash_48 : decode cX11_clash 48 = .ok (.iconst 2, 1) := by decide +kernel
theorem dX11_clash_49 : decode cX11_clash 49 = .ok (.if_icmp .ge 90, 3) := by decide +kernel
theorem dX11_clash_52 : decode cX11_clash 52 = .ok (.iload 5, 2) := by decide +kernel
theorem dX11_clash_54 : decode cX11_clash 54 = .ok (.ifCond .ne 7, 3) := by decide +kernel
theorem dX11_clash_57 : decode cX11_clash 57 = .ok (.iload_n 1, 1) := by decide +kernel
theorem dX11_clash_58 : decode cX11_clash 58 = .ok (.goto 4, 3) := by decide +kernel
theorem dX11_clash_61 : decode cX11_clash 61 = .ok (.iload_n 2, 1) := by decide +kernel
theorem dX11_clash_62 : decode cX11_clash 62 = .ok (.istore 6, 2) := by decide +kernel
theorem dX11_clash_64 : decode cX11_clash 64 = .ok (.aload_n 0, 1) := by decide +kernel
theorem dX11_clash_65 : decode cX11_clash 65 = .ok (.getfield 7, 3) := by decide +kernel
theorem dX11_clash_68 : decode cX11_clash 68 = .ok (.bipush 62, 2) := by decide +kernel
theorem dX11_clash_70 : decode cX11_clash 70 = .ok (.iload 6, 2) := by decide +kernel
theorem dX11_clash_72 : decode cX11_clash 72 = .ok (.iadd, 1) := by decide +kernel
theorem dX11_clash_73 : decode cX11_clash 73 = .ok (.iaload, 1) := by decide +kernel
theorem dX11_clash_74 : decode cX11_clash 74 = .ok (.istore 7, 2) := by decide +kernel
theorem dX11_clash_76 : decode cX11_clash 76 = .ok (.aload_n 0, 1) := by decide +kernel
theorem dX11_clash_77 : decode cX11_clash 77 = .ok (.getfield 7, 3) := by decide +kernel
theorem dX11_clash_80 : decode cX11_clash 80 = .ok (.bipush 50, 2) := by decide +kernel
theorem dX11_clash_82 : decode cX11_clash 82 = .ok (.iload 6, 2) := by decide +kernel
theorem dX11_clash_84 : decode cX11_clash 84 = .ok (.iadd, 1) := by decide +kernel
theorem dX11_clash_85 : decode cX11_clash 85 = .ok (.iaload, 1) := by decide +kernel
theorem dX11_clash_86 : decode cX11_clash 86 = .ok (.iconst 1, 1) := by decide +kernel
theorem dX11_clash_87 : decode cX11_clash 87 = .ok (.if_icmp .eq 14, 3) := by decide +kernel
theorem dX11_clash_90 : decode cX11_clash 90 = .ok (.iload 7, 2) := by decide +kernel
theorem dX11_clash_92 : decode cX11_clash 92 = .ok (.iload_n 3, 1) := by decide +kernel
theorem dX11_clash_93 : decode cX11_clash 93 = .ok (.if_icmp .le 8, 3) := by decide +kernel
theorem dX11_clash_96 : decode cX11_clash 96 = .ok (.iload 7, 2) := by decide +kernel
theorem dX11_clash_98 : decode cX11_clash 98 = .ok (.goto 4, 3) := by decide +kernel
theorem dX11_clash_101 : decode cX11_clash 101 = .ok (.iload_n 3, 1) := by decide +kernel
theorem dX11_clash_102 : decode cX11_clash 102 = .ok (.istore_n 3, 1) := by decide +kernel
theorem dX11_clash_103 : decode cX11_clash 103 = .ok (.aload_n 0, 1) := by decide +kernel
theorem dX11_clash_104 : decode cX11_clash 104 = .ok (.getfield 7, 3) := by decide +kernel
theorem dX11_clash_107 : decode cX11_clash 107 = .ok (.bipush 50, 2) := by decide +kernel
theorem dX11_clash_109 : decode cX11_clash 109 = .ok (.iload 6, 2) := by decide +kernel
theorem dX11_clash_111 : decode cX11_clash 111 = .ok (.iadd, 1) := by decide +kernel
theorem dX11_clash_112 : decode cX11_clash 112 = .ok (.iaload, 1) := by decide +kernel
theorem dX11_clash_113 : decode cX11_clash 113 = .ok (.iconst 2, 1) := by decide +kernel
theorem dX11_clash_114 : decode cX11_clash 114 = .ok (.if_icmp .eq 15, 3) := by decide +kernel
theorem dX11_clash_117 : decode cX11_clash 117 = .ok (.iload 7, 2) := by decide +kernel
theorem dX11_clash_119 : decode cX11_clash 119 = .ok (.iload 4, 2) := by decide +kernel
theorem dX11_clash_121 : decode cX11_clash 121 = .ok (.if_icmp .ge 8, 3) := by decide +kernel
theorem dX11_clash_124 : decode cX11_clash 124 = .ok (.iload 7, 2) := by decide +kernel
theorem dX11_clash_126 : decode cX11_clash 126 = .ok (.goto 5, 3) := by decide +kernel
theorem dX11_clash_129 : decode cX11_clash 129 = .ok (.iload 4, 2) := by decide +kernel
theorem dX11_clash_131 : decode cX11_clash 131 = .ok (.istore 4, 2) := by decide +kernel
theorem dX11_clash_133 : decode cX11_clash 133 = .ok (.iinc 5 1, 3) := by decide +kernel
theorem dX11_clash_136 : decode cX11_clash 136 = .ok (.goto (-90), 3) := by decide +kernel
theorem dX11_clash_139 : decode cX11_clash 139 = .ok (.aload_n 0, 1) := by decide +kernel
theorem dX11_clash_140 : decode cX11_clash 140 = .ok (.getfield 7, 3) := by decide +kernel
theorem dX11_clash_143 : decode cX11_clash 143 = .ok (.bipush 56, 2) := by decide +kernel
theorem dX11_clash_145 : decode cX11_clash 145 = .ok (.iload_n 1, 1) := by decide +kernel
theorem dX11_clash_146 : decode cX11_clash 146 = .ok (.iadd, 1) := by decide +kernel
theorem dX11_clash_147 : decode cX11_clash 147 = .ok (.iaload, 1) := by decide +kernel
theorem dX11_clash_148 : decode cX11_clash 148 = .ok (.aload_n 0, 1) := by decide +kernel
theorem dX11_clash_149 : decode cX11_clash 149 = .ok (.getfield 7, 3) := by decide +kernel
theorem dX11_clash_152 : decode cX11_clash 152 = .ok (.bipush 56, 2) := by decide +kernel
theorem dX11_clash_154 : decode cX11_clash 154 = .ok (.iload_n 2, 1) := by decide +kernel
theorem dX11_clash_155 : decode cX11_clash 155 = .ok (.iadd, 1) := by decide +kernel
theorem dX11_clash_156 : decode cX11_clash 156 = .ok (.iaload, 1) := by decide +kernel
theorem dX11_clash_157 : decode cX11_clash 157 = .ok (.if_icmp .ne 16, 3) := by decide +kernel
theorem dX11_clash_160 : decode cX11_clash 160 = .ok (.iload_n 3, 1) := by decide +kernel
theorem dX11_clash_161 : decode cX11_clash 161 = .ok (.iload 4, 2) := by decide +kernel
theorem dX11_clash_163 : decode cX11_clash 163 = .ok (.if_icmp .le 10, 3) := by decide +kernel
theorem dX11_clash_166 : decode cX11_clash 166 = .ok (.bipush 10, 2) := by decide +kernel
theorem dX11_clash_168 : decode cX11_clash 168 = .ok (.iload_n 1, 1) := by decide +kernel
theorem dX11_clash_169 : decode cX11_clash 169 = .ok (.imul, 1) := by decide +kernel
theorem dX11_clash_170 : decode cX11_clash 170 = .ok (.iload_n 2, 1) := by decide +kernel
theorem dX11_clash_171 : decode cX11_clash 171 = .ok (.iadd, 1) := by decide +kernel
theorem dX11_clash_172 : decode cX11_clash 172 = .ok (.ireturn, 1) := by decide +kernel
theorem dX11_clash_173 : decode cX11_clash 173 = .ok (.iinc 2 1, 3) := by decide +kernel
theorem dX11_clash_176 : decode cX11_clash 176 = .ok (.goto (-160), 3) := by decide +kernel
theorem dX11_clash_179 : decode cX11_clash 179 = .ok (.iinc 1 1, 3) := by decide +kernel
theorem dX11_clash_182 : decode cX11_clash 182 = .ok (.goto (-180), 3) := by decide +kernel
theorem dX11_clash_185 : decode cX11_clash 185 = .ok (.iconst (-1), 1) := by decide +kernel
theorem dX11_clash_186 : decode cX11_clash 186 = .ok (.ireturn, 1) := by decide +kernel
set_option maxRecDepth 20000 in
theorem ggX11_rate_X11_way : GoodIn wsX11_rate wsX11_way := goodIn_r _ [5, 6, 7, 8, 9, 10, 11, 12, 13, 14, 4, 15, 16, 17, 18, 19, 20, 21, 22, 23, 24, 25, 26, 27, 28, 29, 30, 31, 32, 33, 34, 35, 36, 37, 38, 39, 40, 41, 42, 43, 44, 45, 46, 47, 48, 49, 50, 51, 52, 53, 54, 55, 56, 57, 58] rfl (by decide +kernel)
set_option maxRecDepth 20000 in
theorem gX11_rate_X11_way : GoodIn wsX11_rate (wsV RX11 273 RX11 yX11_way wsX11_way) := goodIn_app (goodIn_of _ (by decide +kernel)) ggX11_rate_X11_way
theorem dX11_rate_0 : decode cX11_rate 0 = .ok (.aload_n 0, 1) := by decide +kernel
theorem dX11_rate_1 : decode cX11_rate 1 = .ok (.iload_n 1, 1) := by decide +kernel
theorem dX11_rate_2 : decode cX11_rate 2 = .ok (.iload_n 2, 1) := by decide +kernel
theorem dX11_rate_3 : decode cX11_rate 3 = .ok (.iconst 0, 1) := by decide +kernel
theorem dX11_rate_4 : decode cX11_rate 4 = .ok (.invokevirtual 273, 3) := by decide +kernel
theorem dX11_rate_7 : decode cX11_rate 7 = .ok (.istore_n 3, 1) := by decide +kernel
theorem dX11_rate_8 : decode cX11_rate 8 = .ok (.iload_n 3, 1) := by decide +kernel
theorem dX11_rate_9 : decode cX11_rate 9 = .ok (.ifCond .ge 7, 3) := by decide +kernel
theorem dX11_rate_12 : decode cX11_rate 12 = .ok (.iload_n 3, 1) := by decide +kernel
theorem dX11_rate_13 : decode cX11_rate 13 = .ok (.goto 11, 3) := by decide +kernel
theorem dX11_rate_16 : decode cX11_rate 16 = .ok (.iconst 2, 1) := by decide +kernel
theorem dX11_rate_17 : decode cX11_rate 17 = .ok (.iload_n 3, 1) := by decide +kernel
theorem dX11_rate_18 : decode cX11_rate 18 = .ok (.iconst 1, 1) := by decide +kernel
theorem dX11_rate_19 : decode cX11_rate 19 = .ok (.isub, 1) := by decide +kernel
theorem dX11_rate_20 : decode cX11_rate 20 = .ok (.bipush 10, 2) := by decide +kernel
theorem dX11_rate_22 : decode cX11_rate 22 = .ok (.idiv, 1) := by decide +kernel
theorem dX11_rate_23 : decode cX11_rate 23 = .ok (.iadd, 1) := by decide +kernel
theorem dX11_rate_24 : decode cX11_rate 24 = .ok (.ireturn, 1) := by decide +kernel
set_option maxRecDepth 20000 in
theorem ggX11_journey_X11_in : GoodIn wsX11_journey wsX11_in := goodIn_r _ [11] rfl (by decide +kernel)
set_option maxRecDepth 20000 in
theorem gX11_journey_X11_in : GoodIn wsX11_journey (va_wsS RX11 83 yX11_in wsX11_in) := goodIn_app (goodIn_of _ (by decide +kernel)) ggX11_journey_X11_in
theorem dX11_journey_0 : decode cX11_journey 0 = .ok (.iload_n 1, 1) := by decide +kernel
theorem dX11_journey_1 : decode cX11_journey 1 = .ok (.i2l, 1) := by decide +kernel
theorem dX11_journey_2 : decode cX11_journey 2 = .ok (.lconst 0, 1) := by decide +kernel
theorem dX11_journey_3 : decode cX11_journey 3 = .ok (.iconst 1, 1) := by decide +kernel
theorem dX11_journey_4 : decode cX11_journey 4 = .ok (.aload_n 0, 1) := by decide +kernel
theorem dX11_journey_5 : decode cX11_journey 5 = .ok (.getfield 7, 3) := by decide +kernel
theorem dX11_journey_8 : decode cX11_journey 8 = .ok (.iconst 3, 1) := by decide +kernel
theorem dX11_journey_9 : decode cX11_journey 9 = .ok (.iaload, 1) := by decide +kernel
theorem dX11_journey_10 : decode cX11_journey 10 = .ok (.ishl, 1) := by decide +kernel
theorem dX11_journey_11 : decode cX11_journey 11 = .ok (.iconst 1, 1) := by decide +kernel
theorem dX11_journey_12 : decode cX11_journey 12 = .ok (.isub, 1) := by decide +kernel
theorem dX11_journey_13 : decode cX11_journey 13 = .ok (.i2l, 1) := by decide +kernel
theorem dX11_journey_14 : decode cX11_journey 14 = .ok (.invokestatic 83, 3) := by decide +kernel
theorem dX11_journey_17 : decode cX11_journey 17 = .ok (.ifCond .ne 6, 3) := by decide +kernel
theorem dX11_journey_20 : decode cX11_journey 20 = .ok (.ldc 173, 2) := by decide +kernel
theorem dX11_journey_22 : decode cX11_journey 22 = .ok (.ireturn, 1) := by decide +kernel
theorem dX11_journey_23 : decode cX11_journey 23 = .ok (.iload_n 2, 1) := by decide +kernel
theorem dX11_journey_24 : decode cX11_journey 24 = .ok (.i2l, 1) := by decide +kernel
theorem dX11_journey_25 : decode cX11_journey 25 = .ok (.lconst 0, 1) := by decide +kernel
theorem dX11_journey_26 : decode cX11_journey 26 = .ok (.ldc2_w 184, 3) := by decide +kernel
theorem dX11_journey_29 : decode cX11_journey 29 = .ok (.invokestatic 83, 3) := by decide +kernel
theorem dX11_journey_32 : decode cX11_journey 32 = .ok (.ifCond .ne 6, 3) := by decide +kernel
theorem dX11_journey_35 : decode cX11_journey 35 = .ok (.ldc 87, 2) := by decide +kernel
theorem dX11_journey_37 : decode cX11_journey 37 = .ok (.ireturn, 1) := by decide +kernel
theorem dX11_journey_38 : decode cX11_journey 38 = .ok (.aload_n 0, 1) := by decide +kernel
theorem dX11_journey_39 : decode cX11_journey 39 = .ok (.getfield 75, 3) := by decide +kernel
theorem dX11_journey_42 : decode cX11_journey 42 = .ok (.bipush 8, 2) := by decide +kernel
theorem dX11_journey_44 : decode cX11_journey 44 = .ok (.if_icmp .ne 6, 3) := by decide +kernel
theorem dX11_journey_47 : decode cX11_journey 47 = .ok (.ldc 91, 2) := by decide +kernel
theorem dX11_journey_49 : decode cX11_journey 49 = .ok (.ireturn, 1) := by decide +kernel
theorem dX11_journey_50 : decode cX11_journey 50 = .ok (.aload_n 0, 1) := by decide +kernel
theorem dX11_journey_51 : decode cX11_journey 51 = .ok (.getfield 39, 3) := by decide +kernel
theorem dX11_journey_54 : decode cX11_journey 54 = .ok (.iconst 2, 1) := by decide +kernel
theorem dX11_journey_55 : decode cX11_journey 55 = .ok (.aload_n 0, 1) := by decide +kernel
theorem dX11_journey_56 : decode cX11_journey 56 = .ok (.getfield 75, 3) := by decide +kernel
theorem dX11_journey_59 : decode cX11_journey 59 = .ok (.imul, 1) := by decide +kernel
theorem dX11_journey_60 : decode cX11_journey 60 = .ok (.iload_n 1, 1) := by decide +kernel
theorem dX11_journey_61 : decode cX11_journey 61 = .ok (.iastore, 1) := by decide +kernel
theorem dX11_journey_62 : decode cX11_journey 62 = .ok (.aload_n 0, 1) := by decide +kernel
theorem dX11_journey_63 : decode cX11_journey 63 = .ok (.getfield 39, 3) := by decide +kernel
theorem dX11_journey_66 : decode cX11_journey 66 = .ok (.iconst 2, 1) := by decide +kernel
theorem dX11_journey_67 : decode cX11_journey 67 = .ok (.aload_n 0, 1) := by decide +kernel
theorem dX11_journey_68 : decode cX11_journey 68 = .ok (.getfield 75, 3) := by decide +kernel
theorem dX11_journey_71 : decode cX11_journey 71 = .ok (.imul, 1) := by decide +kernel
theorem dX11_journey_72 : decode cX11_journey 72 = .ok (.iconst 1, 1) := by decide +kernel
theorem dX11_journey_73 : decode cX11_journey 73 = .ok (.iadd, 1) := by decide +kernel
theorem dX11_journey_74 : decode cX11_journey 74 = .ok (.iload_n 2, 1) := by decide +kernel
theorem dX11_journey_75 : decode cX11_journey 75 = .ok (.iastore, 1) := by decide +kernel
theorem dX11_journey_76 : decode cX11_journey 76 = .ok (.aload_n 0, 1) := by decide +kernel
theorem dX11_journey_77 : decode cX11_journey 77 = .ok (.dup, 1) := by decide +kernel
theorem dX11_journey_78 : decode cX11_journey 78 = .ok (.getfield 75, 3) := by decide +kernel
theorem dX11_journey_81 : decode cX11_journey 81 = .ok (.iconst 1, 1) := by decide +kernel
theorem dX11_journey_82 : decode cX11_journey 82 = .ok (.iadd, 1) := by decide +kernel
theorem dX11_journey_83 : decode cX11_journey 83 = .ok (.putfield 75, 3) := by decide +kernel
theorem dX11_journey_86 : decode cX11_journey 86 = .ok (.aload_n 0, 1) := by decide +kernel
theorem dX11_journey_87 : decode cX11_journey 87 = .ok (.getfield 75, 3) := by decide +kernel
theorem dX11_journey_90 : decode cX11_journey 90 = .ok (.ireturn, 1) := by decide +kernel
set_option maxRecDepth 20000 in
theorem ggX11_areSo_X11_has : GoodIn wsX11_areSo wsX11_has := goodIn_r _ [7] rfl (by decide +kernel)
set_option maxRecDepth 20000 in
theorem gX11_areSo_X11_has : GoodIn wsX11_areSo (va_wsS RX11 148 yX11_has wsX11_has) := goodIn_app (goodIn_of _ (by decide +kernel)) ggX11_areSo_X11_has
theorem dX11_areSo_0 : decode cX11_areSo 0 = .ok (.iconst 1, 1) := by decide +kernel
theorem dX11_areSo_1 : decode cX11_areSo 1 = .ok (.istore_n 3, 1) := by decide +kernel
theorem dX11_areSo_2 : decode cX11_areSo 2 = .ok (.iconst 0, 1) := by decide +kernel
theorem dX11_areSo_3 : decode cX11_areSo 3 = .ok (.istore 4, 2) := by decide +kernel
theorem dX11_areSo_5 : decode cX11_areSo 5 = .ok (.iload 4, 2) := by decide +kernel
theorem dX11_areSo_7 : decode cX11_areSo 7 = .ok (.aload_n 0, 1) := by decide +kernel
theorem dX11_areSo_8 : decode cX11_areSo 8 = .ok (.getfield 75, 3) := by decide +kernel
theorem dX11_areSo_11 : decode cX11_areSo 11 = .ok (.if_icmp .ge 104, 3) := by decide +kernel
theorem dX11_areSo_14 : decode cX11_areSo 14 = .ok (.iconst 0, 1) := by decide +kernel
theorem dX11_areSo_15 : decode cX11_areSo 15 = .ok (.istore 5, 2) := by decide +kernel
theorem dX11_areSo_17 : decode cX11_areSo 17 = .ok (.iconst 0, 1) := by decide +kernel
theorem dX11_areSo_18 : decode cX11_areSo 18 = .ok (.istore 6, 2) := by decide +kernel
theorem dX11_areSo_20 : decode cX11_areSo 20 = .ok (.iload 6, 2) := by decide +kernel
theorem dX11_areSo_22 : decode cX11_areSo 22 = .ok (.aload_n 0, 1) := by decide +kernel
theorem dX11_areSo_23 : decode cX11_areSo 23 = .ok (.getfield 7, 3) := by decide +kernel
theorem dX11_areSo_26 : decode cX11_areSo 26 = .ok (.iconst 3, 1) := by decide +kernel
theorem dX11_areSo_27 : decode cX11_areSo 27 = .ok (.iaload, 1) := by decide +kernel
theorem dX11_areSo_28 : decode cX11_areSo 28 = .ok (.if_icmp .ge 55, 3) := by decide +kernel
theorem dX11_areSo_31 : decode cX11_areSo 31 = .ok (.iload 5, 2) := by decide +kernel
theorem dX11_areSo_33 : decode cX11_areSo 33 = .ok (.aload_n 0, 1) := by decide +kernel
theorem dX11_areSo_34 : decode cX11_areSo 34 = .ok (.getfield 39, 3) := by decide +kernel
theorem dX11_areSo_37 : decode cX11_areSo 37 = .ok (.iconst 2, 1) := by decide +kernel
theorem dX11_areSo_38 : decode cX11_areSo 38 = .ok (.iload 4, 2) := by decide +kernel
theorem dX11_areSo_40 : decode cX11_areSo 40 = .ok (.imul, 1) := by decide +kernel
theorem dX11_areSo_41 : decode cX11_areSo 41 = .ok (.iaload, 1) := by decide +kernel
theorem dX11_areSo_42 : decode cX11_areSo 42 = .ok (.iload 6, 2) := by decide +kernel
theorem dX11_areSo_44 : decode cX11_areSo 44 = .ok (.invokestatic 148, 3) := by decide +kernel
theorem dX11_areSo_47 : decode cX11_areSo 47 = .ok (.ifCond .eq 26, 3) := by decide +kernel
theorem dX11_areSo_50 : decode cX11_areSo 50 = .ok (.iload 6, 2) := by decide +kernel
theorem dX11_areSo_52 : decode cX11_areSo 52 = .ok (.iload_n 1, 1) := by decide +kernel
theorem dX11_areSo_53 : decode cX11_areSo 53 = .ok (.if_icmp .ne 7, 3) := by decide +kernel
theorem dX11_areSo_56 : decode cX11_areSo 56 = .ok (.iload_n 2, 1) := by decide +kernel
theorem dX11_areSo_57 : decode cX11_areSo 57 = .ok (.goto 17, 3) := by decide +kernel
theorem dX11_areSo_60 : decode cX11_areSo 60 = .ok (.aload_n 0, 1) := by decide +kernel
theorem dX11_areSo_61 : decode cX11_areSo 61 = .ok (.getfield 7, 3) := by decide +kernel
theorem dX11_areSo_64 : decode cX11_areSo 64 = .ok (.bipush 23, 2) := by decide +kernel
theorem dX11_areSo_66 : decode cX11_areSo 66 = .ok (.iload 6, 2) := by decide +kernel
theorem dX11_areSo_68 : decode cX11_areSo 68 = .ok (.iadd, 1) := by decide +kernel
theorem dX11_areSo_69 : decode cX11_areSo 69 = .ok (.iaload, 1) := by decide +kernel
theorem dX11_areSo_70 : decode cX11_areSo 70 = .ok (.goto 4, 3) := by decide +kernel
theorem dX11_areSo_73 : decode cX11_areSo 73 = .ok (.iconst 0, 1) := by decide +kernel
theorem dX11_areSo_74 : decode cX11_areSo 74 = .ok (.iadd, 1) := by decide +kernel
theorem dX11_areSo_75 : decode cX11_areSo 75 = .ok (.istore 5, 2) := by decide +kernel
theorem dX11_areSo_77 : decode cX11_areSo 77 = .ok (.iinc 6 1, 3) := by decide +kernel
theorem dX11_areSo_80 : decode cX11_areSo 80 = .ok (.goto (-60), 3) := by decide +kernel
theorem dX11_areSo_83 : decode cX11_areSo 83 = .ok (.iload_n 3, 1) := by decide +kernel
theorem dX11_areSo_84 : decode cX11_areSo 84 = .ok (.ifCond .eq 23, 3) := by decide +kernel
theorem dX11_areSo_87 : decode cX11_areSo 87 = .ok (.iload 5, 2) := by decide +kernel
theorem dX11_areSo_89 : decode cX11_areSo 89 = .ok (.aload_n 0, 1) := by decide +kernel
theorem dX11_areSo_90 : decode cX11_areSo 90 = .ok (.getfield 39, 3) := by decide +kernel
theorem dX11_areSo_93 : decode cX11_areSo 93 = .ok (.iconst 2, 1) := by decide +kernel
theorem dX11_areSo_94 : decode cX11_areSo 94 = .ok (.iload 4, 2) := by decide +kernel
theorem dX11_areSo_96 : decode cX11_areSo 96 = .ok (.imul, 1) := by decide +kernel
theorem dX11_areSo_97 : decode cX11_areSo 97 = .ok (.iconst 1, 1) := by decide +kernel
theorem dX11_areSo_98 : decode cX11_areSo 98 = .ok (.iadd, 1) := by decide +kernel
theorem dX11_areSo_99 : decode cX11_areSo 99 = .ok (.iaload, 1) := by decide +kernel
theorem dX11_areSo_100 : decode cX11_areSo 100 = .ok (.if_icmp .ne 7, 3) := by decide +kernel
theorem dX11_areSo_103 : decode cX11_areSo 103 = .ok (.iconst 1, 1) := by decide +kernel
theorem dX11_areSo_104 : decode cX11_areSo 104 = .ok (.goto 4, 3) := by decide +kernel
theorem dX11_areSo_107 : decode cX11_areSo 107 = .ok (.iconst 0, 1) := by decide +kernel
theorem dX11_areSo_108 : decode cX11_areSo 108 = .ok (.istore_n 3, 1) := by decide +kernel
theorem dX11_areSo_109 : decode cX11_areSo 109 = .ok (.iinc 4 1, 3) := by decide +kernel
theorem dX11_areSo_112 : decode cX11_areSo 112 = .ok (.goto (-107), 3) := by decide +kernel
theorem dX11_areSo_115 : decode cX11_areSo 115 = .ok (.iload_n 3, 1) := by decide +kernel
theorem dX11_areSo_116 : decode cX11_areSo 116 = .ok (.ireturn, 1) := by decide +kernel
set_option maxRecDepth 20000 in
theorem ggX11_liars_X11_areSo : GoodIn wsX11_liars wsX11_areSo := goodIn_r _ [6, 7, 1, 8, 9, 10, 5, 11, 12, 13, 14, 15, 16, 17, 18, 19, 20, 21, 22, 23, 24, 25, 26, 27, 28, 29, 30, 31, 32, 33, 34, 35, 36, 37, 38, 39, 40, 41, 42, 43] rfl (by decide +kernel)
set_option maxRecDepth 20000 in
theorem gX11_liars_X11_areSo : GoodIn wsX11_liars (wsV RX11 276 RX11 yX11_areSo wsX11_areSo) := goodIn_app (goodIn_of _ (by decide +kernel)) ggX11_liars_X11_areSo
theorem dX11_liars_0 : decode cX11_liars 0 = .ok (.iconst 0, 1) := by decide +kernel
theorem dX11_liars_1 : decode cX11_liars 1 = .ok (.istore_n 1, 1) := by decide +kernel
theorem dX11_liars_2 : decode cX11_liars 2 = .ok (.iconst 0, 1) := by decide +kernel
theorem dX11_liars_3 : decode cX11_liars 3 = .ok (.istore_n 2, 1) := by decide +kernel
theorem dX11_liars_4 : decode cX11_liars 4 = .ok (.iload_n 2, 1) := by decide +kernel
theorem dX11_liars_5 : decode cX11_liars 5 = .ok (.aload_n 0, 1) := by decide +kernel
theorem dX11_liars_6 : decode cX11_liars 6 = .ok (.getfield 7, 3) := by decide +kernel
theorem dX11_liars_9 : decode cX11_liars 9 = .ok (.iconst 3, 1) := by decide +kernel
theorem dX11_liars_10 : decode cX11_liars 10 = .ok (.iaload, 1) := by decide +kernel
theorem dX11_liars_11 : decode cX11_liars 11 = .ok (.if_icmp .ge 70, 3) := by decide +kernel
theorem dX11_liars_14 : decode cX11_liars 14 = .ok (.aload_n 0, 1) := by decide +kernel
theorem dX11_liars_15 : decode cX11_liars 15 = .ok (.iconst (-1), 1) := by decide +kernel
theorem dX11_liars_16 : decode cX11_liars 16 = .ok (.iconst 0, 1) := by decide +kernel
theorem dX11_liars_17 : decode cX11_liars 17 = .ok (.invokevirtual 276, 3) := by decide +kernel
theorem dX11_liars_20 : decode cX11_liars 20 = .ok (.ifCond .ne 61, 3) := by decide +kernel
theorem dX11_liars_23 : decode cX11_liars 23 = .ok (.iconst 0, 1) := by decide +kernel
theorem dX11_liars_24 : decode cX11_liars 24 = .ok (.istore_n 3, 1) := by decide +kernel
theorem dX11_liars_25 : decode cX11_liars 25 = .ok (.iconst 1, 1) := by decide +kernel
theorem dX11_liars_26 : decode cX11_liars 26 = .ok (.istore 4, 2) := by decide +kernel
theorem dX11_liars_28 : decode cX11_liars 28 = .ok (.iload 4, 2) := by decide +kernel
theorem dX11_liars_30 : decode cX11_liars 30 = .ok (.bipush 100, 2) := by decide +kernel
theorem dX11_liars_32 : decode cX11_liars 32 = .ok (.if_icmp .ge 29, 3) := by decide +kernel
theorem dX11_liars_35 : decode cX11_liars 35 = .ok (.iload_n 3, 1) := by decide +kernel
theorem dX11_liars_36 : decode cX11_liars 36 = .ok (.ifCond .ne 13, 3) := by decide +kernel
theorem dX11_liars_39 : decode cX11_liars 39 = .ok (.aload_n 0, 1) := by decide +kernel
theorem dX11_liars_40 : decode cX11_liars 40 = .ok (.iload_n 2, 1) := by decide +kernel
theorem dX11_liars_41 : decode cX11_liars 41 = .ok (.iload 4, 2) := by decide +kernel
theorem dX11_liars_43 : decode cX11_liars 43 = .ok (.invokevirtual 276, 3) := by decide +kernel
theorem dX11_liars_46 : decode cX11_liars 46 = .ok (.ifCond .eq 7, 3) := by decide +kernel
theorem dX11_liars_49 : decode cX11_liars 49 = .ok (.iconst 1, 1) := by decide +kernel
theorem dX11_liars_50 : decode cX11_liars 50 = .ok (.goto 4, 3) := by decide +kernel
theorem dX11_liars_53 : decode cX11_liars 53 = .ok (.iconst 0, 1) := by decide +kernel
theorem dX11_liars_54 : decode cX11_liars 54 = .ok (.istore_n 3, 1) := by decide +kernel
theorem dX11_liars_55 : decode cX11_liars 55 = .ok (.iinc 4 1, 3) := by decide +kernel
theorem dX11_liars_58 : decode cX11_liars 58 = .ok (.goto (-30), 3) := by decide +kernel
theorem dX11_liars_61 : decode cX11_liars 61 = .ok (.iload_n 1, 1) := by decide +kernel
theorem dX11_liars_62 : decode cX11_liars 62 = .ok (.iload_n 3, 1) := by decide +kernel
theorem dX11_liars_63 : decode cX11_liars 63 = .ok (.ifCond .eq 9, 3) := by decide +kernel
theorem dX11_liars_66 : decode cX11_liars 66 = .ok (.iconst 1, 1) := by decide +kernel
theorem dX11_liars_67 : decode cX11_liars 67 = .ok (.iload_n 2, 1) := by decide +kernel
theorem dX11_liars_68 : decode cX11_liars 68 = .ok (.ishl, 1) := by decide +kernel
theorem dX11_liars_69 : decode cX11_liars 69 = .ok (.goto 4, 3) := by decide +kernel
theorem dX11_liars_72 : decode cX11_liars 72 = .ok (.iconst 0, 1) := by decide +kernel
theorem dX11_liars_73 : decode cX11_liars 73 = .ok (.ior, 1) := by decide +kernel
theorem dX11_liars_74 : decode cX11_liars 74 = .ok (.istore_n 1, 1) := by decide +kernel
theorem dX11_liars_75 : decode cX11_liars 75 = .ok (.iinc 2 1, 3) := by decide +kernel
theorem dX11_liars_78 : decode cX11_liars 78 = .ok (.goto (-74), 3) := by decide +kernel
theorem dX11_liars_81 : decode cX11_liars 81 = .ok (.iload_n 1, 1) := by decide +kernel
theorem dX11_liars_82 : decode cX11_liars 82 = .ok (.ireturn, 1) := by decide +kernel
set_option maxRecDepth 20000 in
theorem ggX11_fits_X11_isRoad : GoodIn wsX11_fits wsX11_isRoad := goodIn_r _ [7, 8, 9, 10, 6, 11, 21, 22, 23, 24, 25, 26, 27, 28, 29, 30, 31, 32, 33, 34, 35, 36, 37, 38, 39, 40, 41, 42, 43, 44, 45, 46, 47, 48, 49, 50, 51, 52] rfl (by decide +kernel)
set_option maxRecDepth 20000 in
theorem gX11_fits_X11_isRoad : GoodIn wsX11_fits (wsV RX11 170 RX11 yX11_isRoad wsX11_isRoad) := goodIn_app (goodIn_of _ (by decide +kernel)) ggX11_fits_X11_isRoad
set_option maxRecDepth 20000 in
theorem ggX11_fits_X11_in : GoodIn wsX11_fits wsX11_in := goodIn_r _ [11] rfl (by decide +kernel)
set_option maxRecDepth 20000 in
theorem gX11_fits_X11_in : GoodIn wsX11_fits (va_wsS RX11 83 yX11_in wsX11_in) := goodIn_app (goodIn_of _ (by decide +kernel)) ggX11_fits_X11_in
set_option maxRecDepth 20000 in
theorem ggX11_fits_X11_areSo : GoodIn wsX11_fits wsX11_areSo := goodIn_r _ [15, 16, 8, 17, 18, 19, 6, 20, 21, 22, 23, 24, 25, 26, 27, 28, 29, 30, 31, 32, 33, 34, 35, 36, 37, 38, 39, 40, 41, 42, 43, 44, 45, 46, 47, 48, 49, 50, 51, 52] rfl (by decide +kernel)
set_option maxRecDepth 20000 in
theorem gX11_fits_X11_areSo : GoodIn wsX11_fits (wsV RX11 276 RX11 yX11_areSo wsX11_areSo) := goodIn_app (goodIn_of _ (by decide +kernel)) ggX11_fits_X11_areSo
theorem dX11_fits_0 : decode cX11_fits 0 = .ok (.aload_n 0, 1) := by decide +kernel
theorem dX11_fits_1 : decode cX11_fits 1 = .ok (.iload_n 1, 1) := by decide +kernel
theorem dX11_fits_2 : decode cX11_fits 2 = .ok (.invokevirtual 170, 3) := by decide +kernel
theorem dX11_fits_5 : decode cX11_fits 5 = .ok (.ifCond .ne 6, 3) := by decide +kernel
theorem dX11_fits_8 : decode cX11_fits 8 = .ok (.ldc 173, 2) := by decide +kernel
theorem dX11_fits_10 : decode cX11_fits 10 = .ok (.ireturn, 1) := by decide +kernel
theorem dX11_fits_11 : decode cX11_fits 11 = .ok (.iload_n 2, 1) := by decide +kernel
theorem dX11_fits_12 : decode cX11_fits 12 = .ok (.i2l, 1) := by decide +kernel
theorem dX11_fits_13 : decode cX11_fits 13 = .ok (.lconst 0, 1) := by decide +kernel
theorem dX11_fits_14 : decode cX11_fits 14 = .ok (.lconst 1, 1) := by decide +kernel
theorem dX11_fits_15 : decode cX11_fits 15 = .ok (.invokestatic 83, 3) := by decide +kernel
theorem dX11_fits_18 : decode cX11_fits 18 = .ok (.ifCond .ne 6, 3) := by decide +kernel
theorem dX11_fits_21 : decode cX11_fits 21 = .ok (.ldc 87, 2) := by decide +kernel
theorem dX11_fits_23 : decode cX11_fits 23 = .ok (.ireturn, 1) := by decide +kernel
theorem dX11_fits_24 : decode cX11_fits 24 = .ok (.iconst 0, 1) := by decide +kernel
theorem dX11_fits_25 : decode cX11_fits 25 = .ok (.istore_n 3, 1) := by decide +kernel
theorem dX11_fits_26 : decode cX11_fits 26 = .ok (.iconst (-1), 1) := by decide +kernel
theorem dX11_fits_27 : decode cX11_fits 27 = .ok (.istore 4, 2) := by decide +kernel
theorem dX11_fits_29 : decode cX11_fits 29 = .ok (.bipush 99, 2) := by decide +kernel
theorem dX11_fits_31 : decode cX11_fits 31 = .ok (.istore 5, 2) := by decide +kernel
theorem dX11_fits_33 : decode cX11_fits 33 = .ok (.iload 5, 2) := by decide +kernel
theorem dX11_fits_35 : decode cX11_fits 35 = .ok (.ifCond .le 45, 3) := by decide +kernel
theorem dX11_fits_38 : decode cX11_fits 38 = .ok (.aload_n 0, 1) := by decide +kernel
theorem dX11_fits_39 : decode cX11_fits 39 = .ok (.iload_n 1, 1) := by decide +kernel
theorem dX11_fits_40 : decode cX11_fits 40 = .ok (.iload 5, 2) := by decide +kernel
theorem dX11_fits_42 : decode cX11_fits 42 = .ok (.invokevirtual 276, 3) := by decide +kernel
theorem dX11_fits_45 : decode cX11_fits 45 = .ok (.istore 6, 2) := by decide +kernel
theorem dX11_fits_47 : decode cX11_fits 47 = .ok (.iload_n 3, 1) := by decide +kernel
theorem dX11_fits_48 : decode cX11_fits 48 = .ok (.iload 6, 2) := by decide +kernel
theorem dX11_fits_50 : decode cX11_fits 50 = .ok (.ifCond .eq 7, 3) := by decide +kernel
theorem dX11_fits_53 : decode cX11_fits 53 = .ok (.iconst 1, 1) := by decide +kernel
theorem dX11_fits_54 : decode cX11_fits 54 = .ok (.goto 4, 3) := by decide +kernel
theorem dX11_fits_57 : decode cX11_fits 57 = .ok (.iconst 0, 1) := by decide +kernel
theorem dX11_fits_58 : decode cX11_fits 58 = .ok (.iadd, 1) := by decide +kernel
theorem dX11_fits_59 : decode cX11_fits 59 = .ok (.istore_n 3, 1) := by decide +kernel
theorem dX11_fits_60 : decode cX11_fits 60 = .ok (.iload 6, 2) := by decide +kernel
theorem dX11_fits_62 : decode cX11_fits 62 = .ok (.ifCond .eq 8, 3) := by decide +kernel
theorem dX11_fits_65 : decode cX11_fits 65 = .ok (.iload 5, 2) := by decide +kernel
theorem dX11_fits_67 : decode cX11_fits 67 = .ok (.goto 5, 3) := by decide +kernel
theorem dX11_fits_70 : decode cX11_fits 70 = .ok (.iload 4, 2) := by decide +kernel
theorem dX11_fits_72 : decode cX11_fits 72 = .ok (.istore 4, 2) := by decide +kernel
theorem dX11_fits_74 : decode cX11_fits 74 = .ok (.iinc 5 (-1), 3) := by decide +kernel
theorem dX11_fits_77 : decode cX11_fits 77 = .ok (.goto (-44), 3) := by decide +kernel
theorem dX11_fits_80 : decode cX11_fits 80 = .ok (.iload_n 2, 1) := by decide +kernel
theorem dX11_fits_81 : decode cX11_fits 81 = .ok (.ifCond .ne 7, 3) := by decide +kernel
theorem dX11_fits_84 : decode cX11_fits 84 = .ok (.iload_n 3, 1) := by decide +kernel
theorem dX11_fits_85 : decode cX11_fits 85 = .ok (.goto 5, 3) := by decide +kernel
theorem dX11_fits_88 : decode cX11_fits 88 = .ok (.iload 4, 2) := by decide +kernel
theorem dX11_fits_90 : decode cX11_fits 90 = .ok (.ireturn, 1) := by decide +kernel
set_option maxRecDepth 20000 in
theorem ggX11_write_X11_isRoad : GoodIn wsX11_write wsX11_isRoad := goodIn_r _ [11, 12, 13, 14, 10, 15, 16, 17, 18, 19, 20, 21, 22, 23, 24, 25, 26, 27, 28, 29, 30, 31, 32, 33, 34, 35, 36, 37, 38, 39, 40, 41, 42, 43, 44, 45, 46, 47] rfl (by decide +kernel)
set_option maxRecDepth 20000 in
theorem gX11_write_X11_isRoad : GoodIn wsX11_write (wsV RX11 170 RX11 yX11_isRoad wsX11_isRoad) := goodIn_app (goodIn_of _ (by decide +kernel)) ggX11_write_X11_isRoad
set_option maxRecDepth 20000 in
theorem ggX11_write_X11_in : GoodIn wsX11_write wsX11_in := goodIn_r _ [15] rfl (by decide +kernel)
set_option maxRecDepth 20000 in
theorem gX11_write_X11_in : GoodIn wsX11_write (va_wsS RX11 83 yX11_in wsX11_in) := goodIn_app (goodIn_of _ (by decide +kernel)) ggX11_write_X11_in
theorem dX11_write_0 : decode cX11_write 0 = .ok (.aload_n 0, 1) := by decide +kernel
theorem dX11_write_1 : decode cX11_write 1 = .ok (.iload_n 1, 1) := by decide +kernel
theorem dX11_write_2 : decode cX11_write 2 = .ok (.invokevirtual 170, 3) := by decide +kernel
theorem dX11_write_5 : decode cX11_write 5 = .ok (.ifCond .ne 6, 3) := by decide +kernel
theorem dX11_write_8 : decode cX11_write 8 = .ok (.ldc 173, 2) := by decide +kernel
theorem dX11_write_10 : decode cX11_write 10 = .ok (.ireturn, 1) := by decide +kernel
theorem dX11_write_11 : decode cX11_write 11 = .ok (.iload_n 2, 1) := by decide +kernel
theorem dX11_write_12 : decode cX11_write 12 = .ok (.i2l, 1) := by decide +kernel
theorem dX11_write_13 : decode cX11_write 13 = .ok (.lconst 1, 1) := by decide +kernel
theorem dX11_write_14 : decode cX11_write 14 = .ok (.ldc2_w 184, 3) := by decide +kernel
theorem dX11_write_17 : decode cX11_write 17 = .ok (.invokestatic 83, 3) := by decide +kernel
theorem dX11_write_20 : decode cX11_write 20 = .ok (.ifCond .ne 6, 3) := by decide +kernel
theorem dX11_write_23 : decode cX11_write 23 = .ok (.ldc 87, 2) := by decide +kernel
theorem dX11_write_25 : decode cX11_write 25 = .ok (.ireturn, 1) := by decide +kernel
theorem dX11_write_26 : decode cX11_write 26 = .ok (.aload_n 0, 1) := by decide +kernel
theorem dX11_write_27 : decode cX11_write 27 = .ok (.getfield 78, 3) := by decide +kernel
theorem dX11_write_30 : decode cX11_write 30 = .ok (.bipush 15, 2) := by decide +kernel
theorem dX11_write_32 : decode cX11_write 32 = .ok (.if_icmp .ne 6, 3) := by decide +kernel
theorem dX11_write_35 : decode cX11_write 35 = .ok (.ldc 91, 2) := by decide +kernel
theorem dX11_write_37 : decode cX11_write 37 = .ok (.ireturn, 1) := by decide +kernel
theorem dX11_write_38 : decode cX11_write 38 = .ok (.aload_n 0, 1) := by decide +kernel
theorem dX11_write_39 : decode cX11_write 39 = .ok (.getfield 42, 3) := by decide +kernel
theorem dX11_write_42 : decode cX11_write 42 = .ok (.iconst 2, 1) := by decide +kernel
theorem dX11_write_43 : decode cX11_write 43 = .ok (.aload_n 0, 1) := by decide +kernel
theorem dX11_write_44 : decode cX11_write 44 = .ok (.getfield 78, 3) := by decide +kernel
theorem dX11_write_47 : decode cX11_write 47 = .ok (.imul, 1) := by decide +kernel
theorem dX11_write_48 : decode cX11_write 48 = .ok (.iload_n 1, 1) := by decide +kernel
theorem dX11_write_49 : decode cX11_write 49 = .ok (.iastore, 1) := by decide +kernel
theorem dX11_write_50 : decode cX11_write 50 = .ok (.aload_n 0, 1) := by decide +kernel
theorem dX11_write_51 : decode cX11_write 51 = .ok (.getfield 42, 3) := by decide +kernel
theorem dX11_write_54 : decode cX11_write 54 = .ok (.iconst 2, 1) := by decide +kernel
theorem dX11_write_55 : decode cX11_write 55 = .ok (.aload_n 0, 1) := by decide +kernel
theorem dX11_write_56 : decode cX11_write 56 = .ok (.getfield 78, 3) := by decide +kernel
theorem dX11_write_59 : decode cX11_write 59 = .ok (.imul, 1) := by decide +kernel
theorem dX11_write_60 : decode cX11_write 60 = .ok (.iconst 1, 1) := by decide +kernel
theorem dX11_write_61 : decode cX11_write 61 = .ok (.iadd, 1) := by decide +kernel
theorem dX11_write_62 : decode cX11_write 62 = .ok (.iload_n 2, 1) := by decide +kernel
theorem dX11_write_63 : decode cX11_write 63 = .ok (.iastore, 1) := by decide +kernel
theorem dX11_write_64 : decode cX11_write 64 = .ok (.aload_n 0, 1) := by decide +kernel
theorem dX11_write_65 : decode cX11_write 65 = .ok (.dup, 1) := by decide +kernel
theorem dX11_write_66 : decode cX11_write 66 = .ok (.getfield 78, 3) := by decide +kernel
theorem dX11_write_69 : decode cX11_write 69 = .ok (.iconst 1, 1) := by decide +kernel
theorem dX11_write_70 : decode cX11_write 70 = .ok (.iadd, 1) := by decide +kernel
theorem dX11_write_71 : decode cX11_write 71 = .ok (.putfield 78, 3) := by decide +kernel
theorem dX11_write_74 : decode cX11_write 74 = .ok (.aload_n 0, 1) := by decide +kernel
theorem dX11_write_75 : decode cX11_write 75 = .ok (.getfield 78, 3) := by decide +kernel
theorem dX11_write_78 : decode cX11_write 78 = .ok (.ireturn, 1) := by decide +kernel
theorem dX11_tear_0 : decode cX11_tear 0 = .ok (.aload_n 0, 1) := by decide +kernel
theorem dX11_tear_1 : decode cX11_tear 1 = .ok (.getfield 75, 3) := by decide +kernel
theorem dX11_tear_4 : decode cX11_tear 4 = .ok (.aload_n 0, 1) := by decide +kernel
theorem dX11_tear_5 : decode cX11_tear 5 = .ok (.getfield 78, 3) := by decide +kernel
theorem dX11_tear_8 : decode cX11_tear 8 = .ok (.iadd, 1) := by decide +kernel
theorem dX11_tear_9 : decode cX11_tear 9 = .ok (.istore_n 1, 1) := by decide +kernel
theorem dX11_tear_10 : decode cX11_tear 10 = .ok (.aload_n 0, 1) := by decide +kernel
theorem dX11_tear_11 : decode cX11_tear 11 = .ok (.iconst 0, 1) := by decide +kernel
theorem dX11_tear_12 : decode cX11_tear 12 = .ok (.putfield 75, 3) := by decide +kernel
theorem dX11_tear_15 : decode cX11_tear 15 = .ok (.aload_n 0, 1) := by decide +kernel
theorem dX11_tear_16 : decode cX11_tear 16 = .ok (.iconst 0, 1) := by decide +kernel
theorem dX11_tear_17 : decode cX11_tear 17 = .ok (.putfield 78, 3) := by decide +kernel
theorem dX11_tear_20 : decode cX11_tear 20 = .ok (.iconst 0, 1) := by decide +kernel
theorem dX11_tear_21 : decode cX11_tear 21 = .ok (.istore_n 2, 1) := by decide +kernel
theorem dX11_tear_22 : decode cX11_tear 22 = .ok (.iload_n 2, 1) := by decide +kernel
theorem dX11_tear_23 : decode cX11_tear 23 = .ok (.bipush 9, 2) := by decide +kernel
theorem dX11_tear_25 : decode cX11_tear 25 = .ok (.if_icmp .ge 16, 3) := by decide +kernel
theorem dX11_tear_28 : decode cX11_tear 28 = .ok (.aload_n 0, 1) := by decide +kernel
theorem dX11_tear_29 : decode cX11_tear 29 = .ok (.getfield 36, 3) := by decide +kernel
theorem dX11_tear_32 : decode cX11_tear 32 = .ok (.iload_n 2, 1) := by decide +kernel
theorem dX11_tear_33 : decode cX11_tear 33 = .ok (.iconst 0, 1) := by decide +kernel
theorem dX11_tear_34 : decode cX11_tear 34 = .ok (.iastore, 1) := by decide +kernel
theorem dX11_tear_35 : decode cX11_tear 35 = .ok (.iinc 2 1, 3) := by decide +kernel
theorem dX11_tear_38 : decode cX11_tear 38 = .ok (.goto (-16), 3) := by decide +kernel
theorem dX11_tear_41 : decode cX11_tear 41 = .ok (.iload_n 1, 1) := by decide +kernel
theorem dX11_tear_42 : decode cX11_tear 42 = .ok (.ireturn, 1) := by decide +kernel
theorem dX11_judge_0 : decode cX11_judge 0 = .ok (.iconst 0, 1) := by decide +kernel
theorem dX11_judge_1 : decode cX11_judge 1 = .ok (.istore_n 1, 1) := by decide +kernel
theorem dX11_judge_2 : decode cX11_judge 2 = .ok (.iload_n 1, 1) := by decide +kernel
theorem dX11_judge_3 : decode cX11_judge 3 = .ok (.aload_n 0, 1) := by decide +kernel
theorem dX11_judge_4 : decode cX11_judge 4 = .ok (.getfield 78, 3) := by decide +kernel
theorem dX11_judge_7 : decode cX11_judge 7 = .ok (.if_icmp .ge 37, 3) := by decide +kernel
theorem dX11_judge_10 : decode cX11_judge 10 = .ok (.aload_n 0, 1) := by decide +kernel
theorem dX11_judge_11 : decode cX11_judge 11 = .ok (.getfield 16, 3) := by decide +kernel
theorem dX11_judge_14 : decode cX11_judge 14 = .ok (.aload_n 0, 1) := by decide +kernel
theorem dX11_judge_15 : decode cX11_judge 15 = .ok (.getfield 42, 3) := by decide +kernel
theorem dX11_judge_18 : decode cX11_judge 18 = .ok (.iconst 2, 1) := by decide +kernel
