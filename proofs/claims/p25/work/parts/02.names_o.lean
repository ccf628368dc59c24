set_option maxRecDepth 20000 in
theorem ggX11_want_X11_in : GoodIn wsX11_want wsX11_in := goodIn_r _ [14] rfl (by decide +kernel)
set_option maxRecDepth 20000 in
theorem gX11_want_X11_in : GoodIn wsX11_want (va_wsS RX11 83 yX11_in wsX11_in) := goodIn_app (goodIn_of _ (by decide +kernel)) ggX11_want_X11_in
set_option maxRecDepth 20000 in
theorem ggX11_want_X11_wantedSet : GoodIn wsX11_want wsX11_wantedSet := goodIn_r _ [18, 5, 22, 23, 24, 25, 26, 27, 28, 29, 30, 31, 32, 33, 34, 35, 36, 37, 38, 39, 40, 41, 42, 43, 44, 45, 46, 47, 48, 49, 50, 51, 52, 53] rfl (by decide +kernel)
set_option maxRecDepth 20000 in
theorem gX11_want_X11_wantedSet : GoodIn wsX11_want (wsV RX11 167 RX11 yX11_wantedSet wsX11_wantedSet) := goodIn_app (goodIn_of _ (by decide +kernel)) ggX11_want_X11_wantedSet
set_option maxRecDepth 20000 in
theorem ggX11_want_X11_bits : GoodIn wsX11_want wsX11_bits := goodIn_r _ [21] rfl (by decide +kernel)
set_option maxRecDepth 20000 in
theorem gX11_want_X11_bits : GoodIn wsX11_want (va_wsS RX11 255 yX11_bits wsX11_bits) := goodIn_app (goodIn_of _ (by decide +kernel)) ggX11_want_X11_bits
theorem dX11_want_0 : decode cX11_want 0 = .ok (.aload_n 0, 1) := by decide +kernel
theorem dX11_want_1 : decode cX11_want 1 = .ok (.iload_n 1, 1) := by decide +kernel
theorem dX11_want_2 : decode cX11_want 2 = .ok (.invokevirtual 170, 3) := by decide +kernel
theorem dX11_want_5 : decode cX11_want 5 = .ok (.ifCond .ne 6, 3) := by decide +kernel
theorem dX11_want_8 : decode cX11_want 8 = .ok (.ldc 173, 2) := by decide +kernel
theorem dX11_want_10 : decode cX11_want 10 = .ok (.ireturn, 1) := by decide +kernel
theorem dX11_want_11 : decode cX11_want 11 = .ok (.iload_n 2, 1) := by decide +kernel
theorem dX11_want_12 : decode cX11_want 12 = .ok (.i2l, 1) := by decide +kernel
theorem dX11_want_13 : decode cX11_want 13 = .ok (.lconst 0, 1) := by decide +kernel
theorem dX11_want_14 : decode cX11_want 14 = .ok (.ldc2_w 184, 3) := by decide +kernel
theorem dX11_want_17 : decode cX11_want 17 = .ok (.invokestatic 83, 3) := by decide +kernel
theorem dX11_want_20 : decode cX11_want 20 = .ok (.ifCond .ne 6, 3) := by decide +kernel
theorem dX11_want_23 : decode cX11_want 23 = .ok (.ldc 87, 2) := by decide +kernel
theorem dX11_want_25 : decode cX11_want 25 = .ok (.ireturn, 1) := by decide +kernel
theorem dX11_want_26 : decode cX11_want 26 = .ok (.iload_n 2, 1) := by decide +kernel
theorem dX11_want_27 : decode cX11_want 27 = .ok (.ifCond .le 23, 3) := by decide +kernel
theorem dX11_want_30 : decode cX11_want 30 = .ok (.aload_n 0, 1) := by decide +kernel
theorem dX11_want_31 : decode cX11_want 31 = .ok (.invokevirtual 167, 3) := by decide +kernel
theorem dX11_want_34 : decode cX11_want 34 = .ok (.iconst 1, 1) := by decide +kernel
theorem dX11_want_35 : decode cX11_want 35 = .ok (.iload_n 1, 1) := by decide +kernel
theorem dX11_want_36 : decode cX11_want 36 = .ok (.ishl, 1) := by decide +kernel
theorem dX11_want_37 : decode cX11_want 37 = .ok (.iconst (-1), 1) := by decide +kernel
theorem dX11_want_38 : decode cX11_want 38 = .ok (.ixor, 1) := by decide +kernel
theorem dX11_want_39 : decode cX11_want 39 = .ok (.iand, 1) := by decide +kernel
theorem dX11_want_40 : decode cX11_want 40 = .ok (.invokestatic 255, 3) := by decide +kernel
theorem dX11_want_43 : decode cX11_want 43 = .ok (.iconst 5, 1) := by decide +kernel
theorem dX11_want_44 : decode cX11_want 44 = .ok (.if_icmp .ne 6, 3) := by decide +kernel
theorem dX11_want_47 : decode cX11_want 47 = .ok (.ldc 91, 2) := by decide +kernel
theorem dX11_want_49 : decode cX11_want 49 = .ok (.ireturn, 1) := by decide +kernel
theorem dX11_want_50 : decode cX11_want 50 = .ok (.aload_n 0, 1) := by decide +kernel
theorem dX11_want_51 : decode cX11_want 51 = .ok (.getfield 36, 3) := by decide +kernel
theorem dX11_want_54 : decode cX11_want 54 = .ok (.iload_n 1, 1) := by decide +kernel
theorem dX11_want_55 : decode cX11_want 55 = .ok (.iload_n 2, 1) := by decide +kernel
theorem dX11_want_56 : decode cX11_want 56 = .ok (.iastore, 1) := by decide +kernel
theorem dX11_want_57 : decode cX11_want 57 = .ok (.aload_n 0, 1) := by decide +kernel
theorem dX11_want_58 : decode cX11_want 58 = .ok (.invokevirtual 167, 3) := by decide +kernel
theorem dX11_want_61 : decode cX11_want 61 = .ok (.invokestatic 255, 3) := by decide +kernel
theorem dX11_want_64 : decode cX11_want 64 = .ok (.ireturn, 1) := by decide +kernel
set_option maxRecDepth 20000 in
theorem ggX11_dawnsWell_X11_holding : GoodIn wsX11_dawnsWell wsX11_holding := goodIn_r _ [11, 12, 13, 14, 15, 10, 16, 17, 18, 19, 20, 21, 22, 23, 24, 25, 26, 27, 28, 29, 30, 31, 32, 33, 34, 35, 36, 37, 38, 39, 40, 41, 42, 43, 44, 45, 46, 47, 48, 49, 50, 51, 52, 53, 54, 55] rfl (by decide +kernel)
set_option maxRecDepth 20000 in
theorem gX11_dawnsWell_X11_holding : GoodIn wsX11_dawnsWell (wsV RX11 163 RX11 yX11_holding wsX11_holding) := goodIn_app (goodIn_of _ (by decide +kernel)) ggX11_dawnsWell_X11_holding
theorem dX11_dawnsWell_0 : decode cX11_dawnsWell 0 = .ok (.iload_n 1, 1) := by decide +kernel
theorem dX11_dawnsWell_1 : decode cX11_dawnsWell 1 = .ok (.istore_n 2, 1) := by decide +kernel
theorem dX11_dawnsWell_2 : decode cX11_dawnsWell 2 = .ok (.iconst 0, 1) := by decide +kernel
theorem dX11_dawnsWell_3 : decode cX11_dawnsWell 3 = .ok (.istore_n 3, 1) := by decide +kernel
theorem dX11_dawnsWell_4 : decode cX11_dawnsWell 4 = .ok (.aload_n 0, 1) := by decide +kernel
theorem dX11_dawnsWell_5 : decode cX11_dawnsWell 5 = .ok (.getfield 258, 3) := by decide +kernel
theorem dX11_dawnsWell_8 : decode cX11_dawnsWell 8 = .ok (.iconst 1, 1) := by decide +kernel
theorem dX11_dawnsWell_9 : decode cX11_dawnsWell 9 = .ok (.isub, 1) := by decide +kernel
theorem dX11_dawnsWell_10 : decode cX11_dawnsWell 10 = .ok (.istore 4, 2) := by decide +kernel
theorem dX11_dawnsWell_12 : decode cX11_dawnsWell 12 = .ok (.iload 4, 2) := by decide +kernel
theorem dX11_dawnsWell_14 : decode cX11_dawnsWell 14 = .ok (.ifCond .lt 35, 3) := by decide +kernel
theorem dX11_dawnsWell_17 : decode cX11_dawnsWell 17 = .ok (.aload_n 0, 1) := by decide +kernel
theorem dX11_dawnsWell_18 : decode cX11_dawnsWell 18 = .ok (.getfield 66, 3) := by decide +kernel
theorem dX11_dawnsWell_21 : decode cX11_dawnsWell 21 = .ok (.iload 4, 2) := by decide +kernel
theorem dX11_dawnsWell_23 : decode cX11_dawnsWell 23 = .ok (.iload_n 2, 1) := by decide +kernel
theorem dX11_dawnsWell_24 : decode cX11_dawnsWell 24 = .ok (.iconst 5, 1) := by decide +kernel
theorem dX11_dawnsWell_25 : decode cX11_dawnsWell 25 = .ok (.irem, 1) := by decide +kernel
theorem dX11_dawnsWell_26 : decode cX11_dawnsWell 26 = .ok (.iastore, 1) := by decide +kernel
theorem dX11_dawnsWell_27 : decode cX11_dawnsWell 27 = .ok (.iload_n 2, 1) := by decide +kernel
theorem dX11_dawnsWell_28 : decode cX11_dawnsWell 28 = .ok (.iconst 5, 1) := by decide +kernel
theorem dX11_dawnsWell_29 : decode cX11_dawnsWell 29 = .ok (.idiv, 1) := by decide +kernel
theorem dX11_dawnsWell_30 : decode cX11_dawnsWell 30 = .ok (.istore_n 2, 1) := by decide +kernel
theorem dX11_dawnsWell_31 : decode cX11_dawnsWell 31 = .ok (.iload_n 3, 1) := by decide +kernel
theorem dX11_dawnsWell_32 : decode cX11_dawnsWell 32 = .ok (.iconst 1, 1) := by decide +kernel
theorem dX11_dawnsWell_33 : decode cX11_dawnsWell 33 = .ok (.aload_n 0, 1) := by decide +kernel
theorem dX11_dawnsWell_34 : decode cX11_dawnsWell 34 = .ok (.getfield 66, 3) := by decide +kernel
theorem dX11_dawnsWell_37 : decode cX11_dawnsWell 37 = .ok (.iload 4, 2) := by decide +kernel
theorem dX11_dawnsWell_39 : decode cX11_dawnsWell 39 = .ok (.iaload, 1) := by decide +kernel
theorem dX11_dawnsWell_40 : decode cX11_dawnsWell 40 = .ok (.ishl, 1) := by decide +kernel
theorem dX11_dawnsWell_41 : decode cX11_dawnsWell 41 = .ok (.ior, 1) := by decide +kernel
theorem dX11_dawnsWell_42 : decode cX11_dawnsWell 42 = .ok (.istore_n 3, 1) := by decide +kernel
theorem dX11_dawnsWell_43 : decode cX11_dawnsWell 43 = .ok (.iinc 4 (-1), 3) := by decide +kernel
theorem dX11_dawnsWell_46 : decode cX11_dawnsWell 46 = .ok (.goto (-34), 3) := by decide +kernel
theorem dX11_dawnsWell_49 : decode cX11_dawnsWell 49 = .ok (.iload_n 3, 1) := by decide +kernel
theorem dX11_dawnsWell_50 : decode cX11_dawnsWell 50 = .ok (.iconst 1, 1) := by decide +kernel
theorem dX11_dawnsWell_51 : decode cX11_dawnsWell 51 = .ok (.aload_n 0, 1) := by decide +kernel
theorem dX11_dawnsWell_52 : decode cX11_dawnsWell 52 = .ok (.getfield 258, 3) := by decide +kernel
theorem dX11_dawnsWell_55 : decode cX11_dawnsWell 55 = .ok (.ishl, 1) := by decide +kernel
theorem dX11_dawnsWell_56 : decode cX11_dawnsWell 56 = .ok (.iconst 1, 1) := by decide +kernel
theorem dX11_dawnsWell_57 : decode cX11_dawnsWell 57 = .ok (.isub, 1) := by decide +kernel
theorem dX11_dawnsWell_58 : decode cX11_dawnsWell 58 = .ok (.if_icmp .eq 5, 3) := by decide +kernel
theorem dX11_dawnsWell_61 : decode cX11_dawnsWell 61 = .ok (.iconst 0, 1) := by decide +kernel
theorem dX11_dawnsWell_62 : decode cX11_dawnsWell 62 = .ok (.ireturn, 1) := by decide +kernel
theorem dX11_dawnsWell_63 : decode cX11_dawnsWell 63 = .ok (.aload_n 0, 1) := by decide +kernel
theorem dX11_dawnsWell_64 : decode cX11_dawnsWell 64 = .ok (.aload_n 0, 1) := by decide +kernel
theorem dX11_dawnsWell_65 : decode cX11_dawnsWell 65 = .ok (.getfield 16, 3) := by decide +kernel
theorem dX11_dawnsWell_68 : decode cX11_dawnsWell 68 = .ok (.invokevirtual 163, 3) := by decide +kernel
theorem dX11_dawnsWell_71 : decode cX11_dawnsWell 71 = .ok (.istore 4, 2) := by decide +kernel
theorem dX11_dawnsWell_73 : decode cX11_dawnsWell 73 = .ok (.iconst 1, 1) := by decide +kernel
theorem dX11_dawnsWell_74 : decode cX11_dawnsWell 74 = .ok (.istore 5, 2) := by decide +kernel
theorem dX11_dawnsWell_76 : decode cX11_dawnsWell 76 = .ok (.iconst 0, 1) := by decide +kernel
theorem dX11_dawnsWell_77 : decode cX11_dawnsWell 77 = .ok (.istore 6, 2) := by decide +kernel
theorem dX11_dawnsWell_79 : decode cX11_dawnsWell 79 = .ok (.iload 6, 2) := by decide +kernel
theorem dX11_dawnsWell_81 : decode cX11_dawnsWell 81 = .ok (.bipush 9, 2) := by decide +kernel
theorem dX11_dawnsWell_83 : decode cX11_dawnsWell 83 = .ok (.if_icmp .ge 23, 3) := by decide +kernel
theorem dX11_dawnsWell_86 : decode cX11_dawnsWell 86 = .ok (.aload_n 0, 1) := by decide +kernel
theorem dX11_dawnsWell_87 : decode cX11_dawnsWell 87 = .ok (.getfield 54, 3) := by decide +kernel
theorem dX11_dawnsWell_90 : decode cX11_dawnsWell 90 = .ok (.iload 6, 2) := by decide +kernel
theorem dX11_dawnsWell_92 : decode cX11_dawnsWell 92 = .ok (.aload_n 0, 1) := by decide +kernel
theorem dX11_dawnsWell_93 : decode cX11_dawnsWell 93 = .ok (.getfield 16, 3) := by decide +kernel
theorem dX11_dawnsWell_96 : decode cX11_dawnsWell 96 = .ok (.iload 6, 2) := by decide +kernel
theorem dX11_dawnsWell_98 : decode cX11_dawnsWell 98 = .ok (.iaload, 1) := by decide +kernel
theorem dX11_dawnsWell_99 : decode cX11_dawnsWell 99 = .ok (.iastore, 1) := by decide +kernel
theorem dX11_dawnsWell_100 : decode cX11_dawnsWell 100 = .ok (.iinc 6 1, 3) := by decide +kernel
theorem dX11_dawnsWell_103 : decode cX11_dawnsWell 103 = .ok (.goto (-24), 3) := by decide +kernel
theorem dX11_dawnsWell_106 : decode cX11_dawnsWell 106 = .ok (.iconst 0, 1) := by decide +kernel
theorem dX11_dawnsWell_107 : decode cX11_dawnsWell 107 = .ok (.istore 6, 2) := by decide +kernel
theorem dX11_dawnsWell_109 : decode cX11_dawnsWell 109 = .ok (.iload 6, 2) := by decide +kernel
theorem dX11_dawnsWell_111 : decode cX11_dawnsWell 111 = .ok (.aload_n 0, 1) := by decide +kernel
theorem dX11_dawnsWell_112 : decode cX11_dawnsWell 112 = .ok (.getfield 258, 3) := by decide +kernel
theorem dX11_dawnsWell_115 : decode cX11_dawnsWell 115 = .ok (.if_icmp .ge 65, 3) := by decide +kernel
theorem dX11_dawnsWell_118 : decode cX11_dawnsWell 118 = .ok (.aload_n 0, 1) := by decide +kernel
theorem dX11_dawnsWell_119 : decode cX11_dawnsWell 119 = .ok (.getfield 63, 3) := by decide +kernel
theorem dX11_dawnsWell_122 : decode cX11_dawnsWell 122 = .ok (.aload_n 0, 1) := by decide +kernel
theorem dX11_dawnsWell_123 : decode cX11_dawnsWell 123 = .ok (.getfield 66, 3) := by decide +kernel
theorem dX11_dawnsWell_126 : decode cX11_dawnsWell 126 = .ok (.iload 6, 2) := by decide +kernel
theorem dX11_dawnsWell_128 : decode cX11_dawnsWell 128 = .ok (.iaload, 1) := by decide +kernel
theorem dX11_dawnsWell_129 : decode cX11_dawnsWell 129 = .ok (.iaload, 1) := by decide +kernel
theorem dX11_dawnsWell_130 : decode cX11_dawnsWell 130 = .ok (.istore 7, 2) := by decide +kernel
theorem dX11_dawnsWell_132 : decode cX11_dawnsWell 132 = .ok (.aload_n 0, 1) := by decide +kernel
theorem dX11_dawnsWell_133 : decode cX11_dawnsWell 133 = .ok (.getfield 54, 3) := by decide +kernel
theorem dX11_dawnsWell_136 : decode cX11_dawnsWell 136 = .ok (.iload 7, 2) := by decide +kernel
theorem dX11_dawnsWell_138 : decode cX11_dawnsWell 138 = .ok (.aload_n 0, 1) := by decide +kernel
theorem dX11_dawnsWell_139 : decode cX11_dawnsWell 139 = .ok (.getfield 36, 3) := by decide +kernel
theorem dX11_dawnsWell_142 : decode cX11_dawnsWell 142 = .ok (.iload 7, 2) := by decide +kernel
theorem dX11_dawnsWell_144 : decode cX11_dawnsWell 144 = .ok (.iaload, 1) := by decide +kernel
theorem dX11_dawnsWell_145 : decode cX11_dawnsWell 145 = .ok (.iastore, 1) := by decide +kernel
theorem dX11_dawnsWell_146 : decode cX11_dawnsWell 146 = .ok (.iload 5, 2) := by decide +kernel
theorem dX11_dawnsWell_148 : decode cX11_dawnsWell 148 = .ok (.ifCond .eq 23, 3) := by decide +kernel
theorem dX11_dawnsWell_151 : decode cX11_dawnsWell 151 = .ok (.iload 4, 2) := by decide +kernel
theorem dX11_dawnsWell_153 : decode cX11_dawnsWell 153 = .ok (.aload_n 0, 1) := by decide +kernel
theorem dX11_dawnsWell_154 : decode cX11_dawnsWell 154 = .ok (.aload_n 0, 1) := by decide +kernel
theorem dX11_dawnsWell_155 : decode cX11_dawnsWell 155 = .ok (.getfield 54, 3) := by decide +kernel
theorem dX11_dawnsWell_158 : decode cX11_dawnsWell 158 = .ok (.invokevirtual 163, 3) := by decide +kernel
theorem dX11_dawnsWell_161 : decode cX11_dawnsWell 161 = .ok (.iconst (-1), 1) := by decide +kernel
theorem dX11_dawnsWell_162 : decode cX11_dawnsWell 162 = .ok (.ixor, 1) := by decide +kernel
theorem dX11_dawnsWell_163 : decode cX11_dawnsWell 163 = .ok (.iand, 1) := by decide +kernel
theorem dX11_dawnsWell_164 : decode cX11_dawnsWell 164 = .ok (.ifCond .ne 7, 3) := by decide +kernel
theorem dX11_dawnsWell_167 : decode cX11_dawnsWell 167 = .ok (.iconst 1, 1) := by decide +kernel
theorem dX11_dawnsWell_168 : decode cX11_dawnsWell 168 = .ok (.goto 4, 3) := by decide +kernel
theorem dX11_dawnsWell_171 : decode cX11_dawnsWell 171 = .ok (.iconst 0, 1) := by decide +kernel
theorem dX11_dawnsWell_172 : decode cX11_dawnsWell 172 = .ok (.istore 5, 2) := by decide +kernel
theorem dX11_dawnsWell_174 : decode cX11_dawnsWell 174 = .ok (.iinc 6 1, 3) := by decide +kernel
theorem dX11_dawnsWell_177 : decode cX11_dawnsWell 177 = .ok (.goto (-68), 3) := by decide +kernel
theorem dX11_dawnsWell_180 : decode cX11_dawnsWell 180 = .ok (.iload 5, 2) := by decide +kernel
theorem dX11_dawnsWell_182 : decode cX11_dawnsWell 182 = .ok (.ireturn, 1) := by decide +kernel
set_option maxRecDepth 20000 in
theorem ggX11_dawns_X11_dawnsWell : GoodIn wsX11_dawns wsX11_dawnsWell := goodIn_r _ [11, 1, 6, 4, 12, 5, 3, 13, 14, 15, 10, 16, 2, 17, 18, 19, 20, 21, 22, 23, 24, 25, 26, 27, 31, 32, 33, 34, 35, 36, 37, 38, 39, 40, 41, 42, 43, 44, 45, 46, 47, 48, 49, 50, 51, 52, 53, 54, 55, 56, 57, 58, 59, 60, 61, 62] rfl (by decide +kernel)
set_option maxRecDepth 20000 in
theorem gX11_dawns_X11_dawnsWell : GoodIn wsX11_dawns (wsV RX11 261 RX11 yX11_dawnsWell wsX11_dawnsWell) := goodIn_app (goodIn_of _ (by decide +kernel)) ggX11_dawns_X11_dawnsWell
set_option maxRecDepth 20000 in
theorem ggX11_dawns_X11_in : GoodIn wsX11_dawns wsX11_in := goodIn_r _ [30] rfl (by decide +kernel)
set_option maxRecDepth 20000 in
theorem gX11_dawns_X11_in : GoodIn wsX11_dawns (va_wsS RX11 83 yX11_in wsX11_in) := goodIn_app (goodIn_of _ (by decide +kernel)) ggX11_dawns_X11_in
theorem dX11_dawns_0 : decode cX11_dawns 0 = .ok (.aload_n 0, 1) := by decide +kernel
theorem dX11_dawns_1 : decode cX11_dawns 1 = .ok (.iconst 0, 1) := by decide +kernel
theorem dX11_dawns_2 : decode cX11_dawns 2 = .ok (.putfield 258, 3) := by decide +kernel
theorem dX11_dawns_5 : decode cX11_dawns 5 = .ok (.iconst 1, 1) := by decide +kernel
theorem dX11_dawns_6 : decode cX11_dawns 6 = .ok (.istore_n 2, 1) := by decide +kernel
theorem dX11_dawns_7 : decode cX11_dawns 7 = .ok (.iconst 0, 1) := by decide +kernel
theorem dX11_dawns_8 : decode cX11_dawns 8 = .ok (.istore_n 3, 1) := by decide +kernel
theorem dX11_dawns_9 : decode cX11_dawns 9 = .ok (.iload_n 3, 1) := by decide +kernel
theorem dX11_dawns_10 : decode cX11_dawns 10 = .ok (.aload_n 0, 1) := by decide +kernel
theorem dX11_dawns_11 : decode cX11_dawns 11 = .ok (.getfield 7, 3) := by decide +kernel
theorem dX11_dawns_14 : decode cX11_dawns 14 = .ok (.iconst 3, 1) := by decide +kernel
theorem dX11_dawns_15 : decode cX11_dawns 15 = .ok (.iaload, 1) := by decide +kernel
theorem dX11_dawns_16 : decode cX11_dawns 16 = .ok (.if_icmp .ge 57, 3) := by decide +kernel
theorem dX11_dawns_19 : decode cX11_dawns 19 = .ok (.aload_n 0, 1) := by decide +kernel
theorem dX11_dawns_20 : decode cX11_dawns 20 = .ok (.getfield 36, 3) := by decide +kernel
theorem dX11_dawns_23 : decode cX11_dawns 23 = .ok (.iload_n 3, 1) := by decide +kernel
theorem dX11_dawns_24 : decode cX11_dawns 24 = .ok (.iaload, 1) := by decide +kernel
theorem dX11_dawns_25 : decode cX11_dawns 25 = .ok (.ifCond .le 42, 3) := by decide +kernel
theorem dX11_dawns_28 : decode cX11_dawns 28 = .ok (.aload_n 0, 1) := by decide +kernel
theorem dX11_dawns_29 : decode cX11_dawns 29 = .ok (.getfield 36, 3) := by decide +kernel
theorem dX11_dawns_32 : decode cX11_dawns 32 = .ok (.iload_n 3, 1) := by decide +kernel
theorem dX11_dawns_33 : decode cX11_dawns 33 = .ok (.iaload, 1) := by decide +kernel
theorem dX11_dawns_34 : decode cX11_dawns 34 = .ok (.aload_n 0, 1) := by decide +kernel
theorem dX11_dawns_35 : decode cX11_dawns 35 = .ok (.getfield 16, 3) := by decide +kernel
theorem dX11_dawns_38 : decode cX11_dawns 38 = .ok (.iload_n 3, 1) := by decide +kernel
theorem dX11_dawns_39 : decode cX11_dawns 39 = .ok (.iaload, 1) := by decide +kernel
theorem dX11_dawns_40 : decode cX11_dawns 40 = .ok (.if_icmp .eq 27, 3) := by decide +kernel
theorem dX11_dawns_43 : decode cX11_dawns 43 = .ok (.aload_n 0, 1) := by decide +kernel
theorem dX11_dawns_44 : decode cX11_dawns 44 = .ok (.getfield 63, 3) := by decide +kernel
theorem dX11_dawns_47 : decode cX11_dawns 47 = .ok (.aload_n 0, 1) := by decide +kernel
theorem dX11_dawns_48 : decode cX11_dawns 48 = .ok (.getfield 258, 3) := by decide +kernel
theorem dX11_dawns_51 : decode cX11_dawns 51 = .ok (.iload_n 3, 1) := by decide +kernel
theorem dX11_dawns_52 : decode cX11_dawns 52 = .ok (.iastore, 1) := by decide +kernel
theorem dX11_dawns_53 : decode cX11_dawns 53 = .ok (.aload_n 0, 1) := by decide +kernel
theorem dX11_dawns_54 : decode cX11_dawns 54 = .ok (.dup, 1) := by decide +kernel
theorem dX11_dawns_55 : decode cX11_dawns 55 = .ok (.getfield 258, 3) := by decide +kernel
theorem dX11_dawns_58 : decode cX11_dawns 58 = .ok (.iconst 1, 1) := by decide +kernel
theorem dX11_dawns_59 : decode cX11_dawns 59 = .ok (.iadd, 1) := by decide +kernel
theorem dX11_dawns_60 : decode cX11_dawns 60 = .ok (.putfield 258, 3) := by decide +kernel
theorem dX11_dawns_63 : decode cX11_dawns 63 = .ok (.iload_n 2, 1) := by decide +kernel
theorem dX11_dawns_64 : decode cX11_dawns 64 = .ok (.iconst 5, 1) := by decide +kernel
theorem dX11_dawns_65 : decode cX11_dawns 65 = .ok (.imul, 1) := by decide +kernel
theorem dX11_dawns_66 : decode cX11_dawns 66 = .ok (.istore_n 2, 1) := by decide +kernel
theorem dX11_dawns_67 : decode cX11_dawns 67 = .ok (.iinc 3 1, 3) := by decide +kernel
theorem dX11_dawns_70 : decode cX11_dawns 70 = .ok (.goto (-61), 3) := by decide +kernel
theorem dX11_dawns_73 : decode cX11_dawns 73 = .ok (.iconst 0, 1) := by decide +kernel
theorem dX11_dawns_74 : decode cX11_dawns 74 = .ok (.istore_n 3, 1) := by decide +kernel
theorem dX11_dawns_75 : decode cX11_dawns 75 = .ok (.iload_n 3, 1) := by decide +kernel
theorem dX11_dawns_76 : decode cX11_dawns 76 = .ok (.iload_n 2, 1) := by decide +kernel
theorem dX11_dawns_77 : decode cX11_dawns 77 = .ok (.if_icmp .ge 61, 3) := by decide +kernel
theorem dX11_dawns_80 : decode cX11_dawns 80 = .ok (.aload_n 0, 1) := by decide +kernel
theorem dX11_dawns_81 : decode cX11_dawns 81 = .ok (.iload_n 3, 1) := by decide +kernel
theorem dX11_dawns_82 : decode cX11_dawns 82 = .ok (.invokevirtual 261, 3) := by decide +kernel
theorem dX11_dawns_85 : decode cX11_dawns 85 = .ok (.ifCond .eq 47, 3) := by decide +kernel
theorem dX11_dawns_88 : decode cX11_dawns 88 = .ok (.iload_n 1, 1) := by decide +kernel
theorem dX11_dawns_89 : decode cX11_dawns 89 = .ok (.iconst (-1), 1) := by decide +kernel
theorem dX11_dawns_90 : decode cX11_dawns 90 = .ok (.if_icmp .ne 10, 3) := by decide +kernel
theorem dX11_dawns_93 : decode cX11_dawns 93 = .ok (.aload_n 0, 1) := by decide +kernel
theorem dX11_dawns_94 : decode cX11_dawns 94 = .ok (.getfield 258, 3) := by decide +kernel
theorem dX11_dawns_97 : decode cX11_dawns 97 = .ok (.goto 34, 3) := by decide +kernel
theorem dX11_dawns_100 : decode cX11_dawns 100 = .ok (.iload_n 1, 1) := by decide +kernel
theorem dX11_dawns_101 : decode cX11_dawns 101 = .ok (.i2l, 1) := by decide +kernel
theorem dX11_dawns_102 : decode cX11_dawns 102 = .ok (.lconst 0, 1) := by decide +kernel
theorem dX11_dawns_103 : decode cX11_dawns 103 = .ok (.aload_n 0, 1) := by decide +kernel
theorem dX11_dawns_104 : decode cX11_dawns 104 = .ok (.getfield 258, 3) := by decide +kernel
theorem dX11_dawns_107 : decode cX11_dawns 107 = .ok (.iconst 1, 1) := by decide +kernel
theorem dX11_dawns_108 : decode cX11_dawns 108 = .ok (.isub, 1) := by decide +kernel
theorem dX11_dawns_109 : decode cX11_dawns 109 = .ok (.i2l, 1) := by decide +kernel
theorem dX11_dawns_110 : decode cX11_dawns 110 = .ok (.invokestatic 83, 3) := by decide +kernel
theorem dX11_dawns_113 : decode cX11_dawns 113 = .ok (.ifCond .eq 17, 3) := by decide +kernel
theorem dX11_dawns_116 : decode cX11_dawns 116 = .ok (.aload_n 0, 1) := by decide +kernel
theorem dX11_dawns_117 : decode cX11_dawns 117 = .ok (.getfield 63, 3) := by decide +kernel
theorem dX11_dawns_120 : decode cX11_dawns 120 = .ok (.aload_n 0, 1) := by decide +kernel
theorem dX11_dawns_121 : decode cX11_dawns 121 = .ok (.getfield 66, 3) := by decide +kernel
theorem dX11_dawns_124 : decode cX11_dawns 124 = .ok (.iload_n 1, 1) := by decide +kernel
theorem dX11_dawns_125 : decode cX11_dawns 125 = .ok (.iaload, 1) := by decide +kernel
theorem dX11_dawns_126 : decode cX11_dawns 126 = .ok (.iaload, 1) := by decide +kernel
theorem dX11_dawns_127 : decode cX11_dawns 127 = .ok (.goto 4, 3) := by decide +kernel
theorem dX11_dawns_130 : decode cX11_dawns 130 = .ok (.iconst (-1), 1) := by decide +kernel
theorem dX11_dawns_131 : decode cX11_dawns 131 = .ok (.ireturn, 1) := by decide +kernel
theorem dX11_dawns_132 : decode cX11_dawns 132 = .ok (.iinc 3 1, 3) := by decide +kernel
theorem dX11_dawns_135 : decode cX11_dawns 135 = .ok (.goto (-60), 3) := by decide +kernel
theorem dX11_dawns_138 : decode cX11_dawns 138 = .ok (.iconst (-1), 1) := by decide +kernel
theorem dX11_dawns_139 : decode cX11_dawns 139 = .ok (.ireturn, 1) := by decide +kernel
set_option maxRecDepth 20000 in
theorem ggX11_roundOf_X11_has : GoodIn wsX11_roundOf wsX11_has := goodIn_r _ [5] rfl (by decide +kernel)
set_option maxRecDepth 20000 in
theorem gX11_roundOf_X11_has : GoodIn wsX11_roundOf (va_wsS RX11 148 yX11_has wsX11_has) := goodIn_app (goodIn_of _ (by decide +kernel)) ggX11_roundOf_X11_has
set_option maxRecDepth 20000 in
theorem ggX11_roundOf_X11_otherEnd : GoodIn wsX11_roundOf wsX11_otherEnd := goodIn_r _ [9, 1, 10, 11, 12, 13, 14, 15, 16, 17, 18, 19, 20, 21, 22, 23, 24, 25, 26, 27, 28, 29, 30, 31, 32, 33, 34, 35, 36, 37, 38, 39, 40, 41] rfl (by decide +kernel)
set_option maxRecDepth 20000 in
theorem gX11_roundOf_X11_otherEnd : GoodIn wsX11_roundOf (wsV RX11 238 RX11 yX11_otherEnd wsX11_otherEnd) := goodIn_app (goodIn_of _ (by decide +kernel)) ggX11_roundOf_X11_otherEnd
theorem dX11_roundOf_0 : decode cX11_roundOf 0 = .ok (.iconst 0, 1) := by decide +kernel
theorem dX11_roundOf_1 : decode cX11_roundOf 1 = .ok (.istore_n 2, 1) := by decide +kernel
theorem dX11_roundOf_2 : decode cX11_roundOf 2 = .ok (.iconst (-1), 1) := by decide +kernel
theorem dX11_roundOf_3 : decode cX11_roundOf 3 = .ok (.istore_n 3, 1) := by decide +kernel
theorem dX11_roundOf_4 : decode cX11_roundOf 4 = .ok (.iload_n 1, 1) := by decide +kernel
theorem dX11_roundOf_5 : decode cX11_roundOf 5 = .ok (.ifCond .eq 7, 3) := by decide +kernel
theorem dX11_roundOf_8 : decode cX11_roundOf 8 = .ok (.iconst 1, 1) := by decide +kernel
theorem dX11_roundOf_9 : decode cX11_roundOf 9 = .ok (.goto 4, 3) := by decide +kernel
theorem dX11_roundOf_12 : decode cX11_roundOf 12 = .ok (.iconst 0, 1) := by decide +kernel
theorem dX11_roundOf_13 : decode cX11_roundOf 13 = .ok (.istore 4, 2) := by decide +kernel
theorem dX11_roundOf_15 : decode cX11_roundOf 15 = .ok (.iconst 0, 1) := by decide +kernel
theorem dX11_roundOf_16 : decode cX11_roundOf 16 = .ok (.istore 5, 2) := by decide +kernel
theorem dX11_roundOf_18 : decode cX11_roundOf 18 = .ok (.iload 5, 2) := by decide +kernel
theorem dX11_roundOf_20 : decode cX11_roundOf 20 = .ok (.aload_n 0, 1) := by decide +kernel
theorem dX11_roundOf_21 : decode cX11_roundOf 21 = .ok (.getfield 7, 3) := by decide +kernel
theorem dX11_roundOf_24 : decode cX11_roundOf 24 = .ok (.iconst 0, 1) := by decide +kernel
theorem dX11_roundOf_25 : decode cX11_roundOf 25 = .ok (.iaload, 1) := by decide +kernel
theorem dX11_roundOf_26 : decode cX11_roundOf 26 = .ok (.if_icmp .ge 118, 3) := by decide +kernel
theorem dX11_roundOf_29 : decode cX11_roundOf 29 = .ok (.iconst 0, 1) := by decide +kernel
theorem dX11_roundOf_30 : decode cX11_roundOf 30 = .ok (.istore 6, 2) := by decide +kernel
theorem dX11_roundOf_32 : decode cX11_roundOf 32 = .ok (.iconst 0, 1) := by decide +kernel
theorem dX11_roundOf_33 : decode cX11_roundOf 33 = .ok (.istore 7, 2) := by decide +kernel
theorem dX11_roundOf_35 : decode cX11_roundOf 35 = .ok (.iload 7, 2) := by decide +kernel
theorem dX11_roundOf_37 : decode cX11_roundOf 37 = .ok (.aload_n 0, 1) := by decide +kernel
theorem dX11_roundOf_38 : decode cX11_roundOf 38 = .ok (.getfield 7, 3) := by decide +kernel
theorem dX11_roundOf_41 : decode cX11_roundOf 41 = .ok (.iconst 3, 1) := by decide +kernel
theorem dX11_roundOf_42 : decode cX11_roundOf 42 = .ok (.iaload, 1) := by decide +kernel
theorem dX11_roundOf_43 : decode cX11_roundOf 43 = .ok (.if_icmp .ge 39, 3) := by decide +kernel
theorem dX11_roundOf_46 : decode cX11_roundOf 46 = .ok (.iload 6, 2) := by decide +kernel
theorem dX11_roundOf_48 : decode cX11_roundOf 48 = .ok (.iload_n 1, 1) := by decide +kernel
theorem dX11_roundOf_49 : decode cX11_roundOf 49 = .ok (.iload 7, 2) := by decide +kernel
theorem dX11_roundOf_51 : decode cX11_roundOf 51 = .ok (.invokestatic 148, 3) := by decide +kernel
theorem dX11_roundOf_54 : decode cX11_roundOf 54 = .ok (.ifCond .eq 18, 3) := by decide +kernel
theorem dX11_roundOf_57 : decode cX11_roundOf 57 = .ok (.aload_n 0, 1) := by decide +kernel
theorem dX11_roundOf_58 : decode cX11_roundOf 58 = .ok (.iload 7, 2) := by decide +kernel
theorem dX11_roundOf_60 : decode cX11_roundOf 60 = .ok (.iload 5, 2) := by decide +kernel
theorem dX11_roundOf_62 : decode cX11_roundOf 62 = .ok (.invokevirtual 238, 3) := by decide +kernel
theorem dX11_roundOf_65 : decode cX11_roundOf 65 = .ok (.ifCond .lt 7, 3) := by decide +kernel
theorem dX11_roundOf_68 : decode cX11_roundOf 68 = .ok (.iconst 1, 1) := by decide +kernel
theorem dX11_roundOf_69 : decode cX11_roundOf 69 = .ok (.goto 4, 3) := by decide +kernel
theorem dX11_roundOf_72 : decode cX11_roundOf 72 = .ok (.iconst 0, 1) := by decide +kernel
theorem dX11_roundOf_73 : decode cX11_roundOf 73 = .ok (.iadd, 1) := by decide +kernel
theorem dX11_roundOf_74 : decode cX11_roundOf 74 = .ok (.istore 6, 2) := by decide +kernel
theorem dX11_roundOf_76 : decode cX11_roundOf 76 = .ok (.iinc 7 1, 3) := by decide +kernel
theorem dX11_roundOf_79 : decode cX11_roundOf 79 = .ok (.goto (-44), 3) := by decide +kernel
theorem dX11_roundOf_82 : decode cX11_roundOf 82 = .ok (.iload 4, 2) := by decide +kernel
theorem dX11_roundOf_84 : decode cX11_roundOf 84 = .ok (.ifCond .eq 18, 3) := by decide +kernel
theorem dX11_roundOf_87 : decode cX11_roundOf 87 = .ok (.iload 6, 2) := by decide +kernel
theorem dX11_roundOf_89 : decode cX11_roundOf 89 = .ok (.ifCond .eq 9, 3) := by decide +kernel
theorem dX11_roundOf_92 : decode cX11_roundOf 92 = .ok (.iload 6, 2) := by decide +kernel
theorem dX11_roundOf_94 : decode cX11_roundOf 94 = .ok (.iconst 2, 1) := by decide +kernel
theorem dX11_roundOf_95 : decode cX11_roundOf 95 = .ok (.if_icmp .ne 7, 3) := by decide +kernel
theorem dX11_roundOf_98 : decode cX11_roundOf 98 = .ok (.iconst 1, 1) := by decide +kernel
theorem dX11_roundOf_99 : decode cX11_roundOf 99 = .ok (.goto 4, 3) := by decide +kernel
theorem dX11_roundOf_102 : decode cX11_roundOf 102 = .ok (.iconst 0, 1) := by decide +kernel
theorem dX11_roundOf_103 : decode cX11_roundOf 103 = .ok (.istore 4, 2) := by decide +kernel
theorem dX11_roundOf_105 : decode cX11_roundOf 105 = .ok (.iload_n 2, 1) := by decide +kernel
theorem dX11_roundOf_106 : decode cX11_roundOf 106 = .ok (.iload 6, 2) := by decide +kernel
theorem dX11_roundOf_108 : decode cX11_roundOf 108 = .ok (.ifCond .le 10, 3) := by decide +kernel
theorem dX11_roundOf_111 : decode cX11_roundOf 111 = .ok (.iconst 1, 1) := by decide +kernel
theorem dX11_roundOf_112 : decode cX11_roundOf 112 = .ok (.iload 5, 2) := by decide +kernel
theorem dX11_roundOf_114 : decode cX11_roundOf 114 = .ok (.ishl, 1) := by decide +kernel
theorem dX11_roundOf_115 : decode cX11_roundOf 115 = .ok (.goto 4, 3) := by decide +kernel
theorem dX11_roundOf_118 : decode cX11_roundOf 118 = .ok (.iconst 0, 1) := by decide +kernel
theorem dX11_roundOf_119 : decode cX11_roundOf 119 = .ok (.ior, 1) := by decide +kernel
theorem dX11_roundOf_120 : decode cX11_roundOf 120 = .ok (.istore_n 2, 1) := by decide +kernel
theorem dX11_roundOf_121 : decode cX11_roundOf 121 = .ok (.iload 6, 2) := by decide +kernel
theorem dX11_roundOf_123 : decode cX11_roundOf 123 = .ok (.ifCond .le 13, 3) := by decide +kernel
theorem dX11_roundOf_126 : decode cX11_roundOf 126 = .ok (.iload_n 3, 1) := by decide +kernel
theorem dX11_roundOf_127 : decode cX11_roundOf 127 = .ok (.iconst (-1), 1) := by decide +kernel
theorem dX11_roundOf_128 : decode cX11_roundOf 128 = .ok (.if_icmp .ne 8, 3) := by decide +kernel
theorem dX11_roundOf_131 : decode cX11_roundOf 131 = .ok (.iload 5, 2) := by decide +kernel
theorem dX11_roundOf_133 : decode cX11_roundOf 133 = .ok (.goto 4, 3) := by decide +kernel
theorem dX11_roundOf_136 : decode cX11_roundOf 136 = .ok (.iload_n 3, 1) := by decide +kernel
theorem dX11_roundOf_137 : decode cX11_roundOf 137 = .ok (.istore_n 3, 1) := by decide +kernel
theorem dX11_roundOf_138 : decode cX11_roundOf 138 = .ok (.iinc 5 1, 3) := by decide +kernel
theorem dX11_roundOf_141 : decode cX11_roundOf 141 = .ok (.goto (-123), 3) := by decide +kernel
theorem dX11_roundOf_144 : decode cX11_roundOf 144 = .ok (.iload 4, 2) := by decide +kernel
theorem dX11_roundOf_146 : decode cX11_roundOf 146 = .ok (.ifCond .eq 9, 3) := by decide +kernel
theorem dX11_roundOf_149 : decode cX11_roundOf 149 = .ok (.iconst 1, 1) := by decide +kernel
theorem dX11_roundOf_150 : decode cX11_roundOf 150 = .ok (.iload_n 3, 1) := by decide +kernel
theorem dX11_roundOf_151 : decode cX11_roundOf 151 = .ok (.ishl, 1) := by decide +kernel
theorem dX11_roundOf_152 : decode cX11_roundOf 152 = .ok (.goto 4, 3) := by decide +kernel
theorem dX11_roundOf_155 : decode cX11_roundOf 155 = .ok (.iconst 0, 1) := by decide +kernel
theorem dX11_roundOf_156 : decode cX11_roundOf 156 = .ok (.istore 5, 2) := by decide +kernel
theorem dX11_roundOf_158 : decode cX11_roundOf 158 = .ok (.iconst 0, 1) := by decide +kernel
theorem dX11_roundOf_159 : decode cX11_roundOf 159 = .ok (.istore 6, 2) := by decide +kernel
theorem dX11_roundOf_161 : decode cX11_roundOf 161 = .ok (.iload 6, 2) := by decide +kernel
theorem dX11_roundOf_163 : decode cX11_roundOf 163 = .ok (.bipush 6, 2) := by decide +kernel
theorem dX11_roundOf_165 : decode cX11_roundOf 165 = .ok (.if_icmp .ge 83, 3) := by decide +kernel
theorem dX11_roundOf_168 : decode cX11_roundOf 168 = .ok (.iconst 0, 1) := by decide +kernel
theorem dX11_roundOf_169 : decode cX11_roundOf 169 = .ok (.istore 7, 2) := by decide +kernel
theorem dX11_roundOf_171 : decode cX11_roundOf 171 = .ok (.iload 7, 2) := by decide +kernel
theorem dX11_roundOf_173 : decode cX11_roundOf 173 = .ok (.aload_n 0, 1) := by decide +kernel
theorem dX11_roundOf_174 : decode cX11_roundOf 174 = .ok (.getfield 7, 3) := by decide +kernel
theorem dX11_roundOf_177 : decode cX11_roundOf 177 = .ok (.iconst 3, 1) := by decide +kernel
theorem dX11_roundOf_178 : decode cX11_roundOf 178 = .ok (.iaload, 1) := by decide +kernel
theorem dX11_roundOf_179 : decode cX11_roundOf 179 = .ok (.if_icmp .ge 63, 3) := by decide +kernel
theorem dX11_roundOf_182 : decode cX11_roundOf 182 = .ok (.iconst 1, 1) := by decide +kernel
theorem dX11_roundOf_183 : decode cX11_roundOf 183 = .ok (.aload_n 0, 1) := by decide +kernel
theorem dX11_roundOf_184 : decode cX11_roundOf 184 = .ok (.getfield 7, 3) := by decide +kernel
theorem dX11_roundOf_187 : decode cX11_roundOf 187 = .ok (.iconst 5, 1) := by decide +kernel
theorem dX11_roundOf_188 : decode cX11_roundOf 188 = .ok (.iload 7, 2) := by decide +kernel
theorem dX11_roundOf_190 : decode cX11_roundOf 190 = .ok (.iadd, 1) := by decide +kernel
theorem dX11_roundOf_191 : decode cX11_roundOf 191 = .ok (.iaload, 1) := by decide +kernel
theorem dX11_roundOf_192 : decode cX11_roundOf 192 = .ok (.ishl, 1) := by decide +kernel
theorem dX11_roundOf_193 : decode cX11_roundOf 193 = .ok (.iconst 1, 1) := by decide +kernel
theorem dX11_roundOf_194 : decode cX11_roundOf 194 = .ok (.aload_n 0, 1) := by decide +kernel
theorem dX11_roundOf_195 : decode cX11_roundOf 195 = .ok (.getfield 7, 3) := by decide +kernel
theorem dX11_roundOf_198 : decode cX11_roundOf 198 = .ok (.bipush 14, 2) := by decide +kernel
theorem dX11_roundOf_200 : decode cX11_roundOf 200 = .ok (.iload 7, 2) := by decide +kernel
theorem dX11_roundOf_202 : decode cX11_roundOf 202 = .ok (.iadd, 1) := by decide +kernel
theorem dX11_roundOf_203 : decode cX11_roundOf 203 = .ok (.iaload, 1) := by decide +kernel
theorem dX11_roundOf_204 : decode cX11_roundOf 204 = .ok (.ishl, 1) := by decide +kernel
theorem dX11_roundOf_205 : decode cX11_roundOf 205 = .ok (.ior, 1) := by decide +kernel
theorem dX11_roundOf_206 : decode cX11_roundOf 206 = .ok (.istore 8, 2) := by decide +kernel
theorem dX11_roundOf_208 : decode cX11_roundOf 208 = .ok (.iload 5, 2) := by decide +kernel
theorem dX11_roundOf_210 : decode cX11_roundOf 210 = .ok (.iload_n 1, 1) := by decide +kernel
theorem dX11_roundOf_211 : decode cX11_roundOf 211 = .ok (.iload 7, 2) := by decide +kernel
theorem dX11_roundOf_213 : decode cX11_roundOf 213 = .ok (.invokestatic 148, 3) := by decide +kernel
theorem dX11_roundOf_216 : decode cX11_roundOf 216 = .ok (.ifCond .eq 16, 3) := by decide +kernel
theorem dX11_roundOf_219 : decode cX11_roundOf 219 = .ok (.iload 5, 2) := by decide +kernel
theorem dX11_roundOf_221 : decode cX11_roundOf 221 = .ok (.iload 8, 2) := by decide +kernel
theorem dX11_roundOf_223 : decode cX11_roundOf 223 = .ok (.iand, 1) := by decide +kernel
theorem dX11_roundOf_224 : decode cX11_roundOf 224 = .ok (.ifCond .eq 8, 3) := by decide +kernel
theorem dX11_roundOf_227 : decode cX11_roundOf 227 = .ok (.iload 8, 2) := by decide +kernel
theorem dX11_roundOf_229 : decode cX11_roundOf 229 = .ok (.goto 4, 3) := by decide +kernel
theorem dX11_roundOf_232 : decode cX11_roundOf 232 = .ok (.iconst 0, 1) := by decide +kernel
theorem dX11_roundOf_233 : decode cX11_roundOf 233 = .ok (.ior, 1) := by decide +kernel
theorem dX11_roundOf_234 : decode cX11_roundOf 234 = .ok (.istore 5, 2) := by decide +kernel
theorem dX11_roundOf_236 : decode cX11_roundOf 236 = .ok (.iinc 7 1, 3) := by decide +kernel
theorem dX11_roundOf_239 : decode cX11_roundOf 239 = .ok (.goto (-68), 3) := by decide +kernel
theorem dX11_roundOf_242 : decode cX11_roundOf 242 = .ok (.iinc 6 1, 3) := by decide +kernel
theorem dX11_roundOf_245 : decode cX11_roundOf 245 = .ok (.goto (-84), 3) := by decide +kernel
theorem dX11_roundOf_248 : decode cX11_roundOf 248 = .ok (.iload 4, 2) := by decide +kernel
theorem dX11_roundOf_250 : decode cX11_roundOf 250 = .ok (.ifCond .eq 13, 3) := by decide +kernel
theorem dX11_roundOf_253 : decode cX11_roundOf 253 = .ok (.iload 5, 2) := by decide +kernel
theorem dX11_roundOf_255 : decode cX11_roundOf 255 = .ok (.iload_n 2, 1) := by decide +kernel
theorem dX11_roundOf_256 : decode cX11_roundOf 256 = .ok (.if_icmp .ne 7, 3) := by decide +kernel
theorem dX11_roundOf_259 : decode cX11_roundOf 259 = .ok (.iload_n 2, 1) := by decide +kernel
theorem dX11_roundOf_260 : decode cX11_roundOf 260 = .ok (.goto 4, 3) := by decide +kernel
theorem dX11_roundOf_263 : decode cX11_roundOf 263 = .ok (.iconst 0, 1) := by decide +kernel
theorem dX11_roundOf_264 : decode cX11_roundOf 264 = .ok (.ireturn, 1) := by decide +kernel
set_option maxRecDepth 20000 in
theorem ggX11_round_X11_in : GoodIn wsX11_round wsX11_in := goodIn_r _ [9] rfl (by decide +kernel)
set_option maxRecDepth 20000 in
theorem gX11_round_X11_in : GoodIn wsX11_round (va_wsS RX11 83 yX11_in wsX11_in) := goodIn_app (goodIn_of _ (by decide +kernel)) ggX11_round_X11_in
set_option maxRecDepth 20000 in
theorem ggX11_round_X11_roundOf : GoodIn wsX11_round wsX11_roundOf := goodIn_r _ [13, 4, 14, 15, 8, 16, 17, 18, 19, 20, 21, 22, 23, 24, 25, 26, 27, 28, 29, 30, 31, 32, 33, 34, 35, 36, 37, 38, 39, 40, 41, 42, 43, 44, 45, 46, 47, 48, 49, 50, 51, 52] rfl (by decide +kernel)
set_option maxRecDepth 20000 in
theorem gX11_round_X11_roundOf : GoodIn wsX11_round (wsV RX11 267 RX11 yX11_roundOf wsX11_roundOf) := goodIn_app (goodIn_of _ (by decide +kernel)) ggX11_round_X11_roundOf
set_option maxRecDepth 20000 in
theorem ggX11_round_X11_has : GoodIn wsX11_round wsX11_has := goodIn_r _ [16] rfl (by decide +kernel)
set_option maxRecDepth 20000 in
theorem gX11_round_X11_has : GoodIn wsX11_round (va_wsS RX11 148 yX11_has wsX11_has) := goodIn_app (goodIn_of _ (by decide +kernel)) ggX11_round_X11_has
theorem dX11_round_0 : decode cX11_round 0 = .ok (.iload_n 1, 1) := by decide +kernel
theorem dX11_round_1 : decode cX11_round 1 = .ok (.i2l, 1) := by decide +kernel
theorem dX11_round_2 : decode cX11_round 2 = .ok (.lconst 0, 1) := by decide +kernel
theorem dX11_round_3 : decode cX11_round 3 = .ok (.ldc2_w 264, 3) := by decide +kernel
theorem dX11_round_6 : decode cX11_round 6 = .ok (.invokestatic 83, 3) := by decide +kernel
theorem dX11_round_9 : decode cX11_round 9 = .ok (.ifCond .ne 6, 3) := by decide +kernel
theorem dX11_round_12 : decode cX11_round 12 = .ok (.ldc 87, 2) := by decide +kernel
theorem dX11_round_14 : decode cX11_round 14 = .ok (.ireturn, 1) := by decide +kernel
theorem dX11_round_15 : decode cX11_round 15 = .ok (.iconst 0, 1) := by decide +kernel
theorem dX11_round_16 : decode cX11_round 16 = .ok (.istore_n 2, 1) := by decide +kernel
theorem dX11_round_17 : decode cX11_round 17 = .ok (.iconst 0, 1) := by decide +kernel
theorem dX11_round_18 : decode cX11_round 18 = .ok (.istore_n 3, 1) := by decide +kernel
theorem dX11_round_19 : decode cX11_round 19 = .ok (.ldc_w 266, 3) := by decide +kernel
theorem dX11_round_22 : decode cX11_round 22 = .ok (.istore 4, 2) := by decide +kernel
theorem dX11_round_24 : decode cX11_round 24 = .ok (.iconst 1, 1) := by decide +kernel
theorem dX11_round_25 : decode cX11_round 25 = .ok (.istore 5, 2) := by decide +kernel
theorem dX11_round_27 : decode cX11_round 27 = .ok (.iload 5, 2) := by decide +kernel
theorem dX11_round_29 : decode cX11_round 29 = .ok (.iconst 1, 1) := by decide +kernel
theorem dX11_round_30 : decode cX11_round 30 = .ok (.aload_n 0, 1) := by decide +kernel
theorem dX11_round_31 : decode cX11_round 31 = .ok (.getfield 7, 3) := by decide +kernel
theorem dX11_round_34 : decode cX11_round 34 = .ok (.iconst 3, 1) := by decide +kernel
theorem dX11_round_35 : decode cX11_round 35 = .ok (.iaload, 1) := by decide +kernel
theorem dX11_round_36 : decode cX11_round 36 = .ok (.ishl, 1) := by decide +kernel
theorem dX11_round_37 : decode cX11_round 37 = .ok (.if_icmp .ge 147, 3) := by decide +kernel
theorem dX11_round_40 : decode cX11_round 40 = .ok (.aload_n 0, 1) := by decide +kernel
theorem dX11_round_41 : decode cX11_round 41 = .ok (.iload 5, 2) := by decide +kernel
theorem dX11_round_43 : decode cX11_round 43 = .ok (.invokevirtual 267, 3) := by decide +kernel
theorem dX11_round_46 : decode cX11_round 46 = .ok (.istore 6, 2) := by decide +kernel
theorem dX11_round_48 : decode cX11_round 48 = .ok (.iload 6, 2) := by decide +kernel
theorem dX11_round_50 : decode cX11_round 50 = .ok (.ifCond .eq 128, 3) := by decide +kernel
theorem dX11_round_53 : decode cX11_round 53 = .ok (.iconst 0, 1) := by decide +kernel
theorem dX11_round_54 : decode cX11_round 54 = .ok (.istore 7, 2) := by decide +kernel
theorem dX11_round_56 : decode cX11_round 56 = .ok (.iconst 0, 1) := by decide +kernel
theorem dX11_round_57 : decode cX11_round 57 = .ok (.istore 8, 2) := by decide +kernel
theorem dX11_round_59 : decode cX11_round 59 = .ok (.iload 8, 2) := by decide +kernel
theorem dX11_round_61 : decode cX11_round 61 = .ok (.aload_n 0, 1) := by decide +kernel
theorem dX11_round_62 : decode cX11_round 62 = .ok (.getfield 7, 3) := by decide +kernel
theorem dX11_round_65 : decode cX11_round 65 = .ok (.iconst 3, 1) := by decide +kernel
theorem dX11_round_66 : decode cX11_round 66 = .ok (.iaload, 1) := by decide +kernel
theorem dX11_round_67 : decode cX11_round 67 = .ok (.if_icmp .ge 46, 3) := by decide +kernel
theorem dX11_round_70 : decode cX11_round 70 = .ok (.iload 7, 2) := by decide +kernel
theorem dX11_round_72 : decode cX11_round 72 = .ok (.iload 5, 2) := by decide +kernel
theorem dX11_round_74 : decode cX11_round 74 = .ok (.iload 8, 2) := by decide +kernel
theorem dX11_round_76 : decode cX11_round 76 = .ok (.invokestatic 148, 3) := by decide +kernel
theorem dX11_round_79 : decode cX11_round 79 = .ok (.ifCond .eq 24, 3) := by decide +kernel
theorem dX11_round_82 : decode cX11_round 82 = .ok (.aload_n 0, 1) := by decide +kernel
theorem dX11_round_83 : decode cX11_round 83 = .ok (.getfield 16, 3) := by decide +kernel
theorem dX11_round_86 : decode cX11_round 86 = .ok (.iload 8, 2) := by decide +kernel
theorem dX11_round_88 : decode cX11_round 88 = .ok (.iaload, 1) := by decide +kernel
theorem dX11_round_89 : decode cX11_round 89 = .ok (.aload_n 0, 1) := by decide +kernel
theorem dX11_round_90 : decode cX11_round 90 = .ok (.getfield 7, 3) := by decide +kernel
theorem dX11_round_93 : decode cX11_round 93 = .ok (.bipush 23, 2) := by decide +kernel
theorem dX11_round_95 : decode cX11_round 95 = .ok (.iload 8, 2) := by decide +kernel
theorem dX11_round_97 : decode cX11_round 97 = .ok (.iadd, 1) := by decide +kernel
theorem dX11_round_98 : decode cX11_round 98 = .ok (.iaload, 1) := by decide +kernel
theorem dX11_round_99 : decode cX11_round 99 = .ok (.isub, 1) := by decide +kernel
theorem dX11_round_100 : decode cX11_round 100 = .ok (.goto 4, 3) := by decide +kernel
theorem dX11_round_103 : decode cX11_round 103 = .ok (.iconst 0, 1) := by decide +kernel
theorem dX11_round_104 : decode cX11_round 104 = .ok (.iadd, 1) := by decide +kernel
theorem dX11_round_105 : decode cX11_round 105 = .ok (.istore 7, 2) := by decide +kernel
theorem dX11_round_107 : decode cX11_round 107 = .ok (.iinc 8 1, 3) := by decide +kernel
theorem dX11_round_110 : decode cX11_round 110 = .ok (.goto (-51), 3) := by decide +kernel
theorem dX11_round_113 : decode cX11_round 113 = .ok (.iload 7, 2) := by decide +kernel
theorem dX11_round_115 : decode cX11_round 115 = .ok (.iload 4, 2) := by decide +kernel
theorem dX11_round_117 : decode cX11_round 117 = .ok (.if_icmp .gt 16, 3) := by decide +kernel
theorem dX11_round_120 : decode cX11_round 120 = .ok (.iload 7, 2) := by decide +kernel
theorem dX11_round_122 : decode cX11_round 122 = .ok (.iload 4, 2) := by decide +kernel
theorem dX11_round_124 : decode cX11_round 124 = .ok (.if_icmp .ne 13, 3) := by decide +kernel
theorem dX11_round_127 : decode cX11_round 127 = .ok (.iload 6, 2) := by decide +kernel
theorem dX11_round_129 : decode cX11_round 129 = .ok (.iload_n 3, 1) := by decide +kernel
theorem dX11_round_130 : decode cX11_round 130 = .ok (.if_icmp .ge 7, 3) := by decide +kernel
theorem dX11_round_133 : decode cX11_round 133 = .ok (.iconst 1, 1) := by decide +kernel
theorem dX11_round_134 : decode cX11_round 134 = .ok (.goto 4, 3) := by decide +kernel
theorem dX11_round_137 : decode cX11_round 137 = .ok (.iconst 0, 1) := by decide +kernel
theorem dX11_round_138 : decode cX11_round 138 = .ok (.istore 8, 2) := by decide +kernel
theorem dX11_round_140 : decode cX11_round 140 = .ok (.iload 8, 2) := by decide +kernel
theorem dX11_round_142 : decode cX11_round 142 = .ok (.ifCond .eq 8, 3) := by decide +kernel
theorem dX11_round_145 : decode cX11_round 145 = .ok (.iload 5, 2) := by decide +kernel
theorem dX11_round_147 : decode cX11_round 147 = .ok (.goto 4, 3) := by decide +kernel
theorem dX11_round_150 : decode cX11_round 150 = .ok (.iload_n 2, 1) := by decide +kernel
theorem dX11_round_151 : decode cX11_round 151 = .ok (.istore_n 2, 1) := by decide +kernel
theorem dX11_round_152 : decode cX11_round 152 = .ok (.iload 8, 2) := by decide +kernel
theorem dX11_round_154 : decode cX11_round 154 = .ok (.ifCond .eq 8, 3) := by decide +kernel
theorem dX11_round_157 : decode cX11_round 157 = .ok (.iload 6, 2) := by decide +kernel
theorem dX11_round_159 : decode cX11_round 159 = .ok (.goto 4, 3) := by decide +kernel
theorem dX11_round_162 : decode cX11_round 162 = .ok (.iload_n 3, 1) := by decide +kernel
theorem dX11_round_163 : decode cX11_round 163 = .ok (.istore_n 3, 1) := by decide +kernel
theorem dX11_round_164 : decode cX11_round 164 = .ok (.iload 8, 2) := by decide +kernel
theorem dX11_round_166 : decode cX11_round 166 = .ok (.ifCond .eq 8, 3) := by decide +kernel
theorem dX11_round_169 : decode cX11_round 169 = .ok (.iload 7, 2) := by decide +kernel
theorem dX11_round_171 : decode cX11_round 171 = .ok (.goto 5, 3) := by decide +kernel
theorem dX11_round_174 : decode cX11_round 174 = .ok (.iload 4, 2) := by decide +kernel
theorem dX11_round_176 : decode cX11_round 176 = .ok (.istore 4, 2) := by decide +kernel
theorem dX11_round_178 : decode cX11_round 178 = .ok (.iinc 5 1, 3) := by decide +kernel
theorem dX11_round_181 : decode cX11_round 181 = .ok (.goto (-154), 3) := by decide +kernel
theorem dX11_round_184 : decode cX11_round 184 = .ok (.iload_n 2, 1) := by decide +kernel
theorem dX11_round_185 : decode cX11_round 185 = .ok (.ifCond .ne 7, 3) := by decide +kernel
theorem dX11_round_188 : decode cX11_round 188 = .ok (.iconst (-1), 1) := by decide +kernel
theorem dX11_round_189 : decode cX11_round 189 = .ok (.goto 26, 3) := by decide +kernel
theorem dX11_round_192 : decode cX11_round 192 = .ok (.iload_n 1, 1) := by decide +kernel
theorem dX11_round_193 : decode cX11_round 193 = .ok (.ifCond .ne 12, 3) := by decide +kernel
theorem dX11_round_196 : decode cX11_round 196 = .ok (.iload 4, 2) := by decide +kernel
theorem dX11_round_198 : decode cX11_round 198 = .ok (.sipush 1000, 3) := by decide +kernel
theorem dX11_round_201 : decode cX11_round 201 = .ok (.iadd, 1) := by decide +kernel
theorem dX11_round_202 : decode cX11_round 202 = .ok (.goto 13, 3) := by decide +kernel
theorem dX11_round_205 : decode cX11_round 205 = .ok (.iload_n 1, 1) := by decide +kernel
theorem dX11_round_206 : decode cX11_round 206 = .ok (.iconst 1, 1) := by decide +kernel
theorem dX11_round_207 : decode cX11_round 207 = .ok (.if_icmp .ne 7, 3) := by decide +kernel
theorem dX11_round_210 : decode cX11_round 210 = .ok (.iload_n 3, 1) := by decide +kernel
theorem dX11_round_211 : decode cX11_round 211 = .ok (.goto 4, 3) := by decide +kernel
theorem dX11_round_214 : decode cX11_round 214 = .ok (.iload_n 2, 1) := by decide +kernel
theorem dX11_round_215 : decode cX11_round 215 = .ok (.ireturn, 1) := by decide +kernel
set_option maxRecDepth 20000 in
theorem ggX11_deceive_X11_areTowns : GoodIn wsX11_deceive wsX11_areTowns := goodIn_r _ [10, 11, 12, 13, 9, 14, 3, 15, 16, 17, 34, 35, 36, 37, 38, 39, 40, 41, 42, 43, 44, 45, 46, 47, 48, 49, 50, 51, 52, 53, 54, 55, 56, 57, 58, 59, 60, 61, 62, 63, 64, 65] rfl (by decide +kernel)
set_option maxRecDepth 20000 in
theorem gX11_deceive_X11_areTowns : GoodIn wsX11_deceive (wsV RX11 228 RX11 yX11_areTowns wsX11_areTowns) := goodIn_app (goodIn_of _ (by decide +kernel)) ggX11_deceive_X11_areTowns
set_option maxRecDepth 20000 in
theorem ggX11_deceive_X11_layWay : GoodIn wsX11_deceive wsX11_layWay := goodIn_r _ [21, 22, 23, 24, 25, 3, 26, 27, 28, 9, 29, 30, 31, 32, 33, 34, 35, 36, 37, 38, 39, 40, 41, 42, 43, 44, 45, 46, 47, 48, 49, 50, 51, 52, 53, 54, 55, 56, 57, 58, 59, 60, 61, 62, 63, 64, 65] rfl (by decide +kernel)
set_option maxRecDepth 20000 in
theorem gX11_deceive_X11_layWay : GoodIn wsX11_deceive (wsV RX11 242 RX11 yX11_layWay wsX11_layWay) := goodIn_app (goodIn_of _ (by decide +kernel)) ggX11_deceive_X11_layWay
set_option maxRecDepth 20000 in
theorem ggX11_deceive_X11_in : GoodIn wsX11_deceive wsX11_in := goodIn_r _ [17] rfl (by decide +kernel)
set_option maxRecDepth 20000 in
theorem gX11_deceive_X11_in : GoodIn wsX11_deceive (va_wsS RX11 83 yX11_in wsX11_in) := goodIn_app (goodIn_of _ (by decide +kernel)) ggX11_deceive_X11_in
theorem dX11_deceive_0 : decode cX11_deceive 0 = .ok (.aload_n 0, 1) := by decide +kernel
theorem dX11_deceive_1 : decode cX11_deceive 1 = .ok (.iload_n 1, 1) := by decide +kernel
theorem dX11_deceive_2 : decode cX11_deceive 2 = .ok (.iload_n 2, 1) := by decide +kernel
theorem dX11_deceive_3 : decode cX11_deceive 3 = .ok (.invokevirtual 228, 3) := by decide +kernel
theorem dX11_deceive_6 : decode cX11_deceive 6 = .ok (.ifCond .ne 6, 3) := by decide +kernel
theorem dX11_deceive_9 : decode cX11_deceive 9 = .ok (.ldc 173, 2) := by decide +kernel
theorem dX11_deceive_11 : decode cX11_deceive 11 = .ok (.ireturn, 1) := by decide +kernel
theorem dX11_deceive_12 : decode cX11_deceive 12 = .ok (.aload_n 0, 1) := by decide +kernel
theorem dX11_deceive_13 : decode cX11_deceive 13 = .ok (.iload_n 1, 1) := by decide +kernel
theorem dX11_deceive_14 : decode cX11_deceive 14 = .ok (.iload_n 2, 1) := by decide +kernel
theorem dX11_deceive_15 : decode cX11_deceive 15 = .ok (.aload_n 0, 1) := by decide +kernel
theorem dX11_deceive_16 : decode cX11_deceive 16 = .ok (.getfield 16, 3) := by decide +kernel
theorem dX11_deceive_19 : decode cX11_deceive 19 = .ok (.invokevirtual 242, 3) := by decide +kernel
theorem dX11_deceive_22 : decode cX11_deceive 22 = .ok (.istore_n 3, 1) := by decide +kernel
theorem dX11_deceive_23 : decode cX11_deceive 23 = .ok (.iconst (-1), 1) := by decide +kernel
theorem dX11_deceive_24 : decode cX11_deceive 24 = .ok (.istore 4, 2) := by decide +kernel
theorem dX11_deceive_26 : decode cX11_deceive 26 = .ok (.iconst 0, 1) := by decide +kernel
theorem dX11_deceive_27 : decode cX11_deceive 27 = .ok (.istore 5, 2) := by decide +kernel
theorem dX11_deceive_29 : decode cX11_deceive 29 = .ok (.iload 5, 2) := by decide +kernel
theorem dX11_deceive_31 : decode cX11_deceive 31 = .ok (.aload_n 0, 1) := by decide +kernel
theorem dX11_deceive_32 : decode cX11_deceive 32 = .ok (.getfield 7, 3) := by decide +kernel
theorem dX11_deceive_35 : decode cX11_deceive 35 = .ok (.iconst 3, 1) := by decide +kernel
theorem dX11_deceive_36 : decode cX11_deceive 36 = .ok (.iaload, 1) := by decide +kernel
theorem dX11_deceive_37 : decode cX11_deceive 37 = .ok (.if_icmp .ge 147, 3) := by decide +kernel
theorem dX11_deceive_40 : decode cX11_deceive 40 = .ok (.iload_n 3, 1) := by decide +kernel
theorem dX11_deceive_41 : decode cX11_deceive 41 = .ok (.iconst (-1), 1) := by decide +kernel
theorem dX11_deceive_42 : decode cX11_deceive 42 = .ok (.if_icmp .eq 142, 3) := by decide +kernel
theorem dX11_deceive_45 : decode cX11_deceive 45 = .ok (.iconst 0, 1) := by decide +kernel
theorem dX11_deceive_46 : decode cX11_deceive 46 = .ok (.istore 6, 2) := by decide +kernel
theorem dX11_deceive_48 : decode cX11_deceive 48 = .ok (.iload 6, 2) := by decide +kernel
theorem dX11_deceive_50 : decode cX11_deceive 50 = .ok (.iconst 2, 1) := by decide +kernel
theorem dX11_deceive_51 : decode cX11_deceive 51 = .ok (.if_icmp .ge 127, 3) := by decide +kernel
theorem dX11_deceive_54 : decode cX11_deceive 54 = .ok (.iconst 0, 1) := by decide +kernel
theorem dX11_deceive_55 : decode cX11_deceive 55 = .ok (.istore 7, 2) := by decide +kernel
theorem dX11_deceive_57 : decode cX11_deceive 57 = .ok (.iload 7, 2) := by decide +kernel
theorem dX11_deceive_59 : decode cX11_deceive 59 = .ok (.bipush 9, 2) := by decide +kernel
theorem dX11_deceive_61 : decode cX11_deceive 61 = .ok (.if_icmp .ge 23, 3) := by decide +kernel
theorem dX11_deceive_64 : decode cX11_deceive 64 = .ok (.aload_n 0, 1) := by decide +kernel
theorem dX11_deceive_65 : decode cX11_deceive 65 = .ok (.getfield 54, 3) := by decide +kernel
theorem dX11_deceive_68 : decode cX11_deceive 68 = .ok (.iload 7, 2) := by decide +kernel
theorem dX11_deceive_70 : decode cX11_deceive 70 = .ok (.aload_n 0, 1) := by decide +kernel
theorem dX11_deceive_71 : decode cX11_deceive 71 = .ok (.getfield 16, 3) := by decide +kernel
theorem dX11_deceive_74 : decode cX11_deceive 74 = .ok (.iload 7, 2) := by decide +kernel
theorem dX11_deceive_76 : decode cX11_deceive 76 = .ok (.iaload, 1) := by decide +kernel
theorem dX11_deceive_77 : decode cX11_deceive 77 = .ok (.iastore, 1) := by decide +kernel
theorem dX11_deceive_78 : decode cX11_deceive 78 = .ok (.iinc 7 1, 3) := by decide +kernel
theorem dX11_deceive_81 : decode cX11_deceive 81 = .ok (.goto (-24), 3) := by decide +kernel
theorem dX11_deceive_84 : decode cX11_deceive 84 = .ok (.aload_n 0, 1) := by decide +kernel
theorem dX11_deceive_85 : decode cX11_deceive 85 = .ok (.getfield 54, 3) := by decide +kernel
theorem dX11_deceive_88 : decode cX11_deceive 88 = .ok (.iload 5, 2) := by decide +kernel
theorem dX11_deceive_90 : decode cX11_deceive 90 = .ok (.dup2, 1) := by decide +kernel
theorem dX11_deceive_91 : decode cX11_deceive 91 = .ok (.iaload, 1) := by decide +kernel
theorem dX11_deceive_92 : decode cX11_deceive 92 = .ok (.iload 6, 2) := by decide +kernel
theorem dX11_deceive_94 : decode cX11_deceive 94 = .ok (.ifCond .ne 7, 3) := by decide +kernel
theorem dX11_deceive_97 : decode cX11_deceive 97 = .ok (.iconst (-1), 1) := by decide +kernel
theorem dX11_deceive_98 : decode cX11_deceive 98 = .ok (.goto 4, 3) := by decide +kernel
theorem dX11_deceive_101 : decode cX11_deceive 101 = .ok (.iconst 1, 1) := by decide +kernel
theorem dX11_deceive_102 : decode cX11_deceive 102 = .ok (.iadd, 1) := by decide +kernel
theorem dX11_deceive_103 : decode cX11_deceive 103 = .ok (.iastore, 1) := by decide +kernel
theorem dX11_deceive_104 : decode cX11_deceive 104 = .ok (.aload_n 0, 1) := by decide +kernel
theorem dX11_deceive_105 : decode cX11_deceive 105 = .ok (.getfield 54, 3) := by decide +kernel
theorem dX11_deceive_108 : decode cX11_deceive 108 = .ok (.iload 5, 2) := by decide +kernel
theorem dX11_deceive_110 : decode cX11_deceive 110 = .ok (.iaload, 1) := by decide +kernel
theorem dX11_deceive_111 : decode cX11_deceive 111 = .ok (.i2l, 1) := by decide +kernel
theorem dX11_deceive_112 : decode cX11_deceive 112 = .ok (.lconst 1, 1) := by decide +kernel
theorem dX11_deceive_113 : decode cX11_deceive 113 = .ok (.ldc2_w 184, 3) := by decide +kernel
theorem dX11_deceive_116 : decode cX11_deceive 116 = .ok (.invokestatic 83, 3) := by decide +kernel
theorem dX11_deceive_119 : decode cX11_deceive 119 = .ok (.ifCond .eq 16, 3) := by decide +kernel
theorem dX11_deceive_122 : decode cX11_deceive 122 = .ok (.aload_n 0, 1) := by decide +kernel
theorem dX11_deceive_123 : decode cX11_deceive 123 = .ok (.iload_n 1, 1) := by decide +kernel
theorem dX11_deceive_124 : decode cX11_deceive 124 = .ok (.iload_n 2, 1) := by decide +kernel
theorem dX11_deceive_125 : decode cX11_deceive 125 = .ok (.aload_n 0, 1) := by decide +kernel
theorem dX11_deceive_126 : decode cX11_deceive 126 = .ok (.getfield 54, 3) := by decide +kernel
theorem dX11_deceive_129 : decode cX11_deceive 129 = .ok (.invokevirtual 242, 3) := by decide +kernel
theorem dX11_deceive_132 : decode cX11_deceive 132 = .ok (.goto 4, 3) := by decide +kernel
theorem dX11_deceive_135 : decode cX11_deceive 135 = .ok (.iconst (-1), 1) := by decide +kernel
theorem dX11_deceive_136 : decode cX11_deceive 136 = .ok (.istore 7, 2) := by decide +kernel
theorem dX11_deceive_138 : decode cX11_deceive 138 = .ok (.iload 7, 2) := by decide +kernel
theorem dX11_deceive_140 : decode cX11_deceive 140 = .ok (.iload_n 3, 1) := by decide +kernel
theorem dX11_deceive_141 : decode cX11_deceive 141 = .ok (.if_icmp .le 14, 3) := by decide +kernel
theorem dX11_deceive_144 : decode cX11_deceive 144 = .ok (.bipush 10, 2) := by decide +kernel
