theorem dX11_layFar_24 : decode cX11_layFar 24 = .ok (.iastore, 1) := by decide +kernel
theorem dX11_layFar_25 : decode cX11_layFar 25 = .ok (.iinc 3 1, 3) := by decide +kernel
theorem dX11_layFar_28 : decode cX11_layFar 28 = .ok (.goto (-26), 3) := by decide +kernel
theorem dX11_layFar_31 : decode cX11_layFar 31 = .ok (.iconst 0, 1) := by decide +kernel
theorem dX11_layFar_32 : decode cX11_layFar 32 = .ok (.istore_n 3, 1) := by decide +kernel
theorem dX11_layFar_33 : decode cX11_layFar 33 = .ok (.iload_n 3, 1) := by decide +kernel
theorem dX11_layFar_34 : decode cX11_layFar 34 = .ok (.bipush 6, 2) := by decide +kernel
theorem dX11_layFar_36 : decode cX11_layFar 36 = .ok (.if_icmp .ge 154, 3) := by decide +kernel
theorem dX11_layFar_39 : decode cX11_layFar 39 = .ok (.iconst 0, 1) := by decide +kernel
theorem dX11_layFar_40 : decode cX11_layFar 40 = .ok (.istore 4, 2) := by decide +kernel
theorem dX11_layFar_42 : decode cX11_layFar 42 = .ok (.iload 4, 2) := by decide +kernel
theorem dX11_layFar_44 : decode cX11_layFar 44 = .ok (.aload_n 0, 1) := by decide +kernel
theorem dX11_layFar_45 : decode cX11_layFar 45 = .ok (.getfield 7, 3) := by decide +kernel
theorem dX11_layFar_48 : decode cX11_layFar 48 = .ok (.iconst 3, 1) := by decide +kernel
theorem dX11_layFar_49 : decode cX11_layFar 49 = .ok (.iaload, 1) := by decide +kernel
theorem dX11_layFar_50 : decode cX11_layFar 50 = .ok (.if_icmp .ge 134, 3) := by decide +kernel
theorem dX11_layFar_53 : decode cX11_layFar 53 = .ok (.aload_n 0, 1) := by decide +kernel
theorem dX11_layFar_54 : decode cX11_layFar 54 = .ok (.getfield 7, 3) := by decide +kernel
theorem dX11_layFar_57 : decode cX11_layFar 57 = .ok (.iconst 5, 1) := by decide +kernel
theorem dX11_layFar_58 : decode cX11_layFar 58 = .ok (.iload 4, 2) := by decide +kernel
theorem dX11_layFar_60 : decode cX11_layFar 60 = .ok (.iadd, 1) := by decide +kernel
theorem dX11_layFar_61 : decode cX11_layFar 61 = .ok (.iaload, 1) := by decide +kernel
theorem dX11_layFar_62 : decode cX11_layFar 62 = .ok (.istore 5, 2) := by decide +kernel
theorem dX11_layFar_64 : decode cX11_layFar 64 = .ok (.aload_n 0, 1) := by decide +kernel
theorem dX11_layFar_65 : decode cX11_layFar 65 = .ok (.getfield 7, 3) := by decide +kernel
theorem dX11_layFar_68 : decode cX11_layFar 68 = .ok (.bipush 14, 2) := by decide +kernel
theorem dX11_layFar_70 : decode cX11_layFar 70 = .ok (.iload 4, 2) := by decide +kernel
theorem dX11_layFar_72 : decode cX11_layFar 72 = .ok (.iadd, 1) := by decide +kernel
theorem dX11_layFar_73 : decode cX11_layFar 73 = .ok (.iaload, 1) := by decide +kernel
theorem dX11_layFar_74 : decode cX11_layFar 74 = .ok (.istore 6, 2) := by decide +kernel
theorem dX11_layFar_76 : decode cX11_layFar 76 = .ok (.aload_n 0, 1) := by decide +kernel
theorem dX11_layFar_77 : decode cX11_layFar 77 = .ok (.getfield 45, 3) := by decide +kernel
theorem dX11_layFar_80 : decode cX11_layFar 80 = .ok (.iload 5, 2) := by decide +kernel
theorem dX11_layFar_82 : decode cX11_layFar 82 = .ok (.aload_n 0, 1) := by decide +kernel
theorem dX11_layFar_83 : decode cX11_layFar 83 = .ok (.getfield 45, 3) := by decide +kernel
theorem dX11_layFar_86 : decode cX11_layFar 86 = .ok (.iload 6, 2) := by decide +kernel
theorem dX11_layFar_88 : decode cX11_layFar 88 = .ok (.iaload, 1) := by decide +kernel
theorem dX11_layFar_89 : decode cX11_layFar 89 = .ok (.aload_n 2, 1) := by decide +kernel
theorem dX11_layFar_90 : decode cX11_layFar 90 = .ok (.iload 4, 2) := by decide +kernel
theorem dX11_layFar_92 : decode cX11_layFar 92 = .ok (.iaload, 1) := by decide +kernel
theorem dX11_layFar_93 : decode cX11_layFar 93 = .ok (.iadd, 1) := by decide +kernel
theorem dX11_layFar_94 : decode cX11_layFar 94 = .ok (.aload_n 0, 1) := by decide +kernel
theorem dX11_layFar_95 : decode cX11_layFar 95 = .ok (.getfield 45, 3) := by decide +kernel
theorem dX11_layFar_98 : decode cX11_layFar 98 = .ok (.iload 5, 2) := by decide +kernel
theorem dX11_layFar_100 : decode cX11_layFar 100 = .ok (.iaload, 1) := by decide +kernel
theorem dX11_layFar_101 : decode cX11_layFar 101 = .ok (.if_icmp .ge 18, 3) := by decide +kernel
theorem dX11_layFar_104 : decode cX11_layFar 104 = .ok (.aload_n 0, 1) := by decide +kernel
theorem dX11_layFar_105 : decode cX11_layFar 105 = .ok (.getfield 45, 3) := by decide +kernel
theorem dX11_layFar_108 : decode cX11_layFar 108 = .ok (.iload 6, 2) := by decide +kernel
theorem dX11_layFar_110 : decode cX11_layFar 110 = .ok (.iaload, 1) := by decide +kernel
theorem dX11_layFar_111 : decode cX11_layFar 111 = .ok (.aload_n 2, 1) := by decide +kernel
theorem dX11_layFar_112 : decode cX11_layFar 112 = .ok (.iload 4, 2) := by decide +kernel
theorem dX11_layFar_114 : decode cX11_layFar 114 = .ok (.iaload, 1) := by decide +kernel
theorem dX11_layFar_115 : decode cX11_layFar 115 = .ok (.iadd, 1) := by decide +kernel
theorem dX11_layFar_116 : decode cX11_layFar 116 = .ok (.goto 10, 3) := by decide +kernel
theorem dX11_layFar_119 : decode cX11_layFar 119 = .ok (.aload_n 0, 1) := by decide +kernel
theorem dX11_layFar_120 : decode cX11_layFar 120 = .ok (.getfield 45, 3) := by decide +kernel
theorem dX11_layFar_123 : decode cX11_layFar 123 = .ok (.iload 5, 2) := by decide +kernel
theorem dX11_layFar_125 : decode cX11_layFar 125 = .ok (.iaload, 1) := by decide +kernel
theorem dX11_layFar_126 : decode cX11_layFar 126 = .ok (.iastore, 1) := by decide +kernel
theorem dX11_layFar_127 : decode cX11_layFar 127 = .ok (.aload_n 0, 1) := by decide +kernel
theorem dX11_layFar_128 : decode cX11_layFar 128 = .ok (.getfield 45, 3) := by decide +kernel
theorem dX11_layFar_131 : decode cX11_layFar 131 = .ok (.iload 6, 2) := by decide +kernel
theorem dX11_layFar_133 : decode cX11_layFar 133 = .ok (.aload_n 0, 1) := by decide +kernel
theorem dX11_layFar_134 : decode cX11_layFar 134 = .ok (.getfield 45, 3) := by decide +kernel
theorem dX11_layFar_137 : decode cX11_layFar 137 = .ok (.iload 5, 2) := by decide +kernel
theorem dX11_layFar_139 : decode cX11_layFar 139 = .ok (.iaload, 1) := by decide +kernel
theorem dX11_layFar_140 : decode cX11_layFar 140 = .ok (.aload_n 2, 1) := by decide +kernel
theorem dX11_layFar_141 : decode cX11_layFar 141 = .ok (.iload 4, 2) := by decide +kernel
theorem dX11_layFar_143 : decode cX11_layFar 143 = .ok (.iaload, 1) := by decide +kernel
theorem dX11_layFar_144 : decode cX11_layFar 144 = .ok (.iadd, 1) := by decide +kernel
theorem dX11_layFar_145 : decode cX11_layFar 145 = .ok (.aload_n 0, 1) := by decide +kernel
theorem dX11_layFar_146 : decode cX11_layFar 146 = .ok (.getfield 45, 3) := by decide +kernel
theorem dX11_layFar_149 : decode cX11_layFar 149 = .ok (.iload 6, 2) := by decide +kernel
theorem dX11_layFar_151 : decode cX11_layFar 151 = .ok (.iaload, 1) := by decide +kernel
theorem dX11_layFar_152 : decode cX11_layFar 152 = .ok (.if_icmp .ge 18, 3) := by decide +kernel
theorem dX11_layFar_155 : decode cX11_layFar 155 = .ok (.aload_n 0, 1) := by decide +kernel
theorem dX11_layFar_156 : decode cX11_layFar 156 = .ok (.getfield 45, 3) := by decide +kernel
theorem dX11_layFar_159 : decode cX11_layFar 159 = .ok (.iload 5, 2) := by decide +kernel
theorem dX11_layFar_161 : decode cX11_layFar 161 = .ok (.iaload, 1) := by decide +kernel
theorem dX11_layFar_162 : decode cX11_layFar 162 = .ok (.aload_n 2, 1) := by decide +kernel
theorem dX11_layFar_163 : decode cX11_layFar 163 = .ok (.iload 4, 2) := by decide +kernel
theorem dX11_layFar_165 : decode cX11_layFar 165 = .ok (.iaload, 1) := by decide +kernel
theorem dX11_layFar_166 : decode cX11_layFar 166 = .ok (.iadd, 1) := by decide +kernel
theorem dX11_layFar_167 : decode cX11_layFar 167 = .ok (.goto 10, 3) := by decide +kernel
theorem dX11_layFar_170 : decode cX11_layFar 170 = .ok (.aload_n 0, 1) := by decide +kernel
theorem dX11_layFar_171 : decode cX11_layFar 171 = .ok (.getfield 45, 3) := by decide +kernel
theorem dX11_layFar_174 : decode cX11_layFar 174 = .ok (.iload 6, 2) := by decide +kernel
theorem dX11_layFar_176 : decode cX11_layFar 176 = .ok (.iaload, 1) := by decide +kernel
theorem dX11_layFar_177 : decode cX11_layFar 177 = .ok (.iastore, 1) := by decide +kernel
theorem dX11_layFar_178 : decode cX11_layFar 178 = .ok (.iinc 4 1, 3) := by decide +kernel
theorem dX11_layFar_181 : decode cX11_layFar 181 = .ok (.goto (-139), 3) := by decide +kernel
theorem dX11_layFar_184 : decode cX11_layFar 184 = .ok (.iinc 3 1, 3) := by decide +kernel
theorem dX11_layFar_187 : decode cX11_layFar 187 = .ok (.goto (-154), 3) := by decide +kernel
theorem dX11_layFar_190 : decode cX11_layFar 190 = .ok (.return_, 1) := by decide +kernel
set_option maxRecDepth 20000 in
theorem ggX11_way_X11_areTowns : GoodIn wsX11_way wsX11_areTowns := goodIn_r _ [11, 12, 13, 14, 10, 15, 3, 16, 17, 18, 23, 24, 25, 26, 27, 28, 29, 30, 31, 32, 33, 34, 35, 36, 37, 38, 39, 40, 41, 42, 43, 44, 45, 46, 47, 48, 49, 50, 51, 52, 53, 54] rfl (by decide +kernel)
set_option maxRecDepth 20000 in
theorem gX11_way_X11_areTowns : GoodIn wsX11_way (wsV RX11 228 RX11 yX11_areTowns wsX11_areTowns) := goodIn_app (goodIn_of _ (by decide +kernel)) ggX11_way_X11_areTowns
set_option maxRecDepth 20000 in
theorem ggX11_way_X11_layFar : GoodIn wsX11_way wsX11_layFar := goodIn_r _ [22, 5, 6, 3, 23, 24, 25, 26, 27, 28, 29, 30, 31, 32, 33, 34, 35, 36, 37, 38, 39, 40, 41, 42, 43, 44, 45, 46, 47, 48, 49, 50, 51, 52, 53, 54] rfl (by decide +kernel)
set_option maxRecDepth 20000 in
theorem gX11_way_X11_layFar : GoodIn wsX11_way (wsV RX11 231 RX11 yX11_layFar wsX11_layFar) := goodIn_app (goodIn_of _ (by decide +kernel)) ggX11_way_X11_layFar
theorem dX11_way_0 : decode cX11_way 0 = .ok (.aload_n 0, 1) := by decide +kernel
theorem dX11_way_1 : decode cX11_way 1 = .ok (.iload_n 1, 1) := by decide +kernel
theorem dX11_way_2 : decode cX11_way 2 = .ok (.iload_n 2, 1) := by decide +kernel
theorem dX11_way_3 : decode cX11_way 3 = .ok (.invokevirtual 228, 3) := by decide +kernel
theorem dX11_way_6 : decode cX11_way 6 = .ok (.ifCond .ne 6, 3) := by decide +kernel
theorem dX11_way_9 : decode cX11_way 9 = .ok (.ldc 173, 2) := by decide +kernel
theorem dX11_way_11 : decode cX11_way 11 = .ok (.ireturn, 1) := by decide +kernel
theorem dX11_way_12 : decode cX11_way 12 = .ok (.iconst 0, 1) := by decide +kernel
theorem dX11_way_13 : decode cX11_way 13 = .ok (.istore 4, 2) := by decide +kernel
theorem dX11_way_15 : decode cX11_way 15 = .ok (.iload 4, 2) := by decide +kernel
theorem dX11_way_17 : decode cX11_way 17 = .ok (.bipush 9, 2) := by decide +kernel
theorem dX11_way_19 : decode cX11_way 19 = .ok (.if_icmp .ge 26, 3) := by decide +kernel
theorem dX11_way_22 : decode cX11_way 22 = .ok (.aload_n 0, 1) := by decide +kernel
theorem dX11_way_23 : decode cX11_way 23 = .ok (.getfield 48, 3) := by decide +kernel
theorem dX11_way_26 : decode cX11_way 26 = .ok (.iload 4, 2) := by decide +kernel
theorem dX11_way_28 : decode cX11_way 28 = .ok (.aload_n 0, 1) := by decide +kernel
theorem dX11_way_29 : decode cX11_way 29 = .ok (.getfield 7, 3) := by decide +kernel
theorem dX11_way_32 : decode cX11_way 32 = .ok (.bipush 23, 2) := by decide +kernel
theorem dX11_way_34 : decode cX11_way 34 = .ok (.iload 4, 2) := by decide +kernel
theorem dX11_way_36 : decode cX11_way 36 = .ok (.iadd, 1) := by decide +kernel
theorem dX11_way_37 : decode cX11_way 37 = .ok (.iaload, 1) := by decide +kernel
theorem dX11_way_38 : decode cX11_way 38 = .ok (.iastore, 1) := by decide +kernel
theorem dX11_way_39 : decode cX11_way 39 = .ok (.iinc 4 1, 3) := by decide +kernel
theorem dX11_way_42 : decode cX11_way 42 = .ok (.goto (-27), 3) := by decide +kernel
theorem dX11_way_45 : decode cX11_way 45 = .ok (.aload_n 0, 1) := by decide +kernel
theorem dX11_way_46 : decode cX11_way 46 = .ok (.iload_n 1, 1) := by decide +kernel
theorem dX11_way_47 : decode cX11_way 47 = .ok (.iload_n 3, 1) := by decide +kernel
theorem dX11_way_48 : decode cX11_way 48 = .ok (.ifCond .eq 10, 3) := by decide +kernel
theorem dX11_way_51 : decode cX11_way 51 = .ok (.aload_n 0, 1) := by decide +kernel
theorem dX11_way_52 : decode cX11_way 52 = .ok (.getfield 48, 3) := by decide +kernel
theorem dX11_way_55 : decode cX11_way 55 = .ok (.goto 7, 3) := by decide +kernel
theorem dX11_way_58 : decode cX11_way 58 = .ok (.aload_n 0, 1) := by decide +kernel
theorem dX11_way_59 : decode cX11_way 59 = .ok (.getfield 16, 3) := by decide +kernel
theorem dX11_way_62 : decode cX11_way 62 = .ok (.invokevirtual 231, 3) := by decide +kernel
theorem dX11_way_65 : decode cX11_way 65 = .ok (.aload_n 0, 1) := by decide +kernel
theorem dX11_way_66 : decode cX11_way 66 = .ok (.getfield 45, 3) := by decide +kernel
theorem dX11_way_69 : decode cX11_way 69 = .ok (.iload_n 2, 1) := by decide +kernel
theorem dX11_way_70 : decode cX11_way 70 = .ok (.iaload, 1) := by decide +kernel
theorem dX11_way_71 : decode cX11_way 71 = .ok (.ldc 227, 2) := by decide +kernel
theorem dX11_way_73 : decode cX11_way 73 = .ok (.if_icmp .ge 12, 3) := by decide +kernel
theorem dX11_way_76 : decode cX11_way 76 = .ok (.aload_n 0, 1) := by decide +kernel
theorem dX11_way_77 : decode cX11_way 77 = .ok (.getfield 45, 3) := by decide +kernel
theorem dX11_way_80 : decode cX11_way 80 = .ok (.iload_n 2, 1) := by decide +kernel
theorem dX11_way_81 : decode cX11_way 81 = .ok (.iaload, 1) := by decide +kernel
theorem dX11_way_82 : decode cX11_way 82 = .ok (.goto 4, 3) := by decide +kernel
theorem dX11_way_85 : decode cX11_way 85 = .ok (.iconst (-1), 1) := by decide +kernel
theorem dX11_way_86 : decode cX11_way 86 = .ok (.ireturn, 1) := by decide +kernel
set_option maxRecDepth 20000 in
theorem ggX11_layWay_X11_layFar : GoodIn wsX11_layWay wsX11_layFar := goodIn_r _ [10, 2, 3, 5, 15, 16, 17, 18, 19, 20, 21, 22, 23, 24, 25, 26, 27, 28, 29, 30, 31, 32, 33, 34, 35, 36, 37, 38, 39, 40, 41, 42, 43, 44, 45, 46] rfl (by decide +kernel)
set_option maxRecDepth 20000 in
theorem gX11_layWay_X11_layFar : GoodIn wsX11_layWay (wsV RX11 231 RX11 yX11_layFar wsX11_layFar) := goodIn_app (goodIn_of _ (by decide +kernel)) ggX11_layWay_X11_layFar
set_option maxRecDepth 20000 in
theorem ggX11_layWay_X11_otherEnd : GoodIn wsX11_layWay wsX11_otherEnd := goodIn_r _ [14, 5, 15, 16, 17, 18, 19, 20, 21, 22, 23, 24, 25, 26, 27, 28, 29, 30, 31, 32, 33, 34, 35, 36, 37, 38, 39, 40, 41, 42, 43, 44, 45, 46] rfl (by decide +kernel)
set_option maxRecDepth 20000 in
theorem gX11_layWay_X11_otherEnd : GoodIn wsX11_layWay (wsV RX11 238 RX11 yX11_otherEnd wsX11_otherEnd) := goodIn_app (goodIn_of _ (by decide +kernel)) ggX11_layWay_X11_otherEnd
theorem dX11_layWay_0 : decode cX11_layWay 0 = .ok (.aload_n 0, 1) := by decide +kernel
theorem dX11_layWay_1 : decode cX11_layWay 1 = .ok (.iload_n 2, 1) := by decide +kernel
theorem dX11_layWay_2 : decode cX11_layWay 2 = .ok (.aload_n 3, 1) := by decide +kernel
theorem dX11_layWay_3 : decode cX11_layWay 3 = .ok (.invokevirtual 231, 3) := by decide +kernel
theorem dX11_layWay_6 : decode cX11_layWay 6 = .ok (.aload_n 0, 1) := by decide +kernel
theorem dX11_layWay_7 : decode cX11_layWay 7 = .ok (.iconst 0, 1) := by decide +kernel
theorem dX11_layWay_8 : decode cX11_layWay 8 = .ok (.putfield 235, 3) := by decide +kernel
theorem dX11_layWay_11 : decode cX11_layWay 11 = .ok (.aload_n 0, 1) := by decide +kernel
theorem dX11_layWay_12 : decode cX11_layWay 12 = .ok (.getfield 45, 3) := by decide +kernel
theorem dX11_layWay_15 : decode cX11_layWay 15 = .ok (.iload_n 1, 1) := by decide +kernel
theorem dX11_layWay_16 : decode cX11_layWay 16 = .ok (.iaload, 1) := by decide +kernel
theorem dX11_layWay_17 : decode cX11_layWay 17 = .ok (.ldc 227, 2) := by decide +kernel
theorem dX11_layWay_19 : decode cX11_layWay 19 = .ok (.if_icmp .lt 5, 3) := by decide +kernel
theorem dX11_layWay_22 : decode cX11_layWay 22 = .ok (.iconst (-1), 1) := by decide +kernel
theorem dX11_layWay_23 : decode cX11_layWay 23 = .ok (.ireturn, 1) := by decide +kernel
theorem dX11_layWay_24 : decode cX11_layWay 24 = .ok (.iload_n 1, 1) := by decide +kernel
theorem dX11_layWay_25 : decode cX11_layWay 25 = .ok (.istore 4, 2) := by decide +kernel
theorem dX11_layWay_27 : decode cX11_layWay 27 = .ok (.iconst 0, 1) := by decide +kernel
theorem dX11_layWay_28 : decode cX11_layWay 28 = .ok (.istore 5, 2) := by decide +kernel
theorem dX11_layWay_30 : decode cX11_layWay 30 = .ok (.iload 4, 2) := by decide +kernel
theorem dX11_layWay_32 : decode cX11_layWay 32 = .ok (.iload_n 2, 1) := by decide +kernel
theorem dX11_layWay_33 : decode cX11_layWay 33 = .ok (.if_icmp .eq 100, 3) := by decide +kernel
theorem dX11_layWay_36 : decode cX11_layWay 36 = .ok (.iconst 0, 1) := by decide +kernel
theorem dX11_layWay_37 : decode cX11_layWay 37 = .ok (.istore 6, 2) := by decide +kernel
theorem dX11_layWay_39 : decode cX11_layWay 39 = .ok (.aload_n 0, 1) := by decide +kernel
theorem dX11_layWay_40 : decode cX11_layWay 40 = .ok (.iload 6, 2) := by decide +kernel
theorem dX11_layWay_42 : decode cX11_layWay 42 = .ok (.iload 4, 2) := by decide +kernel
theorem dX11_layWay_44 : decode cX11_layWay 44 = .ok (.invokevirtual 238, 3) := by decide +kernel
theorem dX11_layWay_47 : decode cX11_layWay 47 = .ok (.ifCond .lt 31, 3) := by decide +kernel
theorem dX11_layWay_50 : decode cX11_layWay 50 = .ok (.aload_n 0, 1) := by decide +kernel
theorem dX11_layWay_51 : decode cX11_layWay 51 = .ok (.getfield 45, 3) := by decide +kernel
theorem dX11_layWay_54 : decode cX11_layWay 54 = .ok (.aload_n 0, 1) := by decide +kernel
theorem dX11_layWay_55 : decode cX11_layWay 55 = .ok (.iload 6, 2) := by decide +kernel
theorem dX11_layWay_57 : decode cX11_layWay 57 = .ok (.iload 4, 2) := by decide +kernel
theorem dX11_layWay_59 : decode cX11_layWay 59 = .ok (.invokevirtual 238, 3) := by decide +kernel
theorem dX11_layWay_62 : decode cX11_layWay 62 = .ok (.iaload, 1) := by decide +kernel
theorem dX11_layWay_63 : decode cX11_layWay 63 = .ok (.aload_n 3, 1) := by decide +kernel
theorem dX11_layWay_64 : decode cX11_layWay 64 = .ok (.iload 6, 2) := by decide +kernel
theorem dX11_layWay_66 : decode cX11_layWay 66 = .ok (.iaload, 1) := by decide +kernel
theorem dX11_layWay_67 : decode cX11_layWay 67 = .ok (.iadd, 1) := by decide +kernel
theorem dX11_layWay_68 : decode cX11_layWay 68 = .ok (.aload_n 0, 1) := by decide +kernel
theorem dX11_layWay_69 : decode cX11_layWay 69 = .ok (.getfield 45, 3) := by decide +kernel
theorem dX11_layWay_72 : decode cX11_layWay 72 = .ok (.iload 4, 2) := by decide +kernel
theorem dX11_layWay_74 : decode cX11_layWay 74 = .ok (.iaload, 1) := by decide +kernel
theorem dX11_layWay_75 : decode cX11_layWay 75 = .ok (.if_icmp .eq 9, 3) := by decide +kernel
theorem dX11_layWay_78 : decode cX11_layWay 78 = .ok (.iinc 6 1, 3) := by decide +kernel
theorem dX11_layWay_81 : decode cX11_layWay 81 = .ok (.goto (-42), 3) := by decide +kernel
theorem dX11_layWay_84 : decode cX11_layWay 84 = .ok (.aload_n 0, 1) := by decide +kernel
theorem dX11_layWay_85 : decode cX11_layWay 85 = .ok (.getfield 51, 3) := by decide +kernel
theorem dX11_layWay_88 : decode cX11_layWay 88 = .ok (.aload_n 0, 1) := by decide +kernel
theorem dX11_layWay_89 : decode cX11_layWay 89 = .ok (.getfield 235, 3) := by decide +kernel
theorem dX11_layWay_92 : decode cX11_layWay 92 = .ok (.iload 6, 2) := by decide +kernel
theorem dX11_layWay_94 : decode cX11_layWay 94 = .ok (.iastore, 1) := by decide +kernel
theorem dX11_layWay_95 : decode cX11_layWay 95 = .ok (.aload_n 0, 1) := by decide +kernel
theorem dX11_layWay_96 : decode cX11_layWay 96 = .ok (.dup, 1) := by decide +kernel
theorem dX11_layWay_97 : decode cX11_layWay 97 = .ok (.getfield 235, 3) := by decide +kernel
theorem dX11_layWay_100 : decode cX11_layWay 100 = .ok (.iconst 1, 1) := by decide +kernel
theorem dX11_layWay_101 : decode cX11_layWay 101 = .ok (.iadd, 1) := by decide +kernel
theorem dX11_layWay_102 : decode cX11_layWay 102 = .ok (.putfield 235, 3) := by decide +kernel
theorem dX11_layWay_105 : decode cX11_layWay 105 = .ok (.iload 5, 2) := by decide +kernel
theorem dX11_layWay_107 : decode cX11_layWay 107 = .ok (.aload_n 0, 1) := by decide +kernel
theorem dX11_layWay_108 : decode cX11_layWay 108 = .ok (.getfield 7, 3) := by decide +kernel
theorem dX11_layWay_111 : decode cX11_layWay 111 = .ok (.bipush 23, 2) := by decide +kernel
theorem dX11_layWay_113 : decode cX11_layWay 113 = .ok (.iload 6, 2) := by decide +kernel
theorem dX11_layWay_115 : decode cX11_layWay 115 = .ok (.iadd, 1) := by decide +kernel
theorem dX11_layWay_116 : decode cX11_layWay 116 = .ok (.iaload, 1) := by decide +kernel
theorem dX11_layWay_117 : decode cX11_layWay 117 = .ok (.iadd, 1) := by decide +kernel
theorem dX11_layWay_118 : decode cX11_layWay 118 = .ok (.istore 5, 2) := by decide +kernel
theorem dX11_layWay_120 : decode cX11_layWay 120 = .ok (.aload_n 0, 1) := by decide +kernel
theorem dX11_layWay_121 : decode cX11_layWay 121 = .ok (.iload 6, 2) := by decide +kernel
theorem dX11_layWay_123 : decode cX11_layWay 123 = .ok (.iload 4, 2) := by decide +kernel
theorem dX11_layWay_125 : decode cX11_layWay 125 = .ok (.invokevirtual 238, 3) := by decide +kernel
theorem dX11_layWay_128 : decode cX11_layWay 128 = .ok (.istore 4, 2) := by decide +kernel
theorem dX11_layWay_130 : decode cX11_layWay 130 = .ok (.goto (-100), 3) := by decide +kernel
theorem dX11_layWay_133 : decode cX11_layWay 133 = .ok (.iload 5, 2) := by decide +kernel
theorem dX11_layWay_135 : decode cX11_layWay 135 = .ok (.ireturn, 1) := by decide +kernel
set_option maxRecDepth 20000 in
theorem ggX11_truly_X11_areTowns : GoodIn wsX11_truly wsX11_areTowns := goodIn_r _ [9, 10, 11, 12, 8, 13, 14, 15, 16, 17, 32, 33, 34, 35, 36, 37, 38, 39, 40, 41, 42, 43, 44, 45, 46, 47, 48, 49, 50, 51, 52, 53, 54, 55, 56, 57, 58, 59, 60, 61, 62, 63] rfl (by decide +kernel)
set_option maxRecDepth 20000 in
theorem gX11_truly_X11_areTowns : GoodIn wsX11_truly (wsV RX11 228 RX11 yX11_areTowns wsX11_areTowns) := goodIn_app (goodIn_of _ (by decide +kernel)) ggX11_truly_X11_areTowns
set_option maxRecDepth 20000 in
theorem ggX11_truly_X11_layWay : GoodIn wsX11_truly wsX11_layWay := goodIn_r _ [21, 3, 22, 23, 4, 14, 24, 25, 26, 8, 27, 28, 29, 30, 31, 32, 33, 34, 35, 36, 37, 38, 39, 40, 41, 42, 43, 44, 45, 46, 47, 48, 49, 50, 51, 52, 53, 54, 55, 56, 57, 58, 59, 60, 61, 62, 63] rfl (by decide +kernel)
set_option maxRecDepth 20000 in
theorem gX11_truly_X11_layWay : GoodIn wsX11_truly (wsV RX11 242 RX11 yX11_layWay wsX11_layWay) := goodIn_app (goodIn_of _ (by decide +kernel)) ggX11_truly_X11_layWay
set_option maxRecDepth 20000 in
theorem ggX11_truly_X11_in : GoodIn wsX11_truly wsX11_in := goodIn_r _ [17] rfl (by decide +kernel)
set_option maxRecDepth 20000 in
theorem gX11_truly_X11_in : GoodIn wsX11_truly (va_wsS RX11 83 yX11_in wsX11_in) := goodIn_app (goodIn_of _ (by decide +kernel)) ggX11_truly_X11_in
theorem dX11_truly_0 : decode cX11_truly 0 = .ok (.aload_n 0, 1) := by decide +kernel
theorem dX11_truly_1 : decode cX11_truly 1 = .ok (.iload_n 1, 1) := by decide +kernel
theorem dX11_truly_2 : decode cX11_truly 2 = .ok (.iload_n 2, 1) := by decide +kernel
theorem dX11_truly_3 : decode cX11_truly 3 = .ok (.invokevirtual 228, 3) := by decide +kernel
theorem dX11_truly_6 : decode cX11_truly 6 = .ok (.ifCond .ne 6, 3) := by decide +kernel
theorem dX11_truly_9 : decode cX11_truly 9 = .ok (.ldc 173, 2) := by decide +kernel
theorem dX11_truly_11 : decode cX11_truly 11 = .ok (.ireturn, 1) := by decide +kernel
theorem dX11_truly_12 : decode cX11_truly 12 = .ok (.aload_n 0, 1) := by decide +kernel
theorem dX11_truly_13 : decode cX11_truly 13 = .ok (.iload_n 1, 1) := by decide +kernel
theorem dX11_truly_14 : decode cX11_truly 14 = .ok (.iload_n 2, 1) := by decide +kernel
theorem dX11_truly_15 : decode cX11_truly 15 = .ok (.aload_n 0, 1) := by decide +kernel
theorem dX11_truly_16 : decode cX11_truly 16 = .ok (.getfield 16, 3) := by decide +kernel
theorem dX11_truly_19 : decode cX11_truly 19 = .ok (.invokevirtual 242, 3) := by decide +kernel
theorem dX11_truly_22 : decode cX11_truly 22 = .ok (.istore 4, 2) := by decide +kernel
theorem dX11_truly_24 : decode cX11_truly 24 = .ok (.iload_n 3, 1) := by decide +kernel
theorem dX11_truly_25 : decode cX11_truly 25 = .ok (.iconst (-1), 1) := by decide +kernel
theorem dX11_truly_26 : decode cX11_truly 26 = .ok (.if_icmp .ne 8, 3) := by decide +kernel
theorem dX11_truly_29 : decode cX11_truly 29 = .ok (.iload 4, 2) := by decide +kernel
theorem dX11_truly_31 : decode cX11_truly 31 = .ok (.goto 29, 3) := by decide +kernel
theorem dX11_truly_34 : decode cX11_truly 34 = .ok (.iload_n 3, 1) := by decide +kernel
theorem dX11_truly_35 : decode cX11_truly 35 = .ok (.i2l, 1) := by decide +kernel
theorem dX11_truly_36 : decode cX11_truly 36 = .ok (.lconst 0, 1) := by decide +kernel
theorem dX11_truly_37 : decode cX11_truly 37 = .ok (.aload_n 0, 1) := by decide +kernel
theorem dX11_truly_38 : decode cX11_truly 38 = .ok (.getfield 235, 3) := by decide +kernel
theorem dX11_truly_41 : decode cX11_truly 41 = .ok (.iconst 1, 1) := by decide +kernel
theorem dX11_truly_42 : decode cX11_truly 42 = .ok (.isub, 1) := by decide +kernel
theorem dX11_truly_43 : decode cX11_truly 43 = .ok (.i2l, 1) := by decide +kernel
theorem dX11_truly_44 : decode cX11_truly 44 = .ok (.invokestatic 83, 3) := by decide +kernel
theorem dX11_truly_47 : decode cX11_truly 47 = .ok (.ifCond .eq 12, 3) := by decide +kernel
theorem dX11_truly_50 : decode cX11_truly 50 = .ok (.aload_n 0, 1) := by decide +kernel
theorem dX11_truly_51 : decode cX11_truly 51 = .ok (.getfield 51, 3) := by decide +kernel
theorem dX11_truly_54 : decode cX11_truly 54 = .ok (.iload_n 3, 1) := by decide +kernel
theorem dX11_truly_55 : decode cX11_truly 55 = .ok (.iaload, 1) := by decide +kernel
theorem dX11_truly_56 : decode cX11_truly 56 = .ok (.goto 4, 3) := by decide +kernel
theorem dX11_truly_59 : decode cX11_truly 59 = .ok (.iconst (-1), 1) := by decide +kernel
theorem dX11_truly_60 : decode cX11_truly 60 = .ok (.ireturn, 1) := by decide +kernel
set_option maxRecDepth 20000 in
theorem ggX11_milesBetween_X11_otherEnd : GoodIn wsX11_milesBetween wsX11_otherEnd := goodIn_r _ [7, 1, 8, 9, 10, 11, 12, 13, 14, 15, 16, 17, 18, 19, 20, 21, 22, 23, 24, 25, 26, 27, 28, 29, 30, 31, 32, 33, 34, 35, 36, 37, 38, 39] rfl (by decide +kernel)
set_option maxRecDepth 20000 in
theorem gX11_milesBetween_X11_otherEnd : GoodIn wsX11_milesBetween (wsV RX11 238 RX11 yX11_otherEnd wsX11_otherEnd) := goodIn_app (goodIn_of _ (by decide +kernel)) ggX11_milesBetween_X11_otherEnd
theorem dX11_milesBetween_0 : decode cX11_milesBetween 0 = .ok (.iconst 0, 1) := by decide +kernel
theorem dX11_milesBetween_1 : decode cX11_milesBetween 1 = .ok (.istore_n 3, 1) := by decide +kernel
theorem dX11_milesBetween_2 : decode cX11_milesBetween 2 = .ok (.iconst 0, 1) := by decide +kernel
theorem dX11_milesBetween_3 : decode cX11_milesBetween 3 = .ok (.istore 4, 2) := by decide +kernel
theorem dX11_milesBetween_5 : decode cX11_milesBetween 5 = .ok (.iload 4, 2) := by decide +kernel
theorem dX11_milesBetween_7 : decode cX11_milesBetween 7 = .ok (.aload_n 0, 1) := by decide +kernel
theorem dX11_milesBetween_8 : decode cX11_milesBetween 8 = .ok (.getfield 7, 3) := by decide +kernel
theorem dX11_milesBetween_11 : decode cX11_milesBetween 11 = .ok (.iconst 3, 1) := by decide +kernel
theorem dX11_milesBetween_12 : decode cX11_milesBetween 12 = .ok (.iaload, 1) := by decide +kernel
theorem dX11_milesBetween_13 : decode cX11_milesBetween 13 = .ok (.if_icmp .ge 32, 3) := by decide +kernel
theorem dX11_milesBetween_16 : decode cX11_milesBetween 16 = .ok (.aload_n 0, 1) := by decide +kernel
theorem dX11_milesBetween_17 : decode cX11_milesBetween 17 = .ok (.iload 4, 2) := by decide +kernel
theorem dX11_milesBetween_19 : decode cX11_milesBetween 19 = .ok (.iload_n 1, 1) := by decide +kernel
theorem dX11_milesBetween_20 : decode cX11_milesBetween 20 = .ok (.invokevirtual 238, 3) := by decide +kernel
theorem dX11_milesBetween_23 : decode cX11_milesBetween 23 = .ok (.iload_n 2, 1) := by decide +kernel
theorem dX11_milesBetween_24 : decode cX11_milesBetween 24 = .ok (.if_icmp .ne 13, 3) := by decide +kernel
theorem dX11_milesBetween_27 : decode cX11_milesBetween 27 = .ok (.aload_n 0, 1) := by decide +kernel
theorem dX11_milesBetween_28 : decode cX11_milesBetween 28 = .ok (.getfield 16, 3) := by decide +kernel
theorem dX11_milesBetween_31 : decode cX11_milesBetween 31 = .ok (.iload 4, 2) := by decide +kernel
theorem dX11_milesBetween_33 : decode cX11_milesBetween 33 = .ok (.iaload, 1) := by decide +kernel
theorem dX11_milesBetween_34 : decode cX11_milesBetween 34 = .ok (.goto 4, 3) := by decide +kernel
theorem dX11_milesBetween_37 : decode cX11_milesBetween 37 = .ok (.iload_n 3, 1) := by decide +kernel
theorem dX11_milesBetween_38 : decode cX11_milesBetween 38 = .ok (.istore_n 3, 1) := by decide +kernel
theorem dX11_milesBetween_39 : decode cX11_milesBetween 39 = .ok (.iinc 4 1, 3) := by decide +kernel
theorem dX11_milesBetween_42 : decode cX11_milesBetween 42 = .ok (.goto (-37), 3) := by decide +kernel
theorem dX11_milesBetween_45 : decode cX11_milesBetween 45 = .ok (.iload_n 3, 1) := by decide +kernel
theorem dX11_milesBetween_46 : decode cX11_milesBetween 46 = .ok (.ireturn, 1) := by decide +kernel
set_option maxRecDepth 20000 in
theorem ggX11_adds_X11_milesBetween : GoodIn wsX11_adds wsX11_milesBetween := goodIn_r _ [6, 1, 7, 8, 9, 10, 5, 11, 12, 13, 14, 15, 16, 17, 18, 19, 20, 21, 22, 23, 24, 25, 26, 27, 28, 29, 30, 31, 32, 33, 34, 35, 36, 37, 38, 39, 40, 41, 42, 43] rfl (by decide +kernel)
set_option maxRecDepth 20000 in
theorem gX11_adds_X11_milesBetween : GoodIn wsX11_adds (wsV RX11 246 RX11 yX11_milesBetween wsX11_milesBetween) := goodIn_app (goodIn_of _ (by decide +kernel)) ggX11_adds_X11_milesBetween
theorem dX11_adds_0 : decode cX11_adds 0 = .ok (.iconst 0, 1) := by decide +kernel
theorem dX11_adds_1 : decode cX11_adds 1 = .ok (.istore_n 1, 1) := by decide +kernel
theorem dX11_adds_2 : decode cX11_adds 2 = .ok (.iload_n 1, 1) := by decide +kernel
theorem dX11_adds_3 : decode cX11_adds 3 = .ok (.aload_n 0, 1) := by decide +kernel
theorem dX11_adds_4 : decode cX11_adds 4 = .ok (.getfield 7, 3) := by decide +kernel
theorem dX11_adds_7 : decode cX11_adds 7 = .ok (.iconst 0, 1) := by decide +kernel
theorem dX11_adds_8 : decode cX11_adds 8 = .ok (.iaload, 1) := by decide +kernel
theorem dX11_adds_9 : decode cX11_adds 9 = .ok (.if_icmp .ge 142, 3) := by decide +kernel
theorem dX11_adds_12 : decode cX11_adds 12 = .ok (.iload_n 1, 1) := by decide +kernel
theorem dX11_adds_13 : decode cX11_adds 13 = .ok (.iconst 1, 1) := by decide +kernel
theorem dX11_adds_14 : decode cX11_adds 14 = .ok (.iadd, 1) := by decide +kernel
theorem dX11_adds_15 : decode cX11_adds 15 = .ok (.istore_n 2, 1) := by decide +kernel
theorem dX11_adds_16 : decode cX11_adds 16 = .ok (.iload_n 2, 1) := by decide +kernel
theorem dX11_adds_17 : decode cX11_adds 17 = .ok (.aload_n 0, 1) := by decide +kernel
theorem dX11_adds_18 : decode cX11_adds 18 = .ok (.getfield 7, 3) := by decide +kernel
theorem dX11_adds_21 : decode cX11_adds 21 = .ok (.iconst 0, 1) := by decide +kernel
theorem dX11_adds_22 : decode cX11_adds 22 = .ok (.iaload, 1) := by decide +kernel
theorem dX11_adds_23 : decode cX11_adds 23 = .ok (.if_icmp .ge 122, 3) := by decide +kernel
theorem dX11_adds_26 : decode cX11_adds 26 = .ok (.iload_n 2, 1) := by decide +kernel
theorem dX11_adds_27 : decode cX11_adds 27 = .ok (.iconst 1, 1) := by decide +kernel
theorem dX11_adds_28 : decode cX11_adds 28 = .ok (.iadd, 1) := by decide +kernel
theorem dX11_adds_29 : decode cX11_adds 29 = .ok (.istore_n 3, 1) := by decide +kernel
theorem dX11_adds_30 : decode cX11_adds 30 = .ok (.iload_n 3, 1) := by decide +kernel
theorem dX11_adds_31 : decode cX11_adds 31 = .ok (.aload_n 0, 1) := by decide +kernel
theorem dX11_adds_32 : decode cX11_adds 32 = .ok (.getfield 7, 3) := by decide +kernel
theorem dX11_adds_35 : decode cX11_adds 35 = .ok (.iconst 0, 1) := by decide +kernel
theorem dX11_adds_36 : decode cX11_adds 36 = .ok (.iaload, 1) := by decide +kernel
theorem dX11_adds_37 : decode cX11_adds 37 = .ok (.if_icmp .ge 102, 3) := by decide +kernel
theorem dX11_adds_40 : decode cX11_adds 40 = .ok (.aload_n 0, 1) := by decide +kernel
theorem dX11_adds_41 : decode cX11_adds 41 = .ok (.iload_n 1, 1) := by decide +kernel
theorem dX11_adds_42 : decode cX11_adds 42 = .ok (.iload_n 2, 1) := by decide +kernel
theorem dX11_adds_43 : decode cX11_adds 43 = .ok (.invokevirtual 246, 3) := by decide +kernel
theorem dX11_adds_46 : decode cX11_adds 46 = .ok (.istore 4, 2) := by decide +kernel
theorem dX11_adds_48 : decode cX11_adds 48 = .ok (.aload_n 0, 1) := by decide +kernel
theorem dX11_adds_49 : decode cX11_adds 49 = .ok (.iload_n 2, 1) := by decide +kernel
theorem dX11_adds_50 : decode cX11_adds 50 = .ok (.iload_n 3, 1) := by decide +kernel
theorem dX11_adds_51 : decode cX11_adds 51 = .ok (.invokevirtual 246, 3) := by decide +kernel
theorem dX11_adds_54 : decode cX11_adds 54 = .ok (.istore 5, 2) := by decide +kernel
theorem dX11_adds_56 : decode cX11_adds 56 = .ok (.aload_n 0, 1) := by decide +kernel
theorem dX11_adds_57 : decode cX11_adds 57 = .ok (.iload_n 1, 1) := by decide +kernel
theorem dX11_adds_58 : decode cX11_adds 58 = .ok (.iload_n 3, 1) := by decide +kernel
theorem dX11_adds_59 : decode cX11_adds 59 = .ok (.invokevirtual 246, 3) := by decide +kernel
theorem dX11_adds_62 : decode cX11_adds 62 = .ok (.istore 6, 2) := by decide +kernel
theorem dX11_adds_64 : decode cX11_adds 64 = .ok (.iload 4, 2) := by decide +kernel
theorem dX11_adds_66 : decode cX11_adds 66 = .ok (.ifCond .le 17, 3) := by decide +kernel
theorem dX11_adds_69 : decode cX11_adds 69 = .ok (.iload 5, 2) := by decide +kernel
theorem dX11_adds_71 : decode cX11_adds 71 = .ok (.ifCond .le 12, 3) := by decide +kernel
theorem dX11_adds_74 : decode cX11_adds 74 = .ok (.iload 6, 2) := by decide +kernel
theorem dX11_adds_76 : decode cX11_adds 76 = .ok (.ifCond .le 7, 3) := by decide +kernel
theorem dX11_adds_79 : decode cX11_adds 79 = .ok (.iconst 1, 1) := by decide +kernel
theorem dX11_adds_80 : decode cX11_adds 80 = .ok (.goto 4, 3) := by decide +kernel
theorem dX11_adds_83 : decode cX11_adds 83 = .ok (.iconst 0, 1) := by decide +kernel
theorem dX11_adds_84 : decode cX11_adds 84 = .ok (.istore 7, 2) := by decide +kernel
theorem dX11_adds_86 : decode cX11_adds 86 = .ok (.iload 7, 2) := by decide +kernel
theorem dX11_adds_88 : decode cX11_adds 88 = .ok (.ifCond .eq 45, 3) := by decide +kernel
theorem dX11_adds_91 : decode cX11_adds 91 = .ok (.iload 4, 2) := by decide +kernel
theorem dX11_adds_93 : decode cX11_adds 93 = .ok (.iload 5, 2) := by decide +kernel
theorem dX11_adds_95 : decode cX11_adds 95 = .ok (.iload 6, 2) := by decide +kernel
theorem dX11_adds_97 : decode cX11_adds 97 = .ok (.iadd, 1) := by decide +kernel
theorem dX11_adds_98 : decode cX11_adds 98 = .ok (.if_icmp .gt 23, 3) := by decide +kernel
theorem dX11_adds_101 : decode cX11_adds 101 = .ok (.iload 5, 2) := by decide +kernel
theorem dX11_adds_103 : decode cX11_adds 103 = .ok (.iload 4, 2) := by decide +kernel
theorem dX11_adds_105 : decode cX11_adds 105 = .ok (.iload 6, 2) := by decide +kernel
theorem dX11_adds_107 : decode cX11_adds 107 = .ok (.iadd, 1) := by decide +kernel
theorem dX11_adds_108 : decode cX11_adds 108 = .ok (.if_icmp .gt 13, 3) := by decide +kernel
theorem dX11_adds_111 : decode cX11_adds 111 = .ok (.iload 6, 2) := by decide +kernel
theorem dX11_adds_113 : decode cX11_adds 113 = .ok (.iload 4, 2) := by decide +kernel
theorem dX11_adds_115 : decode cX11_adds 115 = .ok (.iload 5, 2) := by decide +kernel
theorem dX11_adds_117 : decode cX11_adds 117 = .ok (.iadd, 1) := by decide +kernel
theorem dX11_adds_118 : decode cX11_adds 118 = .ok (.if_icmp .le 15, 3) := by decide +kernel
theorem dX11_adds_121 : decode cX11_adds 121 = .ok (.bipush 100, 2) := by decide +kernel
theorem dX11_adds_123 : decode cX11_adds 123 = .ok (.iload_n 1, 1) := by decide +kernel
theorem dX11_adds_124 : decode cX11_adds 124 = .ok (.imul, 1) := by decide +kernel
theorem dX11_adds_125 : decode cX11_adds 125 = .ok (.bipush 10, 2) := by decide +kernel
theorem dX11_adds_127 : decode cX11_adds 127 = .ok (.iload_n 2, 1) := by decide +kernel
theorem dX11_adds_128 : decode cX11_adds 128 = .ok (.imul, 1) := by decide +kernel
theorem dX11_adds_129 : decode cX11_adds 129 = .ok (.iadd, 1) := by decide +kernel
theorem dX11_adds_130 : decode cX11_adds 130 = .ok (.iload_n 3, 1) := by decide +kernel
theorem dX11_adds_131 : decode cX11_adds 131 = .ok (.iadd, 1) := by decide +kernel
theorem dX11_adds_132 : decode cX11_adds 132 = .ok (.ireturn, 1) := by decide +kernel
theorem dX11_adds_133 : decode cX11_adds 133 = .ok (.iinc 3 1, 3) := by decide +kernel
theorem dX11_adds_136 : decode cX11_adds 136 = .ok (.goto (-106), 3) := by decide +kernel
theorem dX11_adds_139 : decode cX11_adds 139 = .ok (.iinc 2 1, 3) := by decide +kernel
theorem dX11_adds_142 : decode cX11_adds 142 = .ok (.goto (-126), 3) := by decide +kernel
theorem dX11_adds_145 : decode cX11_adds 145 = .ok (.iinc 1 1, 3) := by decide +kernel
theorem dX11_adds_148 : decode cX11_adds 148 = .ok (.goto (-146), 3) := by decide +kernel
theorem dX11_adds_151 : decode cX11_adds 151 = .ok (.iconst (-1), 1) := by decide +kernel
theorem dX11_adds_152 : decode cX11_adds 152 = .ok (.ireturn, 1) := by decide +kernel
set_option maxRecDepth 20000 in
theorem ggX11_isMended_X11_in : GoodIn wsX11_isMended wsX11_in := goodIn_r _ [9] rfl (by decide +kernel)
set_option maxRecDepth 20000 in
theorem gX11_isMended_X11_in : GoodIn wsX11_isMended (va_wsS RX11 83 yX11_in wsX11_in) := goodIn_app (goodIn_of _ (by decide +kernel)) ggX11_isMended_X11_in
set_option maxRecDepth 20000 in
theorem ggX11_isMended_X11_holding : GoodIn wsX11_isMended wsX11_holding := goodIn_r _ [13, 1, 14, 15, 16, 8, 17, 18, 19, 20, 21, 22, 23, 24, 29, 30, 31, 32, 33, 34, 35, 36, 37, 38, 39, 40, 41, 42, 43, 44, 45, 46, 47, 48, 49, 50, 51, 52, 53, 54, 55, 56, 57, 58, 59, 60] rfl (by decide +kernel)
set_option maxRecDepth 20000 in
theorem gX11_isMended_X11_holding : GoodIn wsX11_isMended (wsV RX11 163 RX11 yX11_holding wsX11_holding) := goodIn_app (goodIn_of _ (by decide +kernel)) ggX11_isMended_X11_holding
set_option maxRecDepth 20000 in
theorem ggX11_isMended_X11_allTreaties : GoodIn wsX11_isMended wsX11_allTreaties := goodIn_r _ [28, 1, 29, 30, 31, 32, 33, 34, 35, 36, 37, 38, 39, 40, 41, 42, 43, 44, 45, 46, 47, 48, 49, 50, 51, 52, 53, 54, 55, 56, 57, 58, 59, 60] rfl (by decide +kernel)
set_option maxRecDepth 20000 in
theorem gX11_isMended_X11_allTreaties : GoodIn wsX11_isMended (wsV RX11 197 RX11 yX11_allTreaties wsX11_allTreaties) := goodIn_app (goodIn_of _ (by decide +kernel)) ggX11_isMended_X11_allTreaties
theorem dX11_isMended_0 : decode cX11_isMended 0 = .ok (.iconst 1, 1) := by decide +kernel
theorem dX11_isMended_1 : decode cX11_isMended 1 = .ok (.istore_n 1, 1) := by decide +kernel
theorem dX11_isMended_2 : decode cX11_isMended 2 = .ok (.iconst 0, 1) := by decide +kernel
theorem dX11_isMended_3 : decode cX11_isMended 3 = .ok (.istore_n 2, 1) := by decide +kernel
theorem dX11_isMended_4 : decode cX11_isMended 4 = .ok (.iload_n 2, 1) := by decide +kernel
theorem dX11_isMended_5 : decode cX11_isMended 5 = .ok (.aload_n 0, 1) := by decide +kernel
theorem dX11_isMended_6 : decode cX11_isMended 6 = .ok (.getfield 7, 3) := by decide +kernel
theorem dX11_isMended_9 : decode cX11_isMended 9 = .ok (.iconst 3, 1) := by decide +kernel
theorem dX11_isMended_10 : decode cX11_isMended 10 = .ok (.iaload, 1) := by decide +kernel
theorem dX11_isMended_11 : decode cX11_isMended 11 = .ok (.if_icmp .ge 55, 3) := by decide +kernel
theorem dX11_isMended_14 : decode cX11_isMended 14 = .ok (.aload_n 0, 1) := by decide +kernel
theorem dX11_isMended_15 : decode cX11_isMended 15 = .ok (.getfield 54, 3) := by decide +kernel
theorem dX11_isMended_18 : decode cX11_isMended 18 = .ok (.iload_n 2, 1) := by decide +kernel
theorem dX11_isMended_19 : decode cX11_isMended 19 = .ok (.aload_n 0, 1) := by decide +kernel
theorem dX11_isMended_20 : decode cX11_isMended 20 = .ok (.getfield 16, 3) := by decide +kernel
theorem dX11_isMended_23 : decode cX11_isMended 23 = .ok (.iload_n 2, 1) := by decide +kernel
theorem dX11_isMended_24 : decode cX11_isMended 24 = .ok (.iaload, 1) := by decide +kernel
theorem dX11_isMended_25 : decode cX11_isMended 25 = .ok (.aload_n 0, 1) := by decide +kernel
theorem dX11_isMended_26 : decode cX11_isMended 26 = .ok (.getfield 57, 3) := by decide +kernel
theorem dX11_isMended_29 : decode cX11_isMended 29 = .ok (.iload_n 2, 1) := by decide +kernel
theorem dX11_isMended_30 : decode cX11_isMended 30 = .ok (.iaload, 1) := by decide +kernel
theorem dX11_isMended_31 : decode cX11_isMended 31 = .ok (.iadd, 1) := by decide +kernel
theorem dX11_isMended_32 : decode cX11_isMended 32 = .ok (.iastore, 1) := by decide +kernel
theorem dX11_isMended_33 : decode cX11_isMended 33 = .ok (.iload_n 1, 1) := by decide +kernel
theorem dX11_isMended_34 : decode cX11_isMended 34 = .ok (.ifCond .eq 24, 3) := by decide +kernel
theorem dX11_isMended_37 : decode cX11_isMended 37 = .ok (.aload_n 0, 1) := by decide +kernel
theorem dX11_isMended_38 : decode cX11_isMended 38 = .ok (.getfield 54, 3) := by decide +kernel
theorem dX11_isMended_41 : decode cX11_isMended 41 = .ok (.iload_n 2, 1) := by decide +kernel
theorem dX11_isMended_42 : decode cX11_isMended 42 = .ok (.iaload, 1) := by decide +kernel
theorem dX11_isMended_43 : decode cX11_isMended 43 = .ok (.i2l, 1) := by decide +kernel
theorem dX11_isMended_44 : decode cX11_isMended 44 = .ok (.lconst 1, 1) := by decide +kernel
theorem dX11_isMended_45 : decode cX11_isMended 45 = .ok (.ldc2_w 184, 3) := by decide +kernel
theorem dX11_isMended_48 : decode cX11_isMended 48 = .ok (.invokestatic 83, 3) := by decide +kernel
theorem dX11_isMended_51 : decode cX11_isMended 51 = .ok (.ifCond .eq 7, 3) := by decide +kernel
theorem dX11_isMended_54 : decode cX11_isMended 54 = .ok (.iconst 1, 1) := by decide +kernel
theorem dX11_isMended_55 : decode cX11_isMended 55 = .ok (.goto 4, 3) := by decide +kernel
theorem dX11_isMended_58 : decode cX11_isMended 58 = .ok (.iconst 0, 1) := by decide +kernel
theorem dX11_isMended_59 : decode cX11_isMended 59 = .ok (.istore_n 1, 1) := by decide +kernel
theorem dX11_isMended_60 : decode cX11_isMended 60 = .ok (.iinc 2 1, 3) := by decide +kernel
theorem dX11_isMended_63 : decode cX11_isMended 63 = .ok (.goto (-59), 3) := by decide +kernel
theorem dX11_isMended_66 : decode cX11_isMended 66 = .ok (.iload_n 1, 1) := by decide +kernel
theorem dX11_isMended_67 : decode cX11_isMended 67 = .ok (.ifCond .eq 22, 3) := by decide +kernel
theorem dX11_isMended_70 : decode cX11_isMended 70 = .ok (.aload_n 0, 1) := by decide +kernel
theorem dX11_isMended_71 : decode cX11_isMended 71 = .ok (.aload_n 0, 1) := by decide +kernel
theorem dX11_isMended_72 : decode cX11_isMended 72 = .ok (.getfield 54, 3) := by decide +kernel
theorem dX11_isMended_75 : decode cX11_isMended 75 = .ok (.invokevirtual 163, 3) := by decide +kernel
theorem dX11_isMended_78 : decode cX11_isMended 78 = .ok (.aload_n 0, 1) := by decide +kernel
theorem dX11_isMended_79 : decode cX11_isMended 79 = .ok (.invokevirtual 197, 3) := by decide +kernel
theorem dX11_isMended_82 : decode cX11_isMended 82 = .ok (.if_icmp .ne 7, 3) := by decide +kernel
theorem dX11_isMended_85 : decode cX11_isMended 85 = .ok (.iconst 1, 1) := by decide +kernel
theorem dX11_isMended_86 : decode cX11_isMended 86 = .ok (.goto 4, 3) := by decide +kernel
theorem dX11_isMended_89 : decode cX11_isMended 89 = .ok (.iconst 0, 1) := by decide +kernel
theorem dX11_isMended_90 : decode cX11_isMended 90 = .ok (.ireturn, 1) := by decide +kernel
set_option maxRecDepth 20000 in
theorem ggX11_findsMend_X11_isMended : GoodIn wsX11_findsMend wsX11_isMended := goodIn_r _ [8, 1, 9, 10, 3, 11, 12, 13, 7, 14, 15, 16, 17, 18, 19, 20, 21, 22, 23, 24, 25, 26, 27, 28, 29, 30, 31, 32, 33, 34, 35, 36, 37, 38, 39, 40, 41, 42, 43, 44, 45, 46, 47, 48, 49, 50, 51, 52, 53, 54, 55, 56, 57, 58, 59, 60, 61, 62, 63, 64, 65] rfl (by decide +kernel)
set_option maxRecDepth 20000 in
theorem gX11_findsMend_X11_isMended : GoodIn wsX11_findsMend (wsV RX11 249 RX11 yX11_isMended wsX11_isMended) := goodIn_app (goodIn_of _ (by decide +kernel)) ggX11_findsMend_X11_isMended
theorem dX11_findsMend_0 : decode cX11_findsMend 0 = .ok (.aload_n 0, 1) := by decide +kernel
theorem dX11_findsMend_1 : decode cX11_findsMend 1 = .ok (.getfield 7, 3) := by decide +kernel
theorem dX11_findsMend_4 : decode cX11_findsMend 4 = .ok (.iconst 3, 1) := by decide +kernel
theorem dX11_findsMend_5 : decode cX11_findsMend 5 = .ok (.iaload, 1) := by decide +kernel
theorem dX11_findsMend_6 : decode cX11_findsMend 6 = .ok (.iconst 1, 1) := by decide +kernel
theorem dX11_findsMend_7 : decode cX11_findsMend 7 = .ok (.isub, 1) := by decide +kernel
theorem dX11_findsMend_8 : decode cX11_findsMend 8 = .ok (.istore_n 2, 1) := by decide +kernel
theorem dX11_findsMend_9 : decode cX11_findsMend 9 = .ok (.iconst 0, 1) := by decide +kernel
theorem dX11_findsMend_10 : decode cX11_findsMend 10 = .ok (.istore_n 3, 1) := by decide +kernel
theorem dX11_findsMend_11 : decode cX11_findsMend 11 = .ok (.aload_n 0, 1) := by decide +kernel
theorem dX11_findsMend_12 : decode cX11_findsMend 12 = .ok (.getfield 60, 3) := by decide +kernel
theorem dX11_findsMend_15 : decode cX11_findsMend 15 = .ok (.iconst 0, 1) := by decide +kernel
theorem dX11_findsMend_16 : decode cX11_findsMend 16 = .ok (.iload_n 1, 1) := by decide +kernel
theorem dX11_findsMend_17 : decode cX11_findsMend 17 = .ok (.iastore, 1) := by decide +kernel
theorem dX11_findsMend_18 : decode cX11_findsMend 18 = .ok (.aload_n 0, 1) := by decide +kernel
theorem dX11_findsMend_19 : decode cX11_findsMend 19 = .ok (.getfield 57, 3) := by decide +kernel
theorem dX11_findsMend_22 : decode cX11_findsMend 22 = .ok (.iconst 0, 1) := by decide +kernel
theorem dX11_findsMend_23 : decode cX11_findsMend 23 = .ok (.iload_n 1, 1) := by decide +kernel
theorem dX11_findsMend_24 : decode cX11_findsMend 24 = .ok (.ineg, 1) := by decide +kernel
theorem dX11_findsMend_25 : decode cX11_findsMend 25 = .ok (.iconst 1, 1) := by decide +kernel
theorem dX11_findsMend_26 : decode cX11_findsMend 26 = .ok (.isub, 1) := by decide +kernel
theorem dX11_findsMend_27 : decode cX11_findsMend 27 = .ok (.iastore, 1) := by decide +kernel
theorem dX11_findsMend_28 : decode cX11_findsMend 28 = .ok (.iload_n 3, 1) := by decide +kernel
theorem dX11_findsMend_29 : decode cX11_findsMend 29 = .ok (.ifCond .lt 115, 3) := by decide +kernel
theorem dX11_findsMend_32 : decode cX11_findsMend 32 = .ok (.aload_n 0, 1) := by decide +kernel
theorem dX11_findsMend_33 : decode cX11_findsMend 33 = .ok (.getfield 57, 3) := by decide +kernel
theorem dX11_findsMend_36 : decode cX11_findsMend 36 = .ok (.iload_n 3, 1) := by decide +kernel
theorem dX11_findsMend_37 : decode cX11_findsMend 37 = .ok (.dup2, 1) := by decide +kernel
theorem dX11_findsMend_38 : decode cX11_findsMend 38 = .ok (.iaload, 1) := by decide +kernel
theorem dX11_findsMend_39 : decode cX11_findsMend 39 = .ok (.iconst 1, 1) := by decide +kernel
theorem dX11_findsMend_40 : decode cX11_findsMend 40 = .ok (.iadd, 1) := by decide +kernel
theorem dX11_findsMend_41 : decode cX11_findsMend 41 = .ok (.iastore, 1) := by decide +kernel
theorem dX11_findsMend_42 : decode cX11_findsMend 42 = .ok (.aload_n 0, 1) := by decide +kernel
theorem dX11_findsMend_43 : decode cX11_findsMend 43 = .ok (.getfield 60, 3) := by decide +kernel
theorem dX11_findsMend_46 : decode cX11_findsMend 46 = .ok (.iload_n 3, 1) := by decide +kernel
theorem dX11_findsMend_47 : decode cX11_findsMend 47 = .ok (.iaload, 1) := by decide +kernel
theorem dX11_findsMend_48 : decode cX11_findsMend 48 = .ok (.aload_n 0, 1) := by decide +kernel
theorem dX11_findsMend_49 : decode cX11_findsMend 49 = .ok (.getfield 57, 3) := by decide +kernel
theorem dX11_findsMend_52 : decode cX11_findsMend 52 = .ok (.iload_n 3, 1) := by decide +kernel
theorem dX11_findsMend_53 : decode cX11_findsMend 53 = .ok (.iaload, 1) := by decide +kernel
theorem dX11_findsMend_54 : decode cX11_findsMend 54 = .ok (.ifCond .ge 13, 3) := by decide +kernel
theorem dX11_findsMend_57 : decode cX11_findsMend 57 = .ok (.aload_n 0, 1) := by decide +kernel
theorem dX11_findsMend_58 : decode cX11_findsMend 58 = .ok (.getfield 57, 3) := by decide +kernel
theorem dX11_findsMend_61 : decode cX11_findsMend 61 = .ok (.iload_n 3, 1) := by decide +kernel
theorem dX11_findsMend_62 : decode cX11_findsMend 62 = .ok (.iaload, 1) := by decide +kernel
theorem dX11_findsMend_63 : decode cX11_findsMend 63 = .ok (.ineg, 1) := by decide +kernel
theorem dX11_findsMend_64 : decode cX11_findsMend 64 = .ok (.goto 9, 3) := by decide +kernel
theorem dX11_findsMend_67 : decode cX11_findsMend 67 = .ok (.aload_n 0, 1) := by decide +kernel
theorem dX11_findsMend_68 : decode cX11_findsMend 68 = .ok (.getfield 57, 3) := by decide +kernel
theorem dX11_findsMend_71 : decode cX11_findsMend 71 = .ok (.iload_n 3, 1) := by decide +kernel
theorem dX11_findsMend_72 : decode cX11_findsMend 72 = .ok (.iaload, 1) := by decide +kernel
theorem dX11_findsMend_73 : decode cX11_findsMend 73 = .ok (.isub, 1) := by decide +kernel
theorem dX11_findsMend_74 : decode cX11_findsMend 74 = .ok (.istore 4, 2) := by decide +kernel
theorem dX11_findsMend_76 : decode cX11_findsMend 76 = .ok (.aload_n 0, 1) := by decide +kernel
theorem dX11_findsMend_77 : decode cX11_findsMend 77 = .ok (.getfield 57, 3) := by decide +kernel
theorem dX11_findsMend_80 : decode cX11_findsMend 80 = .ok (.iload_n 3, 1) := by decide +kernel
theorem dX11_findsMend_81 : decode cX11_findsMend 81 = .ok (.iaload, 1) := by decide +kernel
theorem dX11_findsMend_82 : decode cX11_findsMend 82 = .ok (.aload_n 0, 1) := by decide +kernel
theorem dX11_findsMend_83 : decode cX11_findsMend 83 = .ok (.getfield 60, 3) := by decide +kernel
theorem dX11_findsMend_86 : decode cX11_findsMend 86 = .ok (.iload_n 3, 1) := by decide +kernel
theorem dX11_findsMend_87 : decode cX11_findsMend 87 = .ok (.iaload, 1) := by decide +kernel
theorem dX11_findsMend_88 : decode cX11_findsMend 88 = .ok (.if_icmp .le 9, 3) := by decide +kernel
theorem dX11_findsMend_91 : decode cX11_findsMend 91 = .ok (.iinc 3 (-1), 3) := by decide +kernel
theorem dX11_findsMend_94 : decode cX11_findsMend 94 = .ok (.goto 47, 3) := by decide +kernel
theorem dX11_findsMend_97 : decode cX11_findsMend 97 = .ok (.iload_n 3, 1) := by decide +kernel
theorem dX11_findsMend_98 : decode cX11_findsMend 98 = .ok (.iload_n 2, 1) := by decide +kernel
theorem dX11_findsMend_99 : decode cX11_findsMend 99 = .ok (.if_icmp .ge 28, 3) := by decide +kernel
theorem dX11_findsMend_102 : decode cX11_findsMend 102 = .ok (.iinc 3 1, 3) := by decide +kernel
theorem dX11_findsMend_105 : decode cX11_findsMend 105 = .ok (.aload_n 0, 1) := by decide +kernel
theorem dX11_findsMend_106 : decode cX11_findsMend 106 = .ok (.getfield 60, 3) := by decide +kernel
theorem dX11_findsMend_109 : decode cX11_findsMend 109 = .ok (.iload_n 3, 1) := by decide +kernel
theorem dX11_findsMend_110 : decode cX11_findsMend 110 = .ok (.iload 4, 2) := by decide +kernel
theorem dX11_findsMend_112 : decode cX11_findsMend 112 = .ok (.iastore, 1) := by decide +kernel
theorem dX11_findsMend_113 : decode cX11_findsMend 113 = .ok (.aload_n 0, 1) := by decide +kernel
theorem dX11_findsMend_114 : decode cX11_findsMend 114 = .ok (.getfield 57, 3) := by decide +kernel
theorem dX11_findsMend_117 : decode cX11_findsMend 117 = .ok (.iload_n 3, 1) := by decide +kernel
theorem dX11_findsMend_118 : decode cX11_findsMend 118 = .ok (.iload 4, 2) := by decide +kernel
theorem dX11_findsMend_120 : decode cX11_findsMend 120 = .ok (.ineg, 1) := by decide +kernel
theorem dX11_findsMend_121 : decode cX11_findsMend 121 = .ok (.iconst 1, 1) := by decide +kernel
theorem dX11_findsMend_122 : decode cX11_findsMend 122 = .ok (.isub, 1) := by decide +kernel
theorem dX11_findsMend_123 : decode cX11_findsMend 123 = .ok (.iastore, 1) := by decide +kernel
theorem dX11_findsMend_124 : decode cX11_findsMend 124 = .ok (.goto 17, 3) := by decide +kernel
theorem dX11_findsMend_127 : decode cX11_findsMend 127 = .ok (.iload 4, 2) := by decide +kernel
theorem dX11_findsMend_129 : decode cX11_findsMend 129 = .ok (.ifCond .ne 12, 3) := by decide +kernel
theorem dX11_findsMend_132 : decode cX11_findsMend 132 = .ok (.aload_n 0, 1) := by decide +kernel
theorem dX11_findsMend_133 : decode cX11_findsMend 133 = .ok (.invokevirtual 249, 3) := by decide +kernel
theorem dX11_findsMend_136 : decode cX11_findsMend 136 = .ok (.ifCond .eq 5, 3) := by decide +kernel
theorem dX11_findsMend_139 : decode cX11_findsMend 139 = .ok (.iconst 1, 1) := by decide +kernel
theorem dX11_findsMend_140 : decode cX11_findsMend 140 = .ok (.ireturn, 1) := by decide +kernel
theorem dX11_findsMend_141 : decode cX11_findsMend 141 = .ok (.goto (-113), 3) := by decide +kernel
theorem dX11_findsMend_144 : decode cX11_findsMend 144 = .ok (.iconst 0, 1) := by decide +kernel
theorem dX11_findsMend_145 : decode cX11_findsMend 145 = .ok (.ireturn, 1) := by decide +kernel
set_option maxRecDepth 20000 in
theorem ggX11_mend_X11_isRoad : GoodIn wsX11_mend wsX11_isRoad := goodIn_r _ [8, 2, 9, 10, 7, 11, 43, 44, 45, 46, 47, 48, 49, 50, 51, 52, 53, 54, 55, 56, 57, 58, 59, 60, 61, 62, 63, 64, 65, 66, 67, 68, 69, 70, 71, 72, 73, 74] rfl (by decide +kernel)
set_option maxRecDepth 20000 in
theorem gX11_mend_X11_isRoad : GoodIn wsX11_mend (wsV RX11 170 RX11 yX11_isRoad wsX11_isRoad) := goodIn_app (goodIn_of _ (by decide +kernel)) ggX11_mend_X11_isRoad
set_option maxRecDepth 20000 in
theorem ggX11_mend_X11_findsMend : GoodIn wsX11_mend wsX11_findsMend := goodIn_r _ [15, 2, 16, 3, 17, 18, 19, 7, 20, 21, 22, 23, 9, 10, 11, 24, 25, 26, 27, 28, 29, 30, 31, 32, 33, 34, 35, 36, 37, 38, 39, 40, 41, 42, 43, 44, 45, 46, 47, 48, 49, 50, 51, 52, 53, 54, 55, 56, 57, 58, 59, 60, 61, 62, 63, 64, 65, 66, 67, 68, 69, 70, 71, 72, 73, 74] rfl (by decide +kernel)
set_option maxRecDepth 20000 in
theorem gX11_mend_X11_findsMend : GoodIn wsX11_mend (wsV RX11 252 RX11 yX11_findsMend wsX11_findsMend) := goodIn_app (goodIn_of _ (by decide +kernel)) ggX11_mend_X11_findsMend
theorem dX11_mend_0 : decode cX11_mend 0 = .ok (.iload_n 1, 1) := by decide +kernel
theorem dX11_mend_1 : decode cX11_mend 1 = .ok (.iconst (-1), 1) := by decide +kernel
theorem dX11_mend_2 : decode cX11_mend 2 = .ok (.if_icmp .eq 14, 3) := by decide +kernel
theorem dX11_mend_5 : decode cX11_mend 5 = .ok (.aload_n 0, 1) := by decide +kernel
theorem dX11_mend_6 : decode cX11_mend 6 = .ok (.iload_n 1, 1) := by decide +kernel
theorem dX11_mend_7 : decode cX11_mend 7 = .ok (.invokevirtual 170, 3) := by decide +kernel
theorem dX11_mend_10 : decode cX11_mend 10 = .ok (.ifCond .ne 6, 3) := by decide +kernel
theorem dX11_mend_13 : decode cX11_mend 13 = .ok (.ldc 173, 2) := by decide +kernel
theorem dX11_mend_15 : decode cX11_mend 15 = .ok (.ireturn, 1) := by decide +kernel
theorem dX11_mend_16 : decode cX11_mend 16 = .ok (.aload_n 0, 1) := by decide +kernel
theorem dX11_mend_17 : decode cX11_mend 17 = .ok (.getfield 7, 3) := by decide +kernel
theorem dX11_mend_20 : decode cX11_mend 20 = .ok (.iconst 3, 1) := by decide +kernel
theorem dX11_mend_21 : decode cX11_mend 21 = .ok (.iaload, 1) := by decide +kernel
theorem dX11_mend_22 : decode cX11_mend 22 = .ok (.ifCond .ne 5, 3) := by decide +kernel
theorem dX11_mend_25 : decode cX11_mend 25 = .ok (.iconst 0, 1) := by decide +kernel
theorem dX11_mend_26 : decode cX11_mend 26 = .ok (.ireturn, 1) := by decide +kernel
theorem dX11_mend_27 : decode cX11_mend 27 = .ok (.iconst 0, 1) := by decide +kernel
theorem dX11_mend_28 : decode cX11_mend 28 = .ok (.istore_n 2, 1) := by decide +kernel
theorem dX11_mend_29 : decode cX11_mend 29 = .ok (.iload_n 2, 1) := by decide +kernel
theorem dX11_mend_30 : decode cX11_mend 30 = .ok (.iconst 5, 1) := by decide +kernel
theorem dX11_mend_31 : decode cX11_mend 31 = .ok (.if_icmp .ge 36, 3) := by decide +kernel
theorem dX11_mend_34 : decode cX11_mend 34 = .ok (.aload_n 0, 1) := by decide +kernel
theorem dX11_mend_35 : decode cX11_mend 35 = .ok (.iload_n 2, 1) := by decide +kernel
theorem dX11_mend_36 : decode cX11_mend 36 = .ok (.invokevirtual 252, 3) := by decide +kernel
theorem dX11_mend_39 : decode cX11_mend 39 = .ok (.ifCond .eq 22, 3) := by decide +kernel
theorem dX11_mend_42 : decode cX11_mend 42 = .ok (.iload_n 1, 1) := by decide +kernel
theorem dX11_mend_43 : decode cX11_mend 43 = .ok (.iconst (-1), 1) := by decide +kernel
theorem dX11_mend_44 : decode cX11_mend 44 = .ok (.if_icmp .ne 7, 3) := by decide +kernel
theorem dX11_mend_47 : decode cX11_mend 47 = .ok (.iload_n 2, 1) := by decide +kernel
theorem dX11_mend_48 : decode cX11_mend 48 = .ok (.goto 12, 3) := by decide +kernel
theorem dX11_mend_51 : decode cX11_mend 51 = .ok (.aload_n 0, 1) := by decide +kernel
theorem dX11_mend_52 : decode cX11_mend 52 = .ok (.getfield 57, 3) := by decide +kernel
theorem dX11_mend_55 : decode cX11_mend 55 = .ok (.iload_n 1, 1) := by decide +kernel
theorem dX11_mend_56 : decode cX11_mend 56 = .ok (.iaload, 1) := by decide +kernel
theorem dX11_mend_57 : decode cX11_mend 57 = .ok (.bipush 100, 2) := by decide +kernel
theorem dX11_mend_59 : decode cX11_mend 59 = .ok (.iadd, 1) := by decide +kernel
theorem dX11_mend_60 : decode cX11_mend 60 = .ok (.ireturn, 1) := by decide +kernel
theorem dX11_mend_61 : decode cX11_mend 61 = .ok (.iinc 2 1, 3) := by decide +kernel
theorem dX11_mend_64 : decode cX11_mend 64 = .ok (.goto (-35), 3) := by decide +kernel
theorem dX11_mend_67 : decode cX11_mend 67 = .ok (.iconst (-1), 1) := by decide +kernel
theorem dX11_mend_68 : decode cX11_mend 68 = .ok (.ireturn, 1) := by decide +kernel
set_option maxRecDepth 20000 in
theorem ggX11_want_X11_isRoad : GoodIn wsX11_want wsX11_isRoad := goodIn_r _ [10, 11, 12, 13, 9, 14, 22, 23, 24, 25, 26, 27, 28, 29, 30, 31, 32, 33, 34, 35, 36, 37, 38, 39, 40, 41, 42, 43, 44, 45, 46, 47, 48, 49, 50, 51, 52, 53] rfl (by decide +kernel)
set_option maxRecDepth 20000 in
theorem gX11_want_X11_isRoad : GoodIn wsX11_want (wsV RX11 170 RX11 yX11_isRoad wsX11_isRoad) := goodIn_app (goodIn_of _ (by decide +kernel)) ggX11_want_X11_isRoad
