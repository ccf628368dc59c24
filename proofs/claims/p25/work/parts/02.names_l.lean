theorem dX11_readsTreaty_137 : decode cX11_readsTreaty 137 = .ok (.iconst 1, 1) := by decide +kernel
theorem dX11_readsTreaty_138 : decode cX11_readsTreaty 138 = .ok (.iadd, 1) := by decide +kernel
theorem dX11_readsTreaty_139 : decode cX11_readsTreaty 139 = .ok (.iastore, 1) := by decide +kernel
theorem dX11_readsTreaty_140 : decode cX11_readsTreaty 140 = .ok (.aload_n 0, 1) := by decide +kernel
theorem dX11_readsTreaty_141 : decode cX11_readsTreaty 141 = .ok (.bipush 62, 2) := by decide +kernel
theorem dX11_readsTreaty_143 : decode cX11_readsTreaty 143 = .ok (.iload_n 1, 1) := by decide +kernel
theorem dX11_readsTreaty_144 : decode cX11_readsTreaty 144 = .ok (.iadd, 1) := by decide +kernel
theorem dX11_readsTreaty_145 : decode cX11_readsTreaty 145 = .ok (.iconst 0, 1) := by decide +kernel
theorem dX11_readsTreaty_146 : decode cX11_readsTreaty 146 = .ok (.sipush 999, 3) := by decide +kernel
theorem dX11_readsTreaty_149 : decode cX11_readsTreaty 149 = .ok (.invokevirtual 125, 3) := by decide +kernel
theorem dX11_readsTreaty_152 : decode cX11_readsTreaty 152 = .ok (.ifCond .eq 14, 3) := by decide +kernel
theorem dX11_readsTreaty_155 : decode cX11_readsTreaty 155 = .ok (.aload_n 0, 1) := by decide +kernel
theorem dX11_readsTreaty_156 : decode cX11_readsTreaty 156 = .ok (.invokevirtual 132, 3) := by decide +kernel
theorem dX11_readsTreaty_159 : decode cX11_readsTreaty 159 = .ok (.ifCond .eq 7, 3) := by decide +kernel
theorem dX11_readsTreaty_162 : decode cX11_readsTreaty 162 = .ok (.iconst 1, 1) := by decide +kernel
theorem dX11_readsTreaty_163 : decode cX11_readsTreaty 163 = .ok (.goto 4, 3) := by decide +kernel
theorem dX11_readsTreaty_166 : decode cX11_readsTreaty 166 = .ok (.iconst 0, 1) := by decide +kernel
theorem dX11_readsTreaty_167 : decode cX11_readsTreaty 167 = .ok (.ireturn, 1) := by decide +kernel
set_option maxRecDepth 20000 in
theorem ggX11_readsClause_X11_fails : GoodIn wsX11_readsClause wsX11_fails := goodIn_r _ [7, 8, 48, 49, 50, 51, 52, 53, 54, 55, 56, 57, 58, 59, 60, 61, 62, 63, 64, 65, 66, 67, 68, 69, 70, 71, 72, 73, 74, 75, 76, 77, 78, 79] rfl (by decide +kernel)
set_option maxRecDepth 20000 in
theorem gX11_readsClause_X11_fails : GoodIn wsX11_readsClause (wsV RX11 118 RX11 yX11_fails wsX11_fails) := goodIn_app (goodIn_of _ (by decide +kernel)) ggX11_readsClause_X11_fails
set_option maxRecDepth 20000 in
theorem ggX11_readsClause_X11_number : GoodIn wsX11_readsClause wsX11_number := goodIn_r _ [12, 13, 14, 15, 6, 16, 17, 18, 2, 19, 20, 21, 22, 23, 24, 25, 26, 27, 28, 29, 30, 31, 32, 33, 34, 35, 1, 3, 4, 5, 7, 8, 48, 49, 50, 51, 52, 53, 54, 55, 56, 57, 58, 59, 60, 61, 62, 63, 64, 65, 66, 67, 68, 69, 70, 71, 72, 73, 74, 75, 76, 77, 78, 79] rfl (by decide +kernel)
set_option maxRecDepth 20000 in
theorem gX11_readsClause_X11_number : GoodIn wsX11_readsClause (wsV RX11 129 RX11 yX11_number wsX11_number) := goodIn_app (goodIn_of _ (by decide +kernel)) ggX11_readsClause_X11_number
set_option maxRecDepth 20000 in
theorem ggX11_readsClause_X11_ends : GoodIn wsX11_readsClause wsX11_ends := goodIn_r _ [39, 2, 13, 14, 15, 6, 16, 17, 18, 19, 20, 21, 22, 23, 24, 25, 26, 27, 28, 29, 30, 31, 3, 4, 5, 7, 8, 48, 49, 50, 51, 52, 53, 54, 55, 56, 57, 58, 59, 60, 61, 62, 63, 64, 65, 66, 67, 68, 69, 70, 71, 72, 73, 74, 75, 76, 77, 78, 79] rfl (by decide +kernel)
set_option maxRecDepth 20000 in
theorem gX11_readsClause_X11_ends : GoodIn wsX11_readsClause (wsV RX11 132 RX11 yX11_ends wsX11_ends) := goodIn_app (goodIn_of _ (by decide +kernel)) ggX11_readsClause_X11_ends
set_option maxRecDepth 20000 in
theorem ggX11_readsClause_X11_readsRoad : GoodIn wsX11_readsClause wsX11_readsRoad := goodIn_r _ [43, 1, 3, 4, 5, 6, 7, 8, 9, 10, 11, 12, 13, 14, 15, 16, 17, 18, 2, 19, 20, 21, 22, 23, 24, 25, 26, 27, 28, 29, 30, 31, 32, 33, 34, 35, 36, 37, 38, 39, 48, 49, 50, 51, 52, 53, 54, 55, 56, 57, 58, 59, 60, 61, 62, 63, 64, 65, 66, 67, 68, 69, 70, 71, 72, 73, 74, 75, 76, 77, 78, 79] rfl (by decide +kernel)
set_option maxRecDepth 20000 in
theorem gX11_readsClause_X11_readsRoad : GoodIn wsX11_readsClause (wsV RX11 136 RX11 yX11_readsRoad wsX11_readsRoad) := goodIn_app (goodIn_of _ (by decide +kernel)) ggX11_readsClause_X11_readsRoad
set_option maxRecDepth 20000 in
theorem ggX11_readsClause_X11_readsTreaty : GoodIn wsX11_readsClause wsX11_readsTreaty := goodIn_r _ [47, 1, 2, 3, 4, 5, 6, 7, 8, 9, 10, 11, 12, 13, 14, 15, 16, 17, 18, 19, 20, 21, 22, 23, 24, 25, 26, 27, 28, 29, 30, 31, 32, 33, 34, 35, 36, 37, 38, 39, 48, 49, 50, 51, 52, 53, 54, 55, 56, 57, 58, 59, 60, 61, 62, 63, 64, 65, 66, 67, 68, 69, 70, 71, 72, 73, 74, 75, 76, 77, 78, 79] rfl (by decide +kernel)
set_option maxRecDepth 20000 in
theorem gX11_readsClause_X11_readsTreaty : GoodIn wsX11_readsClause (wsV RX11 139 RX11 yX11_readsTreaty wsX11_readsTreaty) := goodIn_app (goodIn_of _ (by decide +kernel)) ggX11_readsClause_X11_readsTreaty
theorem dX11_readsClause_0 : decode cX11_readsClause 0 = .ok (.aload_n 0, 1) := by decide +kernel
theorem dX11_readsClause_1 : decode cX11_readsClause 1 = .ok (.getfield 13, 3) := by decide +kernel
theorem dX11_readsClause_4 : decode cX11_readsClause 4 = .ok (.iconst 0, 1) := by decide +kernel
theorem dX11_readsClause_5 : decode cX11_readsClause 5 = .ok (.iaload, 1) := by decide +kernel
theorem dX11_readsClause_6 : decode cX11_readsClause 6 = .ok (.ifCond .ne 7, 3) := by decide +kernel
theorem dX11_readsClause_9 : decode cX11_readsClause 9 = .ok (.iconst 1, 1) := by decide +kernel
theorem dX11_readsClause_10 : decode cX11_readsClause 10 = .ok (.goto 4, 3) := by decide +kernel
theorem dX11_readsClause_13 : decode cX11_readsClause 13 = .ok (.iconst 0, 1) := by decide +kernel
theorem dX11_readsClause_14 : decode cX11_readsClause 14 = .ok (.istore_n 1, 1) := by decide +kernel
theorem dX11_readsClause_15 : decode cX11_readsClause 15 = .ok (.aload_n 0, 1) := by decide +kernel
theorem dX11_readsClause_16 : decode cX11_readsClause 16 = .ok (.getfield 102, 3) := by decide +kernel
theorem dX11_readsClause_19 : decode cX11_readsClause 19 = .ok (.lookupswitch 122 #[(109, 33), (114, 88), (116, 105)], 33) := by decide +kernel
theorem dX11_readsClause_52 : decode cX11_readsClause 52 = .ok (.iload_n 1, 1) := by decide +kernel
theorem dX11_readsClause_53 : decode cX11_readsClause 53 = .ok (.ifCond .ne 9, 3) := by decide +kernel
theorem dX11_readsClause_56 : decode cX11_readsClause 56 = .ok (.aload_n 0, 1) := by decide +kernel
theorem dX11_readsClause_57 : decode cX11_readsClause 57 = .ok (.iconst 3, 1) := by decide +kernel
theorem dX11_readsClause_58 : decode cX11_readsClause 58 = .ok (.invokevirtual 118, 3) := by decide +kernel
theorem dX11_readsClause_61 : decode cX11_readsClause 61 = .ok (.ireturn, 1) := by decide +kernel
theorem dX11_readsClause_62 : decode cX11_readsClause 62 = .ok (.aload_n 0, 1) := by decide +kernel
theorem dX11_readsClause_63 : decode cX11_readsClause 63 = .ok (.iconst 0, 1) := by decide +kernel
theorem dX11_readsClause_64 : decode cX11_readsClause 64 = .ok (.iconst 2, 1) := by decide +kernel
theorem dX11_readsClause_65 : decode cX11_readsClause 65 = .ok (.bipush 6, 2) := by decide +kernel
theorem dX11_readsClause_67 : decode cX11_readsClause 67 = .ok (.invokevirtual 129, 3) := by decide +kernel
theorem dX11_readsClause_70 : decode cX11_readsClause 70 = .ok (.ifCond .eq 35, 3) := by decide +kernel
theorem dX11_readsClause_73 : decode cX11_readsClause 73 = .ok (.aload_n 0, 1) := by decide +kernel
theorem dX11_readsClause_74 : decode cX11_readsClause 74 = .ok (.iconst 1, 1) := by decide +kernel
theorem dX11_readsClause_75 : decode cX11_readsClause 75 = .ok (.iconst 1, 1) := by decide +kernel
theorem dX11_readsClause_76 : decode cX11_readsClause 76 = .ok (.iconst 4, 1) := by decide +kernel
theorem dX11_readsClause_77 : decode cX11_readsClause 77 = .ok (.invokevirtual 129, 3) := by decide +kernel
theorem dX11_readsClause_80 : decode cX11_readsClause 80 = .ok (.ifCond .eq 25, 3) := by decide +kernel
theorem dX11_readsClause_83 : decode cX11_readsClause 83 = .ok (.aload_n 0, 1) := by decide +kernel
theorem dX11_readsClause_84 : decode cX11_readsClause 84 = .ok (.iconst 2, 1) := by decide +kernel
theorem dX11_readsClause_85 : decode cX11_readsClause 85 = .ok (.iconst 1, 1) := by decide +kernel
theorem dX11_readsClause_86 : decode cX11_readsClause 86 = .ok (.bipush 9, 2) := by decide +kernel
theorem dX11_readsClause_88 : decode cX11_readsClause 88 = .ok (.invokevirtual 129, 3) := by decide +kernel
theorem dX11_readsClause_91 : decode cX11_readsClause 91 = .ok (.ifCond .eq 14, 3) := by decide +kernel
theorem dX11_readsClause_94 : decode cX11_readsClause 94 = .ok (.aload_n 0, 1) := by decide +kernel
theorem dX11_readsClause_95 : decode cX11_readsClause 95 = .ok (.invokevirtual 132, 3) := by decide +kernel
theorem dX11_readsClause_98 : decode cX11_readsClause 98 = .ok (.ifCond .eq 7, 3) := by decide +kernel
theorem dX11_readsClause_101 : decode cX11_readsClause 101 = .ok (.iconst 1, 1) := by decide +kernel
theorem dX11_readsClause_102 : decode cX11_readsClause 102 = .ok (.goto 4, 3) := by decide +kernel
theorem dX11_readsClause_105 : decode cX11_readsClause 105 = .ok (.iconst 0, 1) := by decide +kernel
theorem dX11_readsClause_106 : decode cX11_readsClause 106 = .ok (.ireturn, 1) := by decide +kernel
theorem dX11_readsClause_107 : decode cX11_readsClause 107 = .ok (.iload_n 1, 1) := by decide +kernel
theorem dX11_readsClause_108 : decode cX11_readsClause 108 = .ok (.ifCond .eq 11, 3) := by decide +kernel
theorem dX11_readsClause_111 : decode cX11_readsClause 111 = .ok (.aload_n 0, 1) := by decide +kernel
theorem dX11_readsClause_112 : decode cX11_readsClause 112 = .ok (.iconst 1, 1) := by decide +kernel
theorem dX11_readsClause_113 : decode cX11_readsClause 113 = .ok (.invokevirtual 118, 3) := by decide +kernel
theorem dX11_readsClause_116 : decode cX11_readsClause 116 = .ok (.goto 7, 3) := by decide +kernel
theorem dX11_readsClause_119 : decode cX11_readsClause 119 = .ok (.aload_n 0, 1) := by decide +kernel
theorem dX11_readsClause_120 : decode cX11_readsClause 120 = .ok (.invokevirtual 136, 3) := by decide +kernel
theorem dX11_readsClause_123 : decode cX11_readsClause 123 = .ok (.ireturn, 1) := by decide +kernel
theorem dX11_readsClause_124 : decode cX11_readsClause 124 = .ok (.iload_n 1, 1) := by decide +kernel
theorem dX11_readsClause_125 : decode cX11_readsClause 125 = .ok (.ifCond .eq 11, 3) := by decide +kernel
theorem dX11_readsClause_128 : decode cX11_readsClause 128 = .ok (.aload_n 0, 1) := by decide +kernel
theorem dX11_readsClause_129 : decode cX11_readsClause 129 = .ok (.iconst 1, 1) := by decide +kernel
theorem dX11_readsClause_130 : decode cX11_readsClause 130 = .ok (.invokevirtual 118, 3) := by decide +kernel
theorem dX11_readsClause_133 : decode cX11_readsClause 133 = .ok (.goto 7, 3) := by decide +kernel
theorem dX11_readsClause_136 : decode cX11_readsClause 136 = .ok (.aload_n 0, 1) := by decide +kernel
theorem dX11_readsClause_137 : decode cX11_readsClause 137 = .ok (.invokevirtual 139, 3) := by decide +kernel
theorem dX11_readsClause_140 : decode cX11_readsClause 140 = .ok (.ireturn, 1) := by decide +kernel
theorem dX11_readsClause_141 : decode cX11_readsClause 141 = .ok (.aload_n 0, 1) := by decide +kernel
theorem dX11_readsClause_142 : decode cX11_readsClause 142 = .ok (.iconst 1, 1) := by decide +kernel
theorem dX11_readsClause_143 : decode cX11_readsClause 143 = .ok (.invokevirtual 118, 3) := by decide +kernel
theorem dX11_readsClause_146 : decode cX11_readsClause 146 = .ok (.ireturn, 1) := by decide +kernel
set_option maxRecDepth 20000 in
theorem ggX11_march_X11_next : GoodIn wsX11_march wsX11_next := goodIn_r _ [13, 2, 6, 4, 14, 15, 16, 17, 18, 19, 20, 12, 21, 5, 22, 23, 24, 25, 64, 65, 66, 67, 68, 69, 70, 71, 72, 73, 74, 75, 76, 77, 78, 79, 80, 81, 82, 83, 84, 85, 86, 87, 88, 89, 90, 91, 92, 93, 94, 95] rfl (by decide +kernel)
set_option maxRecDepth 20000 in
theorem gX11_march_X11_next : GoodIn wsX11_march (wsV RX11 122 RX11 yX11_next wsX11_next) := goodIn_app (goodIn_of _ (by decide +kernel)) ggX11_march_X11_next
set_option maxRecDepth 20000 in
theorem ggX11_march_X11_readsClause : GoodIn wsX11_march wsX11_readsClause := goodIn_r _ [29, 1, 4, 30, 31, 32, 12, 33, 7, 34, 35, 36, 37, 9, 10, 11, 13, 2, 6, 14, 15, 16, 17, 18, 19, 20, 21, 5, 22, 23, 24, 25, 38, 39, 40, 41, 42, 43, 44, 45, 46, 47, 48, 49, 50, 51, 52, 53, 64, 65, 66, 67, 68, 69, 70, 71, 72, 73, 74, 75, 76, 77, 78, 79, 80, 81, 82, 83, 84, 85, 86, 87, 88, 89, 90, 91, 92, 93, 94, 95] rfl (by decide +kernel)
set_option maxRecDepth 20000 in
theorem gX11_march_X11_readsClause : GoodIn wsX11_march (wsV RX11 142 RX11 yX11_readsClause wsX11_readsClause) := goodIn_app (goodIn_of _ (by decide +kernel)) ggX11_march_X11_readsClause
set_option maxRecDepth 20000 in
theorem ggX11_march_X11_begins : GoodIn wsX11_march wsX11_begins := goodIn_r _ [57, 58, 8, 59, 60, 61, 62, 63, 64, 65, 66, 67, 68, 69, 70, 71, 72, 73, 74, 75, 76, 77, 78, 79, 80, 81, 82, 83, 84, 85, 86, 87, 88, 89, 90, 91, 92, 93, 94, 95] rfl (by decide +kernel)
set_option maxRecDepth 20000 in
theorem gX11_march_X11_begins : GoodIn wsX11_march (wsV RX11 69 RX11 yX11_begins wsX11_begins) := goodIn_app (goodIn_of _ (by decide +kernel)) ggX11_march_X11_begins
theorem dX11_march_0 : decode cX11_march 0 = .ok (.iconst 0, 1) := by decide +kernel
theorem dX11_march_1 : decode cX11_march 1 = .ok (.istore_n 1, 1) := by decide +kernel
theorem dX11_march_2 : decode cX11_march 2 = .ok (.iload_n 1, 1) := by decide +kernel
theorem dX11_march_3 : decode cX11_march 3 = .ok (.bipush 68, 2) := by decide +kernel
theorem dX11_march_5 : decode cX11_march 5 = .ok (.if_icmp .ge 16, 3) := by decide +kernel
theorem dX11_march_8 : decode cX11_march 8 = .ok (.aload_n 0, 1) := by decide +kernel
theorem dX11_march_9 : decode cX11_march 9 = .ok (.getfield 13, 3) := by decide +kernel
theorem dX11_march_12 : decode cX11_march 12 = .ok (.iload_n 1, 1) := by decide +kernel
theorem dX11_march_13 : decode cX11_march 13 = .ok (.iconst 0, 1) := by decide +kernel
theorem dX11_march_14 : decode cX11_march 14 = .ok (.iastore, 1) := by decide +kernel
theorem dX11_march_15 : decode cX11_march 15 = .ok (.iinc 1 1, 3) := by decide +kernel
theorem dX11_march_18 : decode cX11_march 18 = .ok (.goto (-16), 3) := by decide +kernel
theorem dX11_march_21 : decode cX11_march 21 = .ok (.aload_n 0, 1) := by decide +kernel
theorem dX11_march_22 : decode cX11_march 22 = .ok (.iconst 0, 1) := by decide +kernel
theorem dX11_march_23 : decode cX11_march 23 = .ok (.putfield 92, 3) := by decide +kernel
theorem dX11_march_26 : decode cX11_march 26 = .ok (.aload_n 0, 1) := by decide +kernel
theorem dX11_march_27 : decode cX11_march 27 = .ok (.iconst (-1), 1) := by decide +kernel
theorem dX11_march_28 : decode cX11_march 28 = .ok (.putfield 32, 3) := by decide +kernel
theorem dX11_march_31 : decode cX11_march 31 = .ok (.iconst 1, 1) := by decide +kernel
theorem dX11_march_32 : decode cX11_march 32 = .ok (.istore_n 1, 1) := by decide +kernel
theorem dX11_march_33 : decode cX11_march 33 = .ok (.aload_n 0, 1) := by decide +kernel
theorem dX11_march_34 : decode cX11_march 34 = .ok (.invokevirtual 122, 3) := by decide +kernel
theorem dX11_march_37 : decode cX11_march 37 = .ok (.aload_n 0, 1) := by decide +kernel
theorem dX11_march_38 : decode cX11_march 38 = .ok (.getfield 102, 3) := by decide +kernel
theorem dX11_march_41 : decode cX11_march 41 = .ok (.ifCond .lt 23, 3) := by decide +kernel
theorem dX11_march_44 : decode cX11_march 44 = .ok (.iload_n 1, 1) := by decide +kernel
theorem dX11_march_45 : decode cX11_march 45 = .ok (.ifCond .eq 19, 3) := by decide +kernel
theorem dX11_march_48 : decode cX11_march 48 = .ok (.aload_n 0, 1) := by decide +kernel
theorem dX11_march_49 : decode cX11_march 49 = .ok (.invokevirtual 142, 3) := by decide +kernel
theorem dX11_march_52 : decode cX11_march 52 = .ok (.istore_n 1, 1) := by decide +kernel
theorem dX11_march_53 : decode cX11_march 53 = .ok (.iload_n 1, 1) := by decide +kernel
theorem dX11_march_54 : decode cX11_march 54 = .ok (.ifCond .eq (-17), 3) := by decide +kernel
theorem dX11_march_57 : decode cX11_march 57 = .ok (.aload_n 0, 1) := by decide +kernel
theorem dX11_march_58 : decode cX11_march 58 = .ok (.invokevirtual 122, 3) := by decide +kernel
theorem dX11_march_61 : decode cX11_march 61 = .ok (.goto (-24), 3) := by decide +kernel
theorem dX11_march_64 : decode cX11_march 64 = .ok (.aload_n 0, 1) := by decide +kernel
theorem dX11_march_65 : decode cX11_march 65 = .ok (.iconst 0, 1) := by decide +kernel
theorem dX11_march_66 : decode cX11_march 66 = .ok (.putfield 88, 3) := by decide +kernel
theorem dX11_march_69 : decode cX11_march 69 = .ok (.iload_n 1, 1) := by decide +kernel
theorem dX11_march_70 : decode cX11_march 70 = .ok (.ifCond .ne 19, 3) := by decide +kernel
theorem dX11_march_73 : decode cX11_march 73 = .ok (.aload_n 0, 1) := by decide +kernel
theorem dX11_march_74 : decode cX11_march 74 = .ok (.aload_n 0, 1) := by decide +kernel
theorem dX11_march_75 : decode cX11_march 75 = .ok (.getfield 99, 3) := by decide +kernel
theorem dX11_march_78 : decode cX11_march 78 = .ok (.putfield 32, 3) := by decide +kernel
theorem dX11_march_81 : decode cX11_march 81 = .ok (.bipush (-10), 2) := by decide +kernel
theorem dX11_march_83 : decode cX11_march 83 = .ok (.aload_n 0, 1) := by decide +kernel
theorem dX11_march_84 : decode cX11_march 84 = .ok (.getfield 115, 3) := by decide +kernel
theorem dX11_march_87 : decode cX11_march 87 = .ok (.isub, 1) := by decide +kernel
theorem dX11_march_88 : decode cX11_march 88 = .ok (.ireturn, 1) := by decide +kernel
theorem dX11_march_89 : decode cX11_march 89 = .ok (.iconst 0, 1) := by decide +kernel
theorem dX11_march_90 : decode cX11_march 90 = .ok (.istore_n 2, 1) := by decide +kernel
theorem dX11_march_91 : decode cX11_march 91 = .ok (.iload_n 2, 1) := by decide +kernel
theorem dX11_march_92 : decode cX11_march 92 = .ok (.bipush 68, 2) := by decide +kernel
theorem dX11_march_94 : decode cX11_march 94 = .ok (.if_icmp .ge 21, 3) := by decide +kernel
theorem dX11_march_97 : decode cX11_march 97 = .ok (.aload_n 0, 1) := by decide +kernel
theorem dX11_march_98 : decode cX11_march 98 = .ok (.getfield 7, 3) := by decide +kernel
theorem dX11_march_101 : decode cX11_march 101 = .ok (.iload_n 2, 1) := by decide +kernel
theorem dX11_march_102 : decode cX11_march 102 = .ok (.aload_n 0, 1) := by decide +kernel
theorem dX11_march_103 : decode cX11_march 103 = .ok (.getfield 13, 3) := by decide +kernel
theorem dX11_march_106 : decode cX11_march 106 = .ok (.iload_n 2, 1) := by decide +kernel
theorem dX11_march_107 : decode cX11_march 107 = .ok (.iaload, 1) := by decide +kernel
theorem dX11_march_108 : decode cX11_march 108 = .ok (.iastore, 1) := by decide +kernel
theorem dX11_march_109 : decode cX11_march 109 = .ok (.iinc 2 1, 3) := by decide +kernel
theorem dX11_march_112 : decode cX11_march 112 = .ok (.goto (-21), 3) := by decide +kernel
theorem dX11_march_115 : decode cX11_march 115 = .ok (.aload_n 0, 1) := by decide +kernel
theorem dX11_march_116 : decode cX11_march 116 = .ok (.invokevirtual 69, 3) := by decide +kernel
theorem dX11_march_119 : decode cX11_march 119 = .ok (.aload_n 0, 1) := by decide +kernel
theorem dX11_march_120 : decode cX11_march 120 = .ok (.getfield 7, 3) := by decide +kernel
theorem dX11_march_123 : decode cX11_march 123 = .ok (.iconst 3, 1) := by decide +kernel
theorem dX11_march_124 : decode cX11_march 124 = .ok (.iaload, 1) := by decide +kernel
theorem dX11_march_125 : decode cX11_march 125 = .ok (.ireturn, 1) := by decide +kernel
theorem dX11_fault_0 : decode cX11_fault 0 = .ok (.aload_n 0, 1) := by decide +kernel
theorem dX11_fault_1 : decode cX11_fault 1 = .ok (.getfield 32, 3) := by decide +kernel
theorem dX11_fault_4 : decode cX11_fault 4 = .ok (.ireturn, 1) := by decide +kernel
set_option maxRecDepth 20000 in
theorem ggX11_isTown_X11_in : GoodIn wsX11_isTown wsX11_in := goodIn_r _ [5] rfl (by decide +kernel)
set_option maxRecDepth 20000 in
theorem gX11_isTown_X11_in : GoodIn wsX11_isTown (va_wsS RX11 83 yX11_in wsX11_in) := goodIn_app (goodIn_of _ (by decide +kernel)) ggX11_isTown_X11_in
theorem dX11_isTown_0 : decode cX11_isTown 0 = .ok (.iload_n 1, 1) := by decide +kernel
theorem dX11_isTown_1 : decode cX11_isTown 1 = .ok (.i2l, 1) := by decide +kernel
theorem dX11_isTown_2 : decode cX11_isTown 2 = .ok (.lconst 0, 1) := by decide +kernel
theorem dX11_isTown_3 : decode cX11_isTown 3 = .ok (.aload_n 0, 1) := by decide +kernel
theorem dX11_isTown_4 : decode cX11_isTown 4 = .ok (.getfield 7, 3) := by decide +kernel
theorem dX11_isTown_7 : decode cX11_isTown 7 = .ok (.iconst 0, 1) := by decide +kernel
theorem dX11_isTown_8 : decode cX11_isTown 8 = .ok (.iaload, 1) := by decide +kernel
theorem dX11_isTown_9 : decode cX11_isTown 9 = .ok (.iconst 1, 1) := by decide +kernel
theorem dX11_isTown_10 : decode cX11_isTown 10 = .ok (.isub, 1) := by decide +kernel
theorem dX11_isTown_11 : decode cX11_isTown 11 = .ok (.i2l, 1) := by decide +kernel
theorem dX11_isTown_12 : decode cX11_isTown 12 = .ok (.invokestatic 83, 3) := by decide +kernel
theorem dX11_isTown_15 : decode cX11_isTown 15 = .ok (.ireturn, 1) := by decide +kernel
set_option maxRecDepth 20000 in
theorem ggX11_areTowns_X11_isTown : GoodIn wsX11_areTowns wsX11_isTown := goodIn_r _ [5, 6, 7, 8, 4, 9, 10, 11, 12, 13, 14, 15, 16, 17, 18, 19, 20, 21, 22, 23, 24, 25, 26, 27, 28, 29, 30, 31, 32, 33, 34, 35, 36, 37, 38, 39, 40, 41] rfl (by decide +kernel)
set_option maxRecDepth 20000 in
theorem gX11_areTowns_X11_isTown : GoodIn wsX11_areTowns (wsV RX11 145 RX11 yX11_isTown wsX11_isTown) := goodIn_app (goodIn_of _ (by decide +kernel)) ggX11_areTowns_X11_isTown
theorem dX11_areTowns_0 : decode cX11_areTowns 0 = .ok (.aload_n 0, 1) := by decide +kernel
theorem dX11_areTowns_1 : decode cX11_areTowns 1 = .ok (.iload_n 1, 1) := by decide +kernel
theorem dX11_areTowns_2 : decode cX11_areTowns 2 = .ok (.invokevirtual 145, 3) := by decide +kernel
theorem dX11_areTowns_5 : decode cX11_areTowns 5 = .ok (.ifCond .eq 20, 3) := by decide +kernel
theorem dX11_areTowns_8 : decode cX11_areTowns 8 = .ok (.aload_n 0, 1) := by decide +kernel
theorem dX11_areTowns_9 : decode cX11_areTowns 9 = .ok (.iload_n 2, 1) := by decide +kernel
theorem dX11_areTowns_10 : decode cX11_areTowns 10 = .ok (.invokevirtual 145, 3) := by decide +kernel
theorem dX11_areTowns_13 : decode cX11_areTowns 13 = .ok (.ifCond .eq 12, 3) := by decide +kernel
theorem dX11_areTowns_16 : decode cX11_areTowns 16 = .ok (.iload_n 1, 1) := by decide +kernel
theorem dX11_areTowns_17 : decode cX11_areTowns 17 = .ok (.iload_n 2, 1) := by decide +kernel
theorem dX11_areTowns_18 : decode cX11_areTowns 18 = .ok (.if_icmp .eq 7, 3) := by decide +kernel
theorem dX11_areTowns_21 : decode cX11_areTowns 21 = .ok (.iconst 1, 1) := by decide +kernel
theorem dX11_areTowns_22 : decode cX11_areTowns 22 = .ok (.goto 4, 3) := by decide +kernel
theorem dX11_areTowns_25 : decode cX11_areTowns 25 = .ok (.iconst 0, 1) := by decide +kernel
theorem dX11_areTowns_26 : decode cX11_areTowns 26 = .ok (.ireturn, 1) := by decide +kernel
set_option maxRecDepth 20000 in
theorem ggX11_isRoad_X11_in : GoodIn wsX11_isRoad wsX11_in := goodIn_r _ [5] rfl (by decide +kernel)
set_option maxRecDepth 20000 in
theorem gX11_isRoad_X11_in : GoodIn wsX11_isRoad (va_wsS RX11 83 yX11_in wsX11_in) := goodIn_app (goodIn_of _ (by decide +kernel)) ggX11_isRoad_X11_in
theorem dX11_isRoad_0 : decode cX11_isRoad 0 = .ok (.iload_n 1, 1) := by decide +kernel
theorem dX11_isRoad_1 : decode cX11_isRoad 1 = .ok (.i2l, 1) := by decide +kernel
theorem dX11_isRoad_2 : decode cX11_isRoad 2 = .ok (.lconst 0, 1) := by decide +kernel
theorem dX11_isRoad_3 : decode cX11_isRoad 3 = .ok (.aload_n 0, 1) := by decide +kernel
theorem dX11_isRoad_4 : decode cX11_isRoad 4 = .ok (.getfield 7, 3) := by decide +kernel
theorem dX11_isRoad_7 : decode cX11_isRoad 7 = .ok (.iconst 3, 1) := by decide +kernel
theorem dX11_isRoad_8 : decode cX11_isRoad 8 = .ok (.iaload, 1) := by decide +kernel
theorem dX11_isRoad_9 : decode cX11_isRoad 9 = .ok (.iconst 1, 1) := by decide +kernel
theorem dX11_isRoad_10 : decode cX11_isRoad 10 = .ok (.isub, 1) := by decide +kernel
theorem dX11_isRoad_11 : decode cX11_isRoad 11 = .ok (.i2l, 1) := by decide +kernel
theorem dX11_isRoad_12 : decode cX11_isRoad 12 = .ok (.invokestatic 83, 3) := by decide +kernel
theorem dX11_isRoad_15 : decode cX11_isRoad 15 = .ok (.ireturn, 1) := by decide +kernel
set_option maxRecDepth 20000 in
theorem ggX11_isCounty_X11_in : GoodIn wsX11_isCounty wsX11_in := goodIn_r _ [5] rfl (by decide +kernel)
set_option maxRecDepth 20000 in
theorem gX11_isCounty_X11_in : GoodIn wsX11_isCounty (va_wsS RX11 83 yX11_in wsX11_in) := goodIn_app (goodIn_of _ (by decide +kernel)) ggX11_isCounty_X11_in
theorem dX11_isCounty_0 : decode cX11_isCounty 0 = .ok (.iload_n 1, 1) := by decide +kernel
theorem dX11_isCounty_1 : decode cX11_isCounty 1 = .ok (.i2l, 1) := by decide +kernel
theorem dX11_isCounty_2 : decode cX11_isCounty 2 = .ok (.lconst 0, 1) := by decide +kernel
theorem dX11_isCounty_3 : decode cX11_isCounty 3 = .ok (.aload_n 0, 1) := by decide +kernel
theorem dX11_isCounty_4 : decode cX11_isCounty 4 = .ok (.getfield 7, 3) := by decide +kernel
theorem dX11_isCounty_7 : decode cX11_isCounty 7 = .ok (.iconst 1, 1) := by decide +kernel
theorem dX11_isCounty_8 : decode cX11_isCounty 8 = .ok (.iaload, 1) := by decide +kernel
theorem dX11_isCounty_9 : decode cX11_isCounty 9 = .ok (.iconst 1, 1) := by decide +kernel
theorem dX11_isCounty_10 : decode cX11_isCounty 10 = .ok (.isub, 1) := by decide +kernel
theorem dX11_isCounty_11 : decode cX11_isCounty 11 = .ok (.i2l, 1) := by decide +kernel
theorem dX11_isCounty_12 : decode cX11_isCounty 12 = .ok (.invokestatic 83, 3) := by decide +kernel
theorem dX11_isCounty_15 : decode cX11_isCounty 15 = .ok (.ireturn, 1) := by decide +kernel
set_option maxRecDepth 20000 in
theorem ggX11_together_X11_has : GoodIn wsX11_together wsX11_has := goodIn_r _ [5] rfl (by decide +kernel)
set_option maxRecDepth 20000 in
theorem gX11_together_X11_has : GoodIn wsX11_together (va_wsS RX11 148 yX11_has wsX11_has) := goodIn_app (goodIn_of _ (by decide +kernel)) ggX11_together_X11_has
theorem dX11_together_0 : decode cX11_together 0 = .ok (.iconst 0, 1) := by decide +kernel
theorem dX11_together_1 : decode cX11_together 1 = .ok (.istore_n 3, 1) := by decide +kernel
theorem dX11_together_2 : decode cX11_together 2 = .ok (.iconst 0, 1) := by decide +kernel
theorem dX11_together_3 : decode cX11_together 3 = .ok (.istore 4, 2) := by decide +kernel
theorem dX11_together_5 : decode cX11_together 5 = .ok (.iload 4, 2) := by decide +kernel
theorem dX11_together_7 : decode cX11_together 7 = .ok (.aload_n 0, 1) := by decide +kernel
theorem dX11_together_8 : decode cX11_together 8 = .ok (.getfield 7, 3) := by decide +kernel
theorem dX11_together_11 : decode cX11_together 11 = .ok (.iconst 3, 1) := by decide +kernel
theorem dX11_together_12 : decode cX11_together 12 = .ok (.iaload, 1) := by decide +kernel
theorem dX11_together_13 : decode cX11_together 13 = .ok (.if_icmp .ge 29, 3) := by decide +kernel
theorem dX11_together_16 : decode cX11_together 16 = .ok (.iload_n 3, 1) := by decide +kernel
theorem dX11_together_17 : decode cX11_together 17 = .ok (.iload_n 1, 1) := by decide +kernel
theorem dX11_together_18 : decode cX11_together 18 = .ok (.iload 4, 2) := by decide +kernel
theorem dX11_together_20 : decode cX11_together 20 = .ok (.invokestatic 148, 3) := by decide +kernel
theorem dX11_together_23 : decode cX11_together 23 = .ok (.ifCond .eq 10, 3) := by decide +kernel
theorem dX11_together_26 : decode cX11_together 26 = .ok (.aload_n 2, 1) := by decide +kernel
theorem dX11_together_27 : decode cX11_together 27 = .ok (.iload 4, 2) := by decide +kernel
theorem dX11_together_29 : decode cX11_together 29 = .ok (.iaload, 1) := by decide +kernel
theorem dX11_together_30 : decode cX11_together 30 = .ok (.goto 4, 3) := by decide +kernel
theorem dX11_together_33 : decode cX11_together 33 = .ok (.iconst 0, 1) := by decide +kernel
theorem dX11_together_34 : decode cX11_together 34 = .ok (.iadd, 1) := by decide +kernel
theorem dX11_together_35 : decode cX11_together 35 = .ok (.istore_n 3, 1) := by decide +kernel
theorem dX11_together_36 : decode cX11_together 36 = .ok (.iinc 4 1, 3) := by decide +kernel
theorem dX11_together_39 : decode cX11_together 39 = .ok (.goto (-34), 3) := by decide +kernel
theorem dX11_together_42 : decode cX11_together 42 = .ok (.iload_n 3, 1) := by decide +kernel
theorem dX11_together_43 : decode cX11_together 43 = .ok (.ireturn, 1) := by decide +kernel
set_option maxRecDepth 20000 in
theorem ggX11_holds_X11_together : GoodIn wsX11_holds wsX11_together := goodIn_r _ [6, 1, 7, 8, 5, 9, 10, 11, 12, 13, 14, 15, 16, 17, 18, 19, 20, 21, 22, 23, 24, 25, 26, 27, 28, 29, 30, 31, 32, 33, 34, 35, 36, 37, 38, 39, 40, 41] rfl (by decide +kernel)
set_option maxRecDepth 20000 in
theorem gX11_holds_X11_together : GoodIn wsX11_holds (wsV RX11 152 RX11 yX11_together wsX11_together) := goodIn_app (goodIn_of _ (by decide +kernel)) ggX11_holds_X11_together
theorem dX11_holds_0 : decode cX11_holds 0 = .ok (.aload_n 0, 1) := by decide +kernel
theorem dX11_holds_1 : decode cX11_holds 1 = .ok (.aload_n 0, 1) := by decide +kernel
theorem dX11_holds_2 : decode cX11_holds 2 = .ok (.getfield 7, 3) := by decide +kernel
theorem dX11_holds_5 : decode cX11_holds 5 = .ok (.bipush 56, 2) := by decide +kernel
theorem dX11_holds_7 : decode cX11_holds 7 = .ok (.iload_n 1, 1) := by decide +kernel
theorem dX11_holds_8 : decode cX11_holds 8 = .ok (.iadd, 1) := by decide +kernel
theorem dX11_holds_9 : decode cX11_holds 9 = .ok (.iaload, 1) := by decide +kernel
theorem dX11_holds_10 : decode cX11_holds 10 = .ok (.aload_n 2, 1) := by decide +kernel
theorem dX11_holds_11 : decode cX11_holds 11 = .ok (.invokevirtual 152, 3) := by decide +kernel
theorem dX11_holds_14 : decode cX11_holds 14 = .ok (.istore_n 3, 1) := by decide +kernel
theorem dX11_holds_15 : decode cX11_holds 15 = .ok (.aload_n 0, 1) := by decide +kernel
theorem dX11_holds_16 : decode cX11_holds 16 = .ok (.getfield 7, 3) := by decide +kernel
theorem dX11_holds_19 : decode cX11_holds 19 = .ok (.bipush 50, 2) := by decide +kernel
theorem dX11_holds_21 : decode cX11_holds 21 = .ok (.iload_n 1, 1) := by decide +kernel
theorem dX11_holds_22 : decode cX11_holds 22 = .ok (.iadd, 1) := by decide +kernel
theorem dX11_holds_23 : decode cX11_holds 23 = .ok (.iaload, 1) := by decide +kernel
theorem dX11_holds_24 : decode cX11_holds 24 = .ok (.istore 4, 2) := by decide +kernel
theorem dX11_holds_26 : decode cX11_holds 26 = .ok (.iload 4, 2) := by decide +kernel
theorem dX11_holds_28 : decode cX11_holds 28 = .ok (.ifCond .ne 24, 3) := by decide +kernel
theorem dX11_holds_31 : decode cX11_holds 31 = .ok (.iload_n 3, 1) := by decide +kernel
theorem dX11_holds_32 : decode cX11_holds 32 = .ok (.aload_n 0, 1) := by decide +kernel
theorem dX11_holds_33 : decode cX11_holds 33 = .ok (.getfield 7, 3) := by decide +kernel
theorem dX11_holds_36 : decode cX11_holds 36 = .ok (.bipush 62, 2) := by decide +kernel
theorem dX11_holds_38 : decode cX11_holds 38 = .ok (.iload_n 1, 1) := by decide +kernel
theorem dX11_holds_39 : decode cX11_holds 39 = .ok (.iadd, 1) := by decide +kernel
theorem dX11_holds_40 : decode cX11_holds 40 = .ok (.iaload, 1) := by decide +kernel
theorem dX11_holds_41 : decode cX11_holds 41 = .ok (.if_icmp .ne 7, 3) := by decide +kernel
theorem dX11_holds_44 : decode cX11_holds 44 = .ok (.iconst 1, 1) := by decide +kernel
theorem dX11_holds_45 : decode cX11_holds 45 = .ok (.goto 52, 3) := by decide +kernel
theorem dX11_holds_48 : decode cX11_holds 48 = .ok (.iconst 0, 1) := by decide +kernel
theorem dX11_holds_49 : decode cX11_holds 49 = .ok (.goto 48, 3) := by decide +kernel
theorem dX11_holds_52 : decode cX11_holds 52 = .ok (.iload 4, 2) := by decide +kernel
theorem dX11_holds_54 : decode cX11_holds 54 = .ok (.iconst 1, 1) := by decide +kernel
theorem dX11_holds_55 : decode cX11_holds 55 = .ok (.if_icmp .ne 24, 3) := by decide +kernel
theorem dX11_holds_58 : decode cX11_holds 58 = .ok (.iload_n 3, 1) := by decide +kernel
theorem dX11_holds_59 : decode cX11_holds 59 = .ok (.aload_n 0, 1) := by decide +kernel
theorem dX11_holds_60 : decode cX11_holds 60 = .ok (.getfield 7, 3) := by decide +kernel
theorem dX11_holds_63 : decode cX11_holds 63 = .ok (.bipush 62, 2) := by decide +kernel
theorem dX11_holds_65 : decode cX11_holds 65 = .ok (.iload_n 1, 1) := by decide +kernel
theorem dX11_holds_66 : decode cX11_holds 66 = .ok (.iadd, 1) := by decide +kernel
theorem dX11_holds_67 : decode cX11_holds 67 = .ok (.iaload, 1) := by decide +kernel
theorem dX11_holds_68 : decode cX11_holds 68 = .ok (.if_icmp .gt 7, 3) := by decide +kernel
theorem dX11_holds_71 : decode cX11_holds 71 = .ok (.iconst 1, 1) := by decide +kernel
theorem dX11_holds_72 : decode cX11_holds 72 = .ok (.goto 25, 3) := by decide +kernel
theorem dX11_holds_75 : decode cX11_holds 75 = .ok (.iconst 0, 1) := by decide +kernel
theorem dX11_holds_76 : decode cX11_holds 76 = .ok (.goto 21, 3) := by decide +kernel
theorem dX11_holds_79 : decode cX11_holds 79 = .ok (.iload_n 3, 1) := by decide +kernel
theorem dX11_holds_80 : decode cX11_holds 80 = .ok (.aload_n 0, 1) := by decide +kernel
theorem dX11_holds_81 : decode cX11_holds 81 = .ok (.getfield 7, 3) := by decide +kernel
theorem dX11_holds_84 : decode cX11_holds 84 = .ok (.bipush 62, 2) := by decide +kernel
theorem dX11_holds_86 : decode cX11_holds 86 = .ok (.iload_n 1, 1) := by decide +kernel
theorem dX11_holds_87 : decode cX11_holds 87 = .ok (.iadd, 1) := by decide +kernel
theorem dX11_holds_88 : decode cX11_holds 88 = .ok (.iaload, 1) := by decide +kernel
theorem dX11_holds_89 : decode cX11_holds 89 = .ok (.if_icmp .lt 7, 3) := by decide +kernel
theorem dX11_holds_92 : decode cX11_holds 92 = .ok (.iconst 1, 1) := by decide +kernel
theorem dX11_holds_93 : decode cX11_holds 93 = .ok (.goto 4, 3) := by decide +kernel
theorem dX11_holds_96 : decode cX11_holds 96 = .ok (.iconst 0, 1) := by decide +kernel
theorem dX11_holds_97 : decode cX11_holds 97 = .ok (.ireturn, 1) := by decide +kernel
set_option maxRecDepth 20000 in
theorem ggX11_holding_X11_holds : GoodIn wsX11_holding wsX11_holds := goodIn_r _ [6, 1, 7, 8, 9, 5, 10, 11, 12, 13, 14, 15, 16, 17, 18, 19, 20, 21, 22, 23, 24, 25, 26, 27, 28, 29, 30, 31, 32, 33, 34, 35, 36, 37, 38, 39, 40, 41, 42, 43, 44, 45] rfl (by decide +kernel)
set_option maxRecDepth 20000 in
theorem gX11_holding_X11_holds : GoodIn wsX11_holding (wsV RX11 156 RX11 yX11_holds wsX11_holds) := goodIn_app (goodIn_of _ (by decide +kernel)) ggX11_holding_X11_holds
theorem dX11_holding_0 : decode cX11_holding 0 = .ok (.iconst 0, 1) := by decide +kernel
theorem dX11_holding_1 : decode cX11_holding 1 = .ok (.istore_n 2, 1) := by decide +kernel
theorem dX11_holding_2 : decode cX11_holding 2 = .ok (.iconst 0, 1) := by decide +kernel
theorem dX11_holding_3 : decode cX11_holding 3 = .ok (.istore_n 3, 1) := by decide +kernel
theorem dX11_holding_4 : decode cX11_holding 4 = .ok (.iload_n 3, 1) := by decide +kernel
theorem dX11_holding_5 : decode cX11_holding 5 = .ok (.aload_n 0, 1) := by decide +kernel
theorem dX11_holding_6 : decode cX11_holding 6 = .ok (.getfield 7, 3) := by decide +kernel
theorem dX11_holding_9 : decode cX11_holding 9 = .ok (.iconst 4, 1) := by decide +kernel
theorem dX11_holding_10 : decode cX11_holding 10 = .ok (.iaload, 1) := by decide +kernel
theorem dX11_holding_11 : decode cX11_holding 11 = .ok (.if_icmp .ge 28, 3) := by decide +kernel
theorem dX11_holding_14 : decode cX11_holding 14 = .ok (.iload_n 2, 1) := by decide +kernel
theorem dX11_holding_15 : decode cX11_holding 15 = .ok (.aload_n 0, 1) := by decide +kernel
theorem dX11_holding_16 : decode cX11_holding 16 = .ok (.iload_n 3, 1) := by decide +kernel
theorem dX11_holding_17 : decode cX11_holding 17 = .ok (.aload_n 1, 1) := by decide +kernel
theorem dX11_holding_18 : decode cX11_holding 18 = .ok (.invokevirtual 156, 3) := by decide +kernel
theorem dX11_holding_21 : decode cX11_holding 21 = .ok (.ifCond .eq 9, 3) := by decide +kernel
theorem dX11_holding_24 : decode cX11_holding 24 = .ok (.iconst 1, 1) := by decide +kernel
theorem dX11_holding_25 : decode cX11_holding 25 = .ok (.iload_n 3, 1) := by decide +kernel
theorem dX11_holding_26 : decode cX11_holding 26 = .ok (.ishl, 1) := by decide +kernel
theorem dX11_holding_27 : decode cX11_holding 27 = .ok (.goto 4, 3) := by decide +kernel
theorem dX11_holding_30 : decode cX11_holding 30 = .ok (.iconst 0, 1) := by decide +kernel
theorem dX11_holding_31 : decode cX11_holding 31 = .ok (.ior, 1) := by decide +kernel
theorem dX11_holding_32 : decode cX11_holding 32 = .ok (.istore_n 2, 1) := by decide +kernel
theorem dX11_holding_33 : decode cX11_holding 33 = .ok (.iinc 3 1, 3) := by decide +kernel
theorem dX11_holding_36 : decode cX11_holding 36 = .ok (.goto (-32), 3) := by decide +kernel
theorem dX11_holding_39 : decode cX11_holding 39 = .ok (.iload_n 2, 1) := by decide +kernel
theorem dX11_holding_40 : decode cX11_holding 40 = .ok (.ireturn, 1) := by decide +kernel
theorem dX11_allTreaties_0 : decode cX11_allTreaties 0 = .ok (.iconst 1, 1) := by decide +kernel
theorem dX11_allTreaties_1 : decode cX11_allTreaties 1 = .ok (.aload_n 0, 1) := by decide +kernel
theorem dX11_allTreaties_2 : decode cX11_allTreaties 2 = .ok (.getfield 7, 3) := by decide +kernel
theorem dX11_allTreaties_5 : decode cX11_allTreaties 5 = .ok (.iconst 4, 1) := by decide +kernel
theorem dX11_allTreaties_6 : decode cX11_allTreaties 6 = .ok (.iaload, 1) := by decide +kernel
theorem dX11_allTreaties_7 : decode cX11_allTreaties 7 = .ok (.ishl, 1) := by decide +kernel
theorem dX11_allTreaties_8 : decode cX11_allTreaties 8 = .ok (.iconst 1, 1) := by decide +kernel
theorem dX11_allTreaties_9 : decode cX11_allTreaties 9 = .ok (.isub, 1) := by decide +kernel
theorem dX11_allTreaties_10 : decode cX11_allTreaties 10 = .ok (.ireturn, 1) := by decide +kernel
theorem dX11_right_0 : decode cX11_right 0 = .ok (.aload_n 0, 1) := by decide +kernel
theorem dX11_right_1 : decode cX11_right 1 = .ok (.getfield 7, 3) := by decide +kernel
theorem dX11_right_4 : decode cX11_right 4 = .ok (.iconst 1, 1) := by decide +kernel
theorem dX11_right_5 : decode cX11_right 5 = .ok (.iaload, 1) := by decide +kernel
theorem dX11_right_6 : decode cX11_right 6 = .ok (.ifCond .ne 7, 3) := by decide +kernel
theorem dX11_right_9 : decode cX11_right 9 = .ok (.iconst 0, 1) := by decide +kernel
theorem dX11_right_10 : decode cX11_right 10 = .ok (.goto 17, 3) := by decide +kernel
theorem dX11_right_13 : decode cX11_right 13 = .ok (.aload_n 0, 1) := by decide +kernel
theorem dX11_right_14 : decode cX11_right 14 = .ok (.getfield 16, 3) := by decide +kernel
theorem dX11_right_17 : decode cX11_right 17 = .ok (.bipush 10, 2) := by decide +kernel
theorem dX11_right_19 : decode cX11_right 19 = .ok (.iaload, 1) := by decide +kernel
theorem dX11_right_20 : decode cX11_right 20 = .ok (.aload_n 0, 1) := by decide +kernel
theorem dX11_right_21 : decode cX11_right 21 = .ok (.getfield 7, 3) := by decide +kernel
theorem dX11_right_24 : decode cX11_right 24 = .ok (.iconst 1, 1) := by decide +kernel
theorem dX11_right_25 : decode cX11_right 25 = .ok (.iaload, 1) := by decide +kernel
theorem dX11_right_26 : decode cX11_right 26 = .ok (.irem, 1) := by decide +kernel
theorem dX11_right_27 : decode cX11_right 27 = .ok (.ireturn, 1) := by decide +kernel
theorem dX11_wantedSet_0 : decode cX11_wantedSet 0 = .ok (.iconst 0, 1) := by decide +kernel
theorem dX11_wantedSet_1 : decode cX11_wantedSet 1 = .ok (.istore_n 1, 1) := by decide +kernel
theorem dX11_wantedSet_2 : decode cX11_wantedSet 2 = .ok (.iconst 0, 1) := by decide +kernel
theorem dX11_wantedSet_3 : decode cX11_wantedSet 3 = .ok (.istore_n 2, 1) := by decide +kernel
theorem dX11_wantedSet_4 : decode cX11_wantedSet 4 = .ok (.iload_n 2, 1) := by decide +kernel
theorem dX11_wantedSet_5 : decode cX11_wantedSet 5 = .ok (.bipush 9, 2) := by decide +kernel
theorem dX11_wantedSet_7 : decode cX11_wantedSet 7 = .ok (.if_icmp .ge 28, 3) := by decide +kernel
theorem dX11_wantedSet_10 : decode cX11_wantedSet 10 = .ok (.iload_n 1, 1) := by decide +kernel
theorem dX11_wantedSet_11 : decode cX11_wantedSet 11 = .ok (.aload_n 0, 1) := by decide +kernel
theorem dX11_wantedSet_12 : decode cX11_wantedSet 12 = .ok (.getfield 36, 3) := by decide +kernel
theorem dX11_wantedSet_15 : decode cX11_wantedSet 15 = .ok (.iload_n 2, 1) := by decide +kernel
theorem dX11_wantedSet_16 : decode cX11_wantedSet 16 = .ok (.iaload, 1) := by decide +kernel
theorem dX11_wantedSet_17 : decode cX11_wantedSet 17 = .ok (.ifCond .le 9, 3) := by decide +kernel
theorem dX11_wantedSet_20 : decode cX11_wantedSet 20 = .ok (.iconst 1, 1) := by decide +kernel
theorem dX11_wantedSet_21 : decode cX11_wantedSet 21 = .ok (.iload_n 2, 1) := by decide +kernel
theorem dX11_wantedSet_22 : decode cX11_wantedSet 22 = .ok (.ishl, 1) := by decide +kernel
theorem dX11_wantedSet_23 : decode cX11_wantedSet 23 = .ok (.goto 4, 3) := by decide +kernel
theorem dX11_wantedSet_26 : decode cX11_wantedSet 26 = .ok (.iconst 0, 1) := by decide +kernel
theorem dX11_wantedSet_27 : decode cX11_wantedSet 27 = .ok (.ior, 1) := by decide +kernel
theorem dX11_wantedSet_28 : decode cX11_wantedSet 28 = .ok (.istore_n 1, 1) := by decide +kernel
theorem dX11_wantedSet_29 : decode cX11_wantedSet 29 = .ok (.iinc 2 1, 3) := by decide +kernel
theorem dX11_wantedSet_32 : decode cX11_wantedSet 32 = .ok (.goto (-28), 3) := by decide +kernel
theorem dX11_wantedSet_35 : decode cX11_wantedSet 35 = .ok (.iload_n 1, 1) := by decide +kernel
theorem dX11_wantedSet_36 : decode cX11_wantedSet 36 = .ok (.ireturn, 1) := by decide +kernel
set_option maxRecDepth 20000 in
theorem ggX11_told_X11_right : GoodIn wsX11_told wsX11_right := goodIn_r _ [12, 1, 3, 33, 34, 35, 36, 37, 38, 39, 40, 41, 42, 43, 44, 45, 46, 47, 48, 49, 50, 51, 52, 53, 54, 55, 56, 57, 58, 59, 60, 61, 62, 63, 64] rfl (by decide +kernel)
set_option maxRecDepth 20000 in
theorem gX11_told_X11_right : GoodIn wsX11_told (wsV RX11 160 RX11 yX11_right wsX11_right) := goodIn_app (goodIn_of _ (by decide +kernel)) ggX11_told_X11_right
set_option maxRecDepth 20000 in
theorem ggX11_told_X11_holding : GoodIn wsX11_told wsX11_holding := goodIn_r _ [16, 1, 17, 18, 19, 11, 20, 21, 22, 23, 24, 25, 26, 27, 33, 34, 35, 36, 37, 38, 39, 40, 41, 42, 43, 44, 45, 46, 47, 48, 49, 50, 51, 52, 53, 54, 55, 56, 57, 58, 59, 60, 61, 62, 63, 64] rfl (by decide +kernel)
set_option maxRecDepth 20000 in
theorem gX11_told_X11_holding : GoodIn wsX11_told (wsV RX11 163 RX11 yX11_holding wsX11_holding) := goodIn_app (goodIn_of _ (by decide +kernel)) ggX11_told_X11_holding
set_option maxRecDepth 20000 in
theorem ggX11_told_X11_together : GoodIn wsX11_told wsX11_together := goodIn_r _ [24, 1, 25, 26, 11, 27, 33, 34, 35, 36, 37, 38, 39, 40, 41, 42, 43, 44, 45, 46, 47, 48, 49, 50, 51, 52, 53, 54, 55, 56, 57, 58, 59, 60, 61, 62, 63, 64] rfl (by decide +kernel)
set_option maxRecDepth 20000 in
theorem gX11_told_X11_together : GoodIn wsX11_told (wsV RX11 152 RX11 yX11_together wsX11_together) := goodIn_app (goodIn_of _ (by decide +kernel)) ggX11_told_X11_together
set_option maxRecDepth 20000 in
theorem ggX11_told_X11_wantedSet : GoodIn wsX11_told wsX11_wantedSet := goodIn_r _ [31, 32, 33, 34, 35, 36, 37, 38, 39, 40, 41, 42, 43, 44, 45, 46, 47, 48, 49, 50, 51, 52, 53, 54, 55, 56, 57, 58, 59, 60, 61, 62, 63, 64] rfl (by decide +kernel)
set_option maxRecDepth 20000 in
theorem gX11_told_X11_wantedSet : GoodIn wsX11_told (wsV RX11 167 RX11 yX11_wantedSet wsX11_wantedSet) := goodIn_app (goodIn_of _ (by decide +kernel)) ggX11_told_X11_wantedSet
theorem dX11_told_0 : decode cX11_told 0 = .ok (.iload_n 1, 1) := by decide +kernel
theorem dX11_told_1 : decode cX11_told 1 = .ok (.tableswitch 170 0 17 #[87, 87, 87, 87, 87, 94, 99, 107, 112, 120, 129, 129, 129, 138, 150, 155, 160, 165], 87) := by decide +kernel
theorem dX11_told_88 : decode cX11_told 88 = .ok (.aload_n 0, 1) := by decide +kernel
theorem dX11_told_89 : decode cX11_told 89 = .ok (.getfield 7, 3) := by decide +kernel
theorem dX11_told_92 : decode cX11_told 92 = .ok (.iload_n 1, 1) := by decide +kernel
theorem dX11_told_93 : decode cX11_told 93 = .ok (.iaload, 1) := by decide +kernel
theorem dX11_told_94 : decode cX11_told 94 = .ok (.ireturn, 1) := by decide +kernel
theorem dX11_told_95 : decode cX11_told 95 = .ok (.aload_n 0, 1) := by decide +kernel
theorem dX11_told_96 : decode cX11_told 96 = .ok (.getfield 88, 3) := by decide +kernel
theorem dX11_told_99 : decode cX11_told 99 = .ok (.ireturn, 1) := by decide +kernel
theorem dX11_told_100 : decode cX11_told 100 = .ok (.aload_n 0, 1) := by decide +kernel
theorem dX11_told_101 : decode cX11_told 101 = .ok (.getfield 16, 3) := by decide +kernel
theorem dX11_told_104 : decode cX11_told 104 = .ok (.bipush 10, 2) := by decide +kernel
theorem dX11_told_106 : decode cX11_told 106 = .ok (.iaload, 1) := by decide +kernel
theorem dX11_told_107 : decode cX11_told 107 = .ok (.ireturn, 1) := by decide +kernel
theorem dX11_told_108 : decode cX11_told 108 = .ok (.aload_n 0, 1) := by decide +kernel
theorem dX11_told_109 : decode cX11_told 109 = .ok (.invokevirtual 160, 3) := by decide +kernel
theorem dX11_told_112 : decode cX11_told 112 = .ok (.ireturn, 1) := by decide +kernel
theorem dX11_told_113 : decode cX11_told 113 = .ok (.aload_n 0, 1) := by decide +kernel
theorem dX11_told_114 : decode cX11_told 114 = .ok (.getfield 16, 3) := by decide +kernel
theorem dX11_told_117 : decode cX11_told 117 = .ok (.bipush 9, 2) := by decide +kernel
theorem dX11_told_119 : decode cX11_told 119 = .ok (.iaload, 1) := by decide +kernel
theorem dX11_told_120 : decode cX11_told 120 = .ok (.ireturn, 1) := by decide +kernel
theorem dX11_told_121 : decode cX11_told 121 = .ok (.aload_n 0, 1) := by decide +kernel
theorem dX11_told_122 : decode cX11_told 122 = .ok (.aload_n 0, 1) := by decide +kernel
theorem dX11_told_123 : decode cX11_told 123 = .ok (.getfield 16, 3) := by decide +kernel
theorem dX11_told_126 : decode cX11_told 126 = .ok (.invokevirtual 163, 3) := by decide +kernel
theorem dX11_told_129 : decode cX11_told 129 = .ok (.ireturn, 1) := by decide +kernel
theorem dX11_told_130 : decode cX11_told 130 = .ok (.aload_n 0, 1) := by decide +kernel
theorem dX11_told_131 : decode cX11_told 131 = .ok (.getfield 16, 3) := by decide +kernel
theorem dX11_told_134 : decode cX11_told 134 = .ok (.iload_n 1, 1) := by decide +kernel
theorem dX11_told_135 : decode cX11_told 135 = .ok (.iconst 1, 1) := by decide +kernel
theorem dX11_told_136 : decode cX11_told 136 = .ok (.iadd, 1) := by decide +kernel
theorem dX11_told_137 : decode cX11_told 137 = .ok (.iaload, 1) := by decide +kernel
theorem dX11_told_138 : decode cX11_told 138 = .ok (.ireturn, 1) := by decide +kernel
theorem dX11_told_139 : decode cX11_told 139 = .ok (.aload_n 0, 1) := by decide +kernel
theorem dX11_told_140 : decode cX11_told 140 = .ok (.sipush 511, 3) := by decide +kernel
theorem dX11_told_143 : decode cX11_told 143 = .ok (.aload_n 0, 1) := by decide +kernel
theorem dX11_told_144 : decode cX11_told 144 = .ok (.getfield 16, 3) := by decide +kernel
theorem dX11_told_147 : decode cX11_told 147 = .ok (.invokevirtual 152, 3) := by decide +kernel
theorem dX11_told_150 : decode cX11_told 150 = .ok (.ireturn, 1) := by decide +kernel
theorem dX11_told_151 : decode cX11_told 151 = .ok (.aload_n 0, 1) := by decide +kernel
theorem dX11_told_152 : decode cX11_told 152 = .ok (.getfield 75, 3) := by decide +kernel
theorem dX11_told_155 : decode cX11_told 155 = .ok (.ireturn, 1) := by decide +kernel
theorem dX11_told_156 : decode cX11_told 156 = .ok (.aload_n 0, 1) := by decide +kernel
theorem dX11_told_157 : decode cX11_told 157 = .ok (.getfield 78, 3) := by decide +kernel
theorem dX11_told_160 : decode cX11_told 160 = .ok (.ireturn, 1) := by decide +kernel
theorem dX11_told_161 : decode cX11_told 161 = .ok (.aload_n 0, 1) := by decide +kernel
theorem dX11_told_162 : decode cX11_told 162 = .ok (.invokevirtual 167, 3) := by decide +kernel
theorem dX11_told_165 : decode cX11_told 165 = .ok (.ireturn, 1) := by decide +kernel
theorem dX11_told_166 : decode cX11_told 166 = .ok (.aload_n 0, 1) := by decide +kernel
theorem dX11_told_167 : decode cX11_told 167 = .ok (.getfield 72, 3) := by decide +kernel
theorem dX11_told_170 : decode cX11_told 170 = .ok (.ireturn, 1) := by decide +kernel
theorem dX11_told_171 : decode cX11_told 171 = .ok (.ldc 87, 2) := by decide +kernel
theorem dX11_told_173 : decode cX11_told 173 = .ok (.ireturn, 1) := by decide +kernel
set_option maxRecDepth 20000 in
theorem ggX11_road_X11_isRoad : GoodIn wsX11_road wsX11_isRoad := goodIn_r _ [10, 2, 11, 12, 9, 13, 14, 15, 16, 17, 18, 19, 20, 21, 22, 23, 24, 25, 26, 27, 28, 29, 30, 31, 32, 33, 34, 35, 36, 37, 38, 39, 40, 41, 42, 43, 44, 45] rfl (by decide +kernel)
set_option maxRecDepth 20000 in
theorem gX11_road_X11_isRoad : GoodIn wsX11_road (wsV RX11 170 RX11 yX11_isRoad wsX11_isRoad) := goodIn_app (goodIn_of _ (by decide +kernel)) ggX11_road_X11_isRoad
theorem dX11_road_0 : decode cX11_road 0 = .ok (.aload_n 0, 1) := by decide +kernel
theorem dX11_road_1 : decode cX11_road 1 = .ok (.iload_n 1, 1) := by decide +kernel
theorem dX11_road_2 : decode cX11_road 2 = .ok (.invokevirtual 170, 3) := by decide +kernel
theorem dX11_road_5 : decode cX11_road 5 = .ok (.ifCond .ne 6, 3) := by decide +kernel
theorem dX11_road_8 : decode cX11_road 8 = .ok (.ldc 173, 2) := by decide +kernel
theorem dX11_road_10 : decode cX11_road 10 = .ok (.ireturn, 1) := by decide +kernel
theorem dX11_road_11 : decode cX11_road 11 = .ok (.iload_n 2, 1) := by decide +kernel
theorem dX11_road_12 : decode cX11_road 12 = .ok (.tableswitch 120 0 6 #[44, 53, 63, 73, 80, 90, 100], 44) := by decide +kernel
theorem dX11_road_56 : decode cX11_road 56 = .ok (.aload_n 0, 1) := by decide +kernel
theorem dX11_road_57 : decode cX11_road 57 = .ok (.getfield 7, 3) := by decide +kernel
theorem dX11_road_60 : decode cX11_road 60 = .ok (.iconst 5, 1) := by decide +kernel
theorem dX11_road_61 : decode cX11_road 61 = .ok (.iload_n 1, 1) := by decide +kernel
theorem dX11_road_62 : decode cX11_road 62 = .ok (.iadd, 1) := by decide +kernel
theorem dX11_road_63 : decode cX11_road 63 = .ok (.iaload, 1) := by decide +kernel
theorem dX11_road_64 : decode cX11_road 64 = .ok (.ireturn, 1) := by decide +kernel
theorem dX11_road_65 : decode cX11_road 65 = .ok (.aload_n 0, 1) := by decide +kernel
theorem dX11_road_66 : decode cX11_road 66 = .ok (.getfield 7, 3) := by decide +kernel
theorem dX11_road_69 : decode cX11_road 69 = .ok (.bipush 14, 2) := by decide +kernel
theorem dX11_road_71 : decode cX11_road 71 = .ok (.iload_n 1, 1) := by decide +kernel
theorem dX11_road_72 : decode cX11_road 72 = .ok (.iadd, 1) := by decide +kernel
theorem dX11_road_73 : decode cX11_road 73 = .ok (.iaload, 1) := by decide +kernel
theorem dX11_road_74 : decode cX11_road 74 = .ok (.ireturn, 1) := by decide +kernel
theorem dX11_road_75 : decode cX11_road 75 = .ok (.aload_n 0, 1) := by decide +kernel
theorem dX11_road_76 : decode cX11_road 76 = .ok (.getfield 7, 3) := by decide +kernel
theorem dX11_road_79 : decode cX11_road 79 = .ok (.bipush 23, 2) := by decide +kernel
theorem dX11_road_81 : decode cX11_road 81 = .ok (.iload_n 1, 1) := by decide +kernel
theorem dX11_road_82 : decode cX11_road 82 = .ok (.iadd, 1) := by decide +kernel
theorem dX11_road_83 : decode cX11_road 83 = .ok (.iaload, 1) := by decide +kernel
theorem dX11_road_84 : decode cX11_road 84 = .ok (.ireturn, 1) := by decide +kernel
theorem dX11_road_85 : decode cX11_road 85 = .ok (.aload_n 0, 1) := by decide +kernel
theorem dX11_road_86 : decode cX11_road 86 = .ok (.getfield 16, 3) := by decide +kernel
theorem dX11_road_89 : decode cX11_road 89 = .ok (.iload_n 1, 1) := by decide +kernel
theorem dX11_road_90 : decode cX11_road 90 = .ok (.iaload, 1) := by decide +kernel
theorem dX11_road_91 : decode cX11_road 91 = .ok (.ireturn, 1) := by decide +kernel
theorem dX11_road_92 : decode cX11_road 92 = .ok (.aload_n 0, 1) := by decide +kernel
theorem dX11_road_93 : decode cX11_road 93 = .ok (.getfield 7, 3) := by decide +kernel
theorem dX11_road_96 : decode cX11_road 96 = .ok (.bipush 32, 2) := by decide +kernel
theorem dX11_road_98 : decode cX11_road 98 = .ok (.iload_n 1, 1) := by decide +kernel
theorem dX11_road_99 : decode cX11_road 99 = .ok (.iadd, 1) := by decide +kernel
theorem dX11_road_100 : decode cX11_road 100 = .ok (.iaload, 1) := by decide +kernel
theorem dX11_road_101 : decode cX11_road 101 = .ok (.ireturn, 1) := by decide +kernel
theorem dX11_road_102 : decode cX11_road 102 = .ok (.aload_n 0, 1) := by decide +kernel
theorem dX11_road_103 : decode cX11_road 103 = .ok (.getfield 7, 3) := by decide +kernel
theorem dX11_road_106 : decode cX11_road 106 = .ok (.bipush 41, 2) := by decide +kernel
theorem dX11_road_108 : decode cX11_road 108 = .ok (.iload_n 1, 1) := by decide +kernel
theorem dX11_road_109 : decode cX11_road 109 = .ok (.iadd, 1) := by decide +kernel
theorem dX11_road_110 : decode cX11_road 110 = .ok (.iaload, 1) := by decide +kernel
theorem dX11_road_111 : decode cX11_road 111 = .ok (.ireturn, 1) := by decide +kernel
theorem dX11_road_112 : decode cX11_road 112 = .ok (.aload_n 0, 1) := by decide +kernel
theorem dX11_road_113 : decode cX11_road 113 = .ok (.getfield 36, 3) := by decide +kernel
theorem dX11_road_116 : decode cX11_road 116 = .ok (.iload_n 1, 1) := by decide +kernel
theorem dX11_road_117 : decode cX11_road 117 = .ok (.iaload, 1) := by decide +kernel
theorem dX11_road_118 : decode cX11_road 118 = .ok (.ifCond .ne 7, 3) := by decide +kernel
theorem dX11_road_121 : decode cX11_road 121 = .ok (.iconst (-1), 1) := by decide +kernel
theorem dX11_road_122 : decode cX11_road 122 = .ok (.goto 9, 3) := by decide +kernel
theorem dX11_road_125 : decode cX11_road 125 = .ok (.aload_n 0, 1) := by decide +kernel
theorem dX11_road_126 : decode cX11_road 126 = .ok (.getfield 36, 3) := by decide +kernel
theorem dX11_road_129 : decode cX11_road 129 = .ok (.iload_n 1, 1) := by decide +kernel
theorem dX11_road_130 : decode cX11_road 130 = .ok (.iaload, 1) := by decide +kernel
theorem dX11_road_131 : decode cX11_road 131 = .ok (.ireturn, 1) := by decide +kernel
theorem dX11_road_132 : decode cX11_road 132 = .ok (.ldc 87, 2) := by decide +kernel
theorem dX11_road_134 : decode cX11_road 134 = .ok (.ireturn, 1) := by decide +kernel
set_option maxRecDepth 20000 in
theorem ggX11_treaty_X11_in : GoodIn wsX11_treaty wsX11_in := goodIn_r _ [9] rfl (by decide +kernel)
set_option maxRecDepth 20000 in
theorem gX11_treaty_X11_in : GoodIn wsX11_treaty (va_wsS RX11 83 yX11_in wsX11_in) := goodIn_app (goodIn_of _ (by decide +kernel)) ggX11_treaty_X11_in
set_option maxRecDepth 20000 in
theorem ggX11_treaty_X11_together : GoodIn wsX11_treaty wsX11_together := goodIn_r _ [13, 1, 14, 15, 8, 16, 21, 22, 23, 24, 25, 26, 27, 28, 29, 30, 31, 32, 33, 34, 35, 36, 37, 38, 39, 40, 41, 42, 43, 44, 45, 46, 47, 48, 49, 50, 51, 52] rfl (by decide +kernel)
set_option maxRecDepth 20000 in
theorem gX11_treaty_X11_together : GoodIn wsX11_treaty (wsV RX11 152 RX11 yX11_together wsX11_together) := goodIn_app (goodIn_of _ (by decide +kernel)) ggX11_treaty_X11_together
set_option maxRecDepth 20000 in
theorem ggX11_treaty_X11_holds : GoodIn wsX11_treaty wsX11_holds := goodIn_r _ [20, 1, 10, 11, 12, 8, 13, 14, 15, 16, 21, 22, 23, 24, 25, 26, 27, 28, 29, 30, 31, 32, 33, 34, 35, 36, 37, 38, 39, 40, 41, 42, 43, 44, 45, 46, 47, 48, 49, 50, 51, 52] rfl (by decide +kernel)
set_option maxRecDepth 20000 in
theorem gX11_treaty_X11_holds : GoodIn wsX11_treaty (wsV RX11 156 RX11 yX11_holds wsX11_holds) := goodIn_app (goodIn_of _ (by decide +kernel)) ggX11_treaty_X11_holds
theorem dX11_treaty_0 : decode cX11_treaty 0 = .ok (.iload_n 1, 1) := by decide +kernel
theorem dX11_treaty_1 : decode cX11_treaty 1 = .ok (.i2l, 1) := by decide +kernel
theorem dX11_treaty_2 : decode cX11_treaty 2 = .ok (.lconst 0, 1) := by decide +kernel
theorem dX11_treaty_3 : decode cX11_treaty 3 = .ok (.aload_n 0, 1) := by decide +kernel
theorem dX11_treaty_4 : decode cX11_treaty 4 = .ok (.getfield 7, 3) := by decide +kernel
theorem dX11_treaty_7 : decode cX11_treaty 7 = .ok (.iconst 4, 1) := by decide +kernel
theorem dX11_treaty_8 : decode cX11_treaty 8 = .ok (.iaload, 1) := by decide +kernel
theorem dX11_treaty_9 : decode cX11_treaty 9 = .ok (.iconst 1, 1) := by decide +kernel
theorem dX11_treaty_10 : decode cX11_treaty 10 = .ok (.isub, 1) := by decide +kernel
theorem dX11_treaty_11 : decode cX11_treaty 11 = .ok (.i2l, 1) := by decide +kernel
theorem dX11_treaty_12 : decode cX11_treaty 12 = .ok (.invokestatic 83, 3) := by decide +kernel
theorem dX11_treaty_15 : decode cX11_treaty 15 = .ok (.ifCond .ne 6, 3) := by decide +kernel
theorem dX11_treaty_18 : decode cX11_treaty 18 = .ok (.ldc 173, 2) := by decide +kernel
theorem dX11_treaty_20 : decode cX11_treaty 20 = .ok (.ireturn, 1) := by decide +kernel
theorem dX11_treaty_21 : decode cX11_treaty 21 = .ok (.iload_n 2, 1) := by decide +kernel
theorem dX11_treaty_22 : decode cX11_treaty 22 = .ok (.i2l, 1) := by decide +kernel
theorem dX11_treaty_23 : decode cX11_treaty 23 = .ok (.lconst 0, 1) := by decide +kernel
theorem dX11_treaty_24 : decode cX11_treaty 24 = .ok (.ldc2_w 174, 3) := by decide +kernel
theorem dX11_treaty_27 : decode cX11_treaty 27 = .ok (.invokestatic 83, 3) := by decide +kernel
theorem dX11_treaty_30 : decode cX11_treaty 30 = .ok (.ifCond .ne 6, 3) := by decide +kernel
theorem dX11_treaty_33 : decode cX11_treaty 33 = .ok (.ldc 87, 2) := by decide +kernel
theorem dX11_treaty_35 : decode cX11_treaty 35 = .ok (.ireturn, 1) := by decide +kernel
theorem dX11_treaty_36 : decode cX11_treaty 36 = .ok (.iload_n 2, 1) := by decide +kernel
theorem dX11_treaty_37 : decode cX11_treaty 37 = .ok (.iconst 3, 1) := by decide +kernel
theorem dX11_treaty_38 : decode cX11_treaty 38 = .ok (.if_icmp .ge 20, 3) := by decide +kernel
theorem dX11_treaty_41 : decode cX11_treaty 41 = .ok (.aload_n 0, 1) := by decide +kernel
theorem dX11_treaty_42 : decode cX11_treaty 42 = .ok (.getfield 7, 3) := by decide +kernel
theorem dX11_treaty_45 : decode cX11_treaty 45 = .ok (.bipush 50, 2) := by decide +kernel
theorem dX11_treaty_47 : decode cX11_treaty 47 = .ok (.bipush 6, 2) := by decide +kernel
theorem dX11_treaty_49 : decode cX11_treaty 49 = .ok (.iload_n 2, 1) := by decide +kernel
theorem dX11_treaty_50 : decode cX11_treaty 50 = .ok (.imul, 1) := by decide +kernel
theorem dX11_treaty_51 : decode cX11_treaty 51 = .ok (.iadd, 1) := by decide +kernel
theorem dX11_treaty_52 : decode cX11_treaty 52 = .ok (.iload_n 1, 1) := by decide +kernel
theorem dX11_treaty_53 : decode cX11_treaty 53 = .ok (.iadd, 1) := by decide +kernel
theorem dX11_treaty_54 : decode cX11_treaty 54 = .ok (.iaload, 1) := by decide +kernel
theorem dX11_treaty_55 : decode cX11_treaty 55 = .ok (.goto 45, 3) := by decide +kernel
theorem dX11_treaty_58 : decode cX11_treaty 58 = .ok (.iload_n 2, 1) := by decide +kernel
theorem dX11_treaty_59 : decode cX11_treaty 59 = .ok (.iconst 3, 1) := by decide +kernel
theorem dX11_treaty_60 : decode cX11_treaty 60 = .ok (.if_icmp .ne 23, 3) := by decide +kernel
theorem dX11_treaty_63 : decode cX11_treaty 63 = .ok (.aload_n 0, 1) := by decide +kernel
theorem dX11_treaty_64 : decode cX11_treaty 64 = .ok (.aload_n 0, 1) := by decide +kernel
theorem dX11_treaty_65 : decode cX11_treaty 65 = .ok (.getfield 7, 3) := by decide +kernel
