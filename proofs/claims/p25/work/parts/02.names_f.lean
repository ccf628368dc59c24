theorem dX6_readClause_67 : decode cX6_readClause 67 = .ok (.dup, 1) := by decide +kernel
theorem dX6_readClause_68 : decode cX6_readClause 68 = .ok (.getfield 32, 3) := by decide +kernel
theorem dX6_readClause_71 : decode cX6_readClause 71 = .ok (.iconst 1, 1) := by decide +kernel
theorem dX6_readClause_72 : decode cX6_readClause 72 = .ok (.iadd, 1) := by decide +kernel
theorem dX6_readClause_73 : decode cX6_readClause 73 = .ok (.putfield 32, 3) := by decide +kernel
theorem dX6_readClause_76 : decode cX6_readClause 76 = .ok (.aload_n 0, 1) := by decide +kernel
theorem dX6_readClause_77 : decode cX6_readClause 77 = .ok (.invokevirtual 57, 3) := by decide +kernel
theorem dX6_readClause_80 : decode cX6_readClause 80 = .ok (.goto 100, 3) := by decide +kernel
theorem dX6_readClause_83 : decode cX6_readClause 83 = .ok (.iload_n 1, 1) := by decide +kernel
theorem dX6_readClause_84 : decode cX6_readClause 84 = .ok (.bipush 116, 2) := by decide +kernel
theorem dX6_readClause_86 : decode cX6_readClause 86 = .ok (.if_icmp .ne 42, 3) := by decide +kernel
theorem dX6_readClause_89 : decode cX6_readClause 89 = .ok (.aload_n 0, 1) := by decide +kernel
theorem dX6_readClause_90 : decode cX6_readClause 90 = .ok (.getfield 18, 3) := by decide +kernel
theorem dX6_readClause_93 : decode cX6_readClause 93 = .ok (.getfield 48, 3) := by decide +kernel
theorem dX6_readClause_96 : decode cX6_readClause 96 = .ok (.ifCond .le 32, 3) := by decide +kernel
theorem dX6_readClause_99 : decode cX6_readClause 99 = .ok (.aload_n 0, 1) := by decide +kernel
theorem dX6_readClause_100 : decode cX6_readClause 100 = .ok (.getfield 18, 3) := by decide +kernel
theorem dX6_readClause_103 : decode cX6_readClause 103 = .ok (.getfield 60, 3) := by decide +kernel
theorem dX6_readClause_106 : decode cX6_readClause 106 = .ok (.bipush 6, 2) := by decide +kernel
theorem dX6_readClause_108 : decode cX6_readClause 108 = .ok (.if_icmp .ge 20, 3) := by decide +kernel
theorem dX6_readClause_111 : decode cX6_readClause 111 = .ok (.aload_n 0, 1) := by decide +kernel
theorem dX6_readClause_112 : decode cX6_readClause 112 = .ok (.dup, 1) := by decide +kernel
theorem dX6_readClause_113 : decode cX6_readClause 113 = .ok (.getfield 32, 3) := by decide +kernel
theorem dX6_readClause_116 : decode cX6_readClause 116 = .ok (.iconst 1, 1) := by decide +kernel
theorem dX6_readClause_117 : decode cX6_readClause 117 = .ok (.iadd, 1) := by decide +kernel
theorem dX6_readClause_118 : decode cX6_readClause 118 = .ok (.putfield 32, 3) := by decide +kernel
theorem dX6_readClause_121 : decode cX6_readClause 121 = .ok (.aload_n 0, 1) := by decide +kernel
theorem dX6_readClause_122 : decode cX6_readClause 122 = .ok (.invokevirtual 63, 3) := by decide +kernel
theorem dX6_readClause_125 : decode cX6_readClause 125 = .ok (.goto 55, 3) := by decide +kernel
theorem dX6_readClause_128 : decode cX6_readClause 128 = .ok (.iload_n 1, 1) := by decide +kernel
theorem dX6_readClause_129 : decode cX6_readClause 129 = .ok (.bipush 109, 2) := by decide +kernel
theorem dX6_readClause_131 : decode cX6_readClause 131 = .ok (.if_icmp .eq 15, 3) := by decide +kernel
theorem dX6_readClause_134 : decode cX6_readClause 134 = .ok (.iload_n 1, 1) := by decide +kernel
theorem dX6_readClause_135 : decode cX6_readClause 135 = .ok (.bipush 114, 2) := by decide +kernel
theorem dX6_readClause_137 : decode cX6_readClause 137 = .ok (.if_icmp .eq 9, 3) := by decide +kernel
theorem dX6_readClause_140 : decode cX6_readClause 140 = .ok (.iload_n 1, 1) := by decide +kernel
theorem dX6_readClause_141 : decode cX6_readClause 141 = .ok (.bipush 116, 2) := by decide +kernel
theorem dX6_readClause_143 : decode cX6_readClause 143 = .ok (.if_icmp .ne 7, 3) := by decide +kernel
theorem dX6_readClause_146 : decode cX6_readClause 146 = .ok (.iconst 1, 1) := by decide +kernel
theorem dX6_readClause_147 : decode cX6_readClause 147 = .ok (.goto 4, 3) := by decide +kernel
theorem dX6_readClause_150 : decode cX6_readClause 150 = .ok (.iconst 0, 1) := by decide +kernel
theorem dX6_readClause_151 : decode cX6_readClause 151 = .ok (.istore_n 2, 1) := by decide +kernel
theorem dX6_readClause_152 : decode cX6_readClause 152 = .ok (.aload_n 0, 1) := by decide +kernel
theorem dX6_readClause_153 : decode cX6_readClause 153 = .ok (.iload_n 2, 1) := by decide +kernel
theorem dX6_readClause_154 : decode cX6_readClause 154 = .ok (.ifCond .eq 17, 3) := by decide +kernel
theorem dX6_readClause_157 : decode cX6_readClause 157 = .ok (.aload_n 0, 1) := by decide +kernel
theorem dX6_readClause_158 : decode cX6_readClause 158 = .ok (.getfield 18, 3) := by decide +kernel
theorem dX6_readClause_161 : decode cX6_readClause 161 = .ok (.getfield 48, 3) := by decide +kernel
theorem dX6_readClause_164 : decode cX6_readClause 164 = .ok (.ifCond .le 7, 3) := by decide +kernel
theorem dX6_readClause_167 : decode cX6_readClause 167 = .ok (.iconst 3, 1) := by decide +kernel
theorem dX6_readClause_168 : decode cX6_readClause 168 = .ok (.goto 4, 3) := by decide +kernel
theorem dX6_readClause_171 : decode cX6_readClause 171 = .ok (.iconst 1, 1) := by decide +kernel
theorem dX6_readClause_172 : decode cX6_readClause 172 = .ok (.aload_n 0, 1) := by decide +kernel
theorem dX6_readClause_173 : decode cX6_readClause 173 = .ok (.getfield 32, 3) := by decide +kernel
theorem dX6_readClause_176 : decode cX6_readClause 176 = .ok (.invokevirtual 66, 3) := by decide +kernel
theorem dX6_readClause_179 : decode cX6_readClause 179 = .ok (.pop, 1) := by decide +kernel
theorem dX6_readClause_180 : decode cX6_readClause 180 = .ok (.return_, 1) := by decide +kernel
set_option maxRecDepth 20000 in
theorem ggX6_readNumber_X6_skipBlanks : GoodIn wsX6_readNumber wsX6_skipBlanks := goodIn_r _ [9, 1, 4, 10, 25, 26, 27, 28, 29, 30, 31, 32] rfl (by decide +kernel)
set_option maxRecDepth 20000 in
theorem gX6_readNumber_X6_skipBlanks : GoodIn wsX6_readNumber (wsV RX6 38 RX6 yX6_skipBlanks wsX6_skipBlanks) := goodIn_app (goodIn_of _ (by decide +kernel)) ggX6_readNumber_X6_skipBlanks
set_option maxRecDepth 20000 in
theorem ggX6_readNumber_X6_atFigure : GoodIn wsX6_readNumber wsX6_atFigure := goodIn_r _ [14, 1, 4, 10, 25, 26, 27, 28, 29, 30, 31, 32] rfl (by decide +kernel)
set_option maxRecDepth 20000 in
theorem gX6_readNumber_X6_atFigure : GoodIn wsX6_readNumber (wsV RX6 70 RX6 yX6_atFigure wsX6_atFigure) := goodIn_app (goodIn_of _ (by decide +kernel)) ggX6_readNumber_X6_atFigure
set_option maxRecDepth 20000 in
theorem ggX6_readNumber_X6_fail : GoodIn wsX6_readNumber wsX6_fail := goodIn_r _ [18, 19, 20, 25, 26, 27, 28, 29, 30, 31, 32] rfl (by decide +kernel)
set_option maxRecDepth 20000 in
theorem gX6_readNumber_X6_fail : GoodIn wsX6_readNumber (wsV RX6 66 RX6 yX6_fail wsX6_fail) := goodIn_app (goodIn_of _ (by decide +kernel)) ggX6_readNumber_X6_fail
set_option maxRecDepth 20000 in
theorem ggX6_readNumber_X6_letter : GoodIn wsX6_readNumber wsX6_letter := goodIn_r _ [24, 1, 4, 10, 25, 26, 27, 28, 29, 30, 31, 32] rfl (by decide +kernel)
set_option maxRecDepth 20000 in
theorem gX6_readNumber_X6_letter : GoodIn wsX6_readNumber (wsV RX6 44 RX6 yX6_letter wsX6_letter) := goodIn_app (goodIn_of _ (by decide +kernel)) ggX6_readNumber_X6_letter
theorem dX6_readNumber_0 : decode cX6_readNumber 0 = .ok (.aload_n 0, 1) := by decide +kernel
theorem dX6_readNumber_1 : decode cX6_readNumber 1 = .ok (.invokevirtual 38, 3) := by decide +kernel
theorem dX6_readNumber_4 : decode cX6_readNumber 4 = .ok (.aload_n 0, 1) := by decide +kernel
theorem dX6_readNumber_5 : decode cX6_readNumber 5 = .ok (.invokevirtual 70, 3) := by decide +kernel
theorem dX6_readNumber_8 : decode cX6_readNumber 8 = .ok (.ifCond .ne 13, 3) := by decide +kernel
theorem dX6_readNumber_11 : decode cX6_readNumber 11 = .ok (.aload_n 0, 1) := by decide +kernel
theorem dX6_readNumber_12 : decode cX6_readNumber 12 = .ok (.iconst 1, 1) := by decide +kernel
theorem dX6_readNumber_13 : decode cX6_readNumber 13 = .ok (.aload_n 0, 1) := by decide +kernel
theorem dX6_readNumber_14 : decode cX6_readNumber 14 = .ok (.getfield 32, 3) := by decide +kernel
theorem dX6_readNumber_17 : decode cX6_readNumber 17 = .ok (.invokevirtual 66, 3) := by decide +kernel
theorem dX6_readNumber_20 : decode cX6_readNumber 20 = .ok (.ireturn, 1) := by decide +kernel
theorem dX6_readNumber_21 : decode cX6_readNumber 21 = .ok (.aload_n 0, 1) := by decide +kernel
theorem dX6_readNumber_22 : decode cX6_readNumber 22 = .ok (.aload_n 0, 1) := by decide +kernel
theorem dX6_readNumber_23 : decode cX6_readNumber 23 = .ok (.getfield 32, 3) := by decide +kernel
theorem dX6_readNumber_26 : decode cX6_readNumber 26 = .ok (.putfield 74, 3) := by decide +kernel
theorem dX6_readNumber_29 : decode cX6_readNumber 29 = .ok (.aload_n 0, 1) := by decide +kernel
theorem dX6_readNumber_30 : decode cX6_readNumber 30 = .ok (.iconst 0, 1) := by decide +kernel
theorem dX6_readNumber_31 : decode cX6_readNumber 31 = .ok (.putfield 77, 3) := by decide +kernel
theorem dX6_readNumber_34 : decode cX6_readNumber 34 = .ok (.aload_n 0, 1) := by decide +kernel
theorem dX6_readNumber_35 : decode cX6_readNumber 35 = .ok (.getfield 32, 3) := by decide +kernel
theorem dX6_readNumber_38 : decode cX6_readNumber 38 = .ok (.aload_n 0, 1) := by decide +kernel
theorem dX6_readNumber_39 : decode cX6_readNumber 39 = .ok (.getfield 26, 3) := by decide +kernel
theorem dX6_readNumber_42 : decode cX6_readNumber 42 = .ok (.if_icmp .ge 55, 3) := by decide +kernel
theorem dX6_readNumber_45 : decode cX6_readNumber 45 = .ok (.aload_n 0, 1) := by decide +kernel
theorem dX6_readNumber_46 : decode cX6_readNumber 46 = .ok (.invokevirtual 70, 3) := by decide +kernel
theorem dX6_readNumber_49 : decode cX6_readNumber 49 = .ok (.ifCond .eq 48, 3) := by decide +kernel
theorem dX6_readNumber_52 : decode cX6_readNumber 52 = .ok (.aload_n 0, 1) := by decide +kernel
theorem dX6_readNumber_53 : decode cX6_readNumber 53 = .ok (.getfield 32, 3) := by decide +kernel
theorem dX6_readNumber_56 : decode cX6_readNumber 56 = .ok (.aload_n 0, 1) := by decide +kernel
theorem dX6_readNumber_57 : decode cX6_readNumber 57 = .ok (.getfield 74, 3) := by decide +kernel
theorem dX6_readNumber_60 : decode cX6_readNumber 60 = .ok (.isub, 1) := by decide +kernel
theorem dX6_readNumber_61 : decode cX6_readNumber 61 = .ok (.iconst 3, 1) := by decide +kernel
theorem dX6_readNumber_62 : decode cX6_readNumber 62 = .ok (.if_icmp .ge 22, 3) := by decide +kernel
theorem dX6_readNumber_65 : decode cX6_readNumber 65 = .ok (.aload_n 0, 1) := by decide +kernel
theorem dX6_readNumber_66 : decode cX6_readNumber 66 = .ok (.bipush 10, 2) := by decide +kernel
theorem dX6_readNumber_68 : decode cX6_readNumber 68 = .ok (.aload_n 0, 1) := by decide +kernel
theorem dX6_readNumber_69 : decode cX6_readNumber 69 = .ok (.getfield 77, 3) := by decide +kernel
theorem dX6_readNumber_72 : decode cX6_readNumber 72 = .ok (.imul, 1) := by decide +kernel
theorem dX6_readNumber_73 : decode cX6_readNumber 73 = .ok (.aload_n 0, 1) := by decide +kernel
theorem dX6_readNumber_74 : decode cX6_readNumber 74 = .ok (.invokevirtual 44, 3) := by decide +kernel
theorem dX6_readNumber_77 : decode cX6_readNumber 77 = .ok (.iadd, 1) := by decide +kernel
theorem dX6_readNumber_78 : decode cX6_readNumber 78 = .ok (.bipush 48, 2) := by decide +kernel
theorem dX6_readNumber_80 : decode cX6_readNumber 80 = .ok (.isub, 1) := by decide +kernel
theorem dX6_readNumber_81 : decode cX6_readNumber 81 = .ok (.putfield 77, 3) := by decide +kernel
theorem dX6_readNumber_84 : decode cX6_readNumber 84 = .ok (.aload_n 0, 1) := by decide +kernel
theorem dX6_readNumber_85 : decode cX6_readNumber 85 = .ok (.dup, 1) := by decide +kernel
theorem dX6_readNumber_86 : decode cX6_readNumber 86 = .ok (.getfield 32, 3) := by decide +kernel
theorem dX6_readNumber_89 : decode cX6_readNumber 89 = .ok (.iconst 1, 1) := by decide +kernel
theorem dX6_readNumber_90 : decode cX6_readNumber 90 = .ok (.iadd, 1) := by decide +kernel
theorem dX6_readNumber_91 : decode cX6_readNumber 91 = .ok (.putfield 32, 3) := by decide +kernel
theorem dX6_readNumber_94 : decode cX6_readNumber 94 = .ok (.goto (-60), 3) := by decide +kernel
theorem dX6_readNumber_97 : decode cX6_readNumber 97 = .ok (.aload_n 0, 1) := by decide +kernel
theorem dX6_readNumber_98 : decode cX6_readNumber 98 = .ok (.getfield 32, 3) := by decide +kernel
theorem dX6_readNumber_101 : decode cX6_readNumber 101 = .ok (.aload_n 0, 1) := by decide +kernel
theorem dX6_readNumber_102 : decode cX6_readNumber 102 = .ok (.getfield 74, 3) := by decide +kernel
theorem dX6_readNumber_105 : decode cX6_readNumber 105 = .ok (.isub, 1) := by decide +kernel
theorem dX6_readNumber_106 : decode cX6_readNumber 106 = .ok (.iconst 3, 1) := by decide +kernel
theorem dX6_readNumber_107 : decode cX6_readNumber 107 = .ok (.if_icmp .gt 19, 3) := by decide +kernel
theorem dX6_readNumber_110 : decode cX6_readNumber 110 = .ok (.aload_n 0, 1) := by decide +kernel
theorem dX6_readNumber_111 : decode cX6_readNumber 111 = .ok (.getfield 77, 3) := by decide +kernel
theorem dX6_readNumber_114 : decode cX6_readNumber 114 = .ok (.iload_n 1, 1) := by decide +kernel
theorem dX6_readNumber_115 : decode cX6_readNumber 115 = .ok (.if_icmp .lt 11, 3) := by decide +kernel
theorem dX6_readNumber_118 : decode cX6_readNumber 118 = .ok (.aload_n 0, 1) := by decide +kernel
theorem dX6_readNumber_119 : decode cX6_readNumber 119 = .ok (.getfield 77, 3) := by decide +kernel
theorem dX6_readNumber_122 : decode cX6_readNumber 122 = .ok (.iload_n 2, 1) := by decide +kernel
theorem dX6_readNumber_123 : decode cX6_readNumber 123 = .ok (.if_icmp .le 13, 3) := by decide +kernel
theorem dX6_readNumber_126 : decode cX6_readNumber 126 = .ok (.aload_n 0, 1) := by decide +kernel
theorem dX6_readNumber_127 : decode cX6_readNumber 127 = .ok (.iconst 2, 1) := by decide +kernel
theorem dX6_readNumber_128 : decode cX6_readNumber 128 = .ok (.aload_n 0, 1) := by decide +kernel
theorem dX6_readNumber_129 : decode cX6_readNumber 129 = .ok (.getfield 74, 3) := by decide +kernel
theorem dX6_readNumber_132 : decode cX6_readNumber 132 = .ok (.invokevirtual 66, 3) := by decide +kernel
theorem dX6_readNumber_135 : decode cX6_readNumber 135 = .ok (.ireturn, 1) := by decide +kernel
theorem dX6_readNumber_136 : decode cX6_readNumber 136 = .ok (.iconst 1, 1) := by decide +kernel
theorem dX6_readNumber_137 : decode cX6_readNumber 137 = .ok (.ireturn, 1) := by decide +kernel
set_option maxRecDepth 20000 in
theorem ggX6_readEnd_X6_skipBlanks : GoodIn wsX6_readEnd wsX6_skipBlanks := goodIn_r _ [6, 1, 7, 8, 19, 20, 21, 22, 23, 24, 25, 26] rfl (by decide +kernel)
set_option maxRecDepth 20000 in
theorem gX6_readEnd_X6_skipBlanks : GoodIn wsX6_readEnd (wsV RX6 38 RX6 yX6_skipBlanks wsX6_skipBlanks) := goodIn_app (goodIn_of _ (by decide +kernel)) ggX6_readEnd_X6_skipBlanks
set_option maxRecDepth 20000 in
theorem ggX6_readEnd_X6_letter : GoodIn wsX6_readEnd wsX6_letter := goodIn_r _ [12, 1, 7, 8, 19, 20, 21, 22, 23, 24, 25, 26] rfl (by decide +kernel)
set_option maxRecDepth 20000 in
theorem gX6_readEnd_X6_letter : GoodIn wsX6_readEnd (wsV RX6 44 RX6 yX6_letter wsX6_letter) := goodIn_app (goodIn_of _ (by decide +kernel)) ggX6_readEnd_X6_letter
set_option maxRecDepth 20000 in
theorem ggX6_readEnd_X6_fail : GoodIn wsX6_readEnd wsX6_fail := goodIn_r _ [16, 17, 18, 19, 20, 21, 22, 23, 24, 25, 26] rfl (by decide +kernel)
set_option maxRecDepth 20000 in
theorem gX6_readEnd_X6_fail : GoodIn wsX6_readEnd (wsV RX6 66 RX6 yX6_fail wsX6_fail) := goodIn_app (goodIn_of _ (by decide +kernel)) ggX6_readEnd_X6_fail
theorem dX6_readEnd_0 : decode cX6_readEnd 0 = .ok (.aload_n 0, 1) := by decide +kernel
theorem dX6_readEnd_1 : decode cX6_readEnd 1 = .ok (.invokevirtual 38, 3) := by decide +kernel
theorem dX6_readEnd_4 : decode cX6_readEnd 4 = .ok (.aload_n 0, 1) := by decide +kernel
theorem dX6_readEnd_5 : decode cX6_readEnd 5 = .ok (.invokevirtual 44, 3) := by decide +kernel
theorem dX6_readEnd_8 : decode cX6_readEnd 8 = .ok (.bipush 59, 2) := by decide +kernel
theorem dX6_readEnd_10 : decode cX6_readEnd 10 = .ok (.if_icmp .eq 13, 3) := by decide +kernel
theorem dX6_readEnd_13 : decode cX6_readEnd 13 = .ok (.aload_n 0, 1) := by decide +kernel
theorem dX6_readEnd_14 : decode cX6_readEnd 14 = .ok (.iconst 1, 1) := by decide +kernel
theorem dX6_readEnd_15 : decode cX6_readEnd 15 = .ok (.aload_n 0, 1) := by decide +kernel
theorem dX6_readEnd_16 : decode cX6_readEnd 16 = .ok (.getfield 32, 3) := by decide +kernel
theorem dX6_readEnd_19 : decode cX6_readEnd 19 = .ok (.invokevirtual 66, 3) := by decide +kernel
theorem dX6_readEnd_22 : decode cX6_readEnd 22 = .ok (.ireturn, 1) := by decide +kernel
theorem dX6_readEnd_23 : decode cX6_readEnd 23 = .ok (.aload_n 0, 1) := by decide +kernel
theorem dX6_readEnd_24 : decode cX6_readEnd 24 = .ok (.dup, 1) := by decide +kernel
theorem dX6_readEnd_25 : decode cX6_readEnd 25 = .ok (.getfield 32, 3) := by decide +kernel
theorem dX6_readEnd_28 : decode cX6_readEnd 28 = .ok (.iconst 1, 1) := by decide +kernel
theorem dX6_readEnd_29 : decode cX6_readEnd 29 = .ok (.iadd, 1) := by decide +kernel
theorem dX6_readEnd_30 : decode cX6_readEnd 30 = .ok (.putfield 32, 3) := by decide +kernel
theorem dX6_readEnd_33 : decode cX6_readEnd 33 = .ok (.iconst 1, 1) := by decide +kernel
theorem dX6_readEnd_34 : decode cX6_readEnd 34 = .ok (.ireturn, 1) := by decide +kernel
set_option maxRecDepth 20000 in
theorem ggX6_readHead_X6_readNumber : GoodIn wsX6_readHead wsX6_readNumber := goodIn_r _ [10, 11, 12, 2, 13, 14, 15, 16, 9, 17, 18, 19, 20, 21, 22, 23, 24, 25, 26, 27, 28, 29, 30, 31, 32, 37, 38, 39, 40, 41, 42, 43, 44] rfl (by decide +kernel)
set_option maxRecDepth 20000 in
theorem gX6_readHead_X6_readNumber : GoodIn wsX6_readHead (wsV RX6 80 RX6 yX6_readNumber wsX6_readNumber) := goodIn_app (goodIn_of _ (by decide +kernel)) ggX6_readHead_X6_readNumber
set_option maxRecDepth 20000 in
theorem ggX6_readHead_X6_readEnd : GoodIn wsX6_readHead wsX6_readEnd := goodIn_r _ [36, 11, 14, 15, 16, 9, 17, 13, 18, 29, 30, 31, 32, 23, 24, 25, 26, 27, 28, 37, 38, 39, 40, 41, 42, 43, 44] rfl (by decide +kernel)
set_option maxRecDepth 20000 in
theorem gX6_readHead_X6_readEnd : GoodIn wsX6_readHead (wsV RX6 89 RX6 yX6_readEnd wsX6_readEnd) := goodIn_app (goodIn_of _ (by decide +kernel)) ggX6_readHead_X6_readEnd
theorem dX6_readHead_0 : decode cX6_readHead 0 = .ok (.aload_n 0, 1) := by decide +kernel
theorem dX6_readHead_1 : decode cX6_readHead 1 = .ok (.iconst 2, 1) := by decide +kernel
theorem dX6_readHead_2 : decode cX6_readHead 2 = .ok (.bipush 6, 2) := by decide +kernel
theorem dX6_readHead_4 : decode cX6_readHead 4 = .ok (.invokevirtual 80, 3) := by decide +kernel
theorem dX6_readHead_7 : decode cX6_readHead 7 = .ok (.ifCond .ne 4, 3) := by decide +kernel
theorem dX6_readHead_10 : decode cX6_readHead 10 = .ok (.return_, 1) := by decide +kernel
theorem dX6_readHead_11 : decode cX6_readHead 11 = .ok (.aload_n 0, 1) := by decide +kernel
theorem dX6_readHead_12 : decode cX6_readHead 12 = .ok (.getfield 18, 3) := by decide +kernel
theorem dX6_readHead_15 : decode cX6_readHead 15 = .ok (.aload_n 0, 1) := by decide +kernel
theorem dX6_readHead_16 : decode cX6_readHead 16 = .ok (.getfield 77, 3) := by decide +kernel
theorem dX6_readHead_19 : decode cX6_readHead 19 = .ok (.putfield 48, 3) := by decide +kernel
theorem dX6_readHead_22 : decode cX6_readHead 22 = .ok (.aload_n 0, 1) := by decide +kernel
theorem dX6_readHead_23 : decode cX6_readHead 23 = .ok (.iconst 1, 1) := by decide +kernel
theorem dX6_readHead_24 : decode cX6_readHead 24 = .ok (.iconst 4, 1) := by decide +kernel
theorem dX6_readHead_25 : decode cX6_readHead 25 = .ok (.invokevirtual 80, 3) := by decide +kernel
theorem dX6_readHead_28 : decode cX6_readHead 28 = .ok (.ifCond .ne 4, 3) := by decide +kernel
theorem dX6_readHead_31 : decode cX6_readHead 31 = .ok (.return_, 1) := by decide +kernel
theorem dX6_readHead_32 : decode cX6_readHead 32 = .ok (.aload_n 0, 1) := by decide +kernel
theorem dX6_readHead_33 : decode cX6_readHead 33 = .ok (.getfield 18, 3) := by decide +kernel
theorem dX6_readHead_36 : decode cX6_readHead 36 = .ok (.aload_n 0, 1) := by decide +kernel
theorem dX6_readHead_37 : decode cX6_readHead 37 = .ok (.getfield 77, 3) := by decide +kernel
theorem dX6_readHead_40 : decode cX6_readHead 40 = .ok (.putfield 83, 3) := by decide +kernel
theorem dX6_readHead_43 : decode cX6_readHead 43 = .ok (.aload_n 0, 1) := by decide +kernel
theorem dX6_readHead_44 : decode cX6_readHead 44 = .ok (.iconst 1, 1) := by decide +kernel
theorem dX6_readHead_45 : decode cX6_readHead 45 = .ok (.bipush 9, 2) := by decide +kernel
theorem dX6_readHead_47 : decode cX6_readHead 47 = .ok (.invokevirtual 80, 3) := by decide +kernel
theorem dX6_readHead_50 : decode cX6_readHead 50 = .ok (.ifCond .eq 19, 3) := by decide +kernel
theorem dX6_readHead_53 : decode cX6_readHead 53 = .ok (.aload_n 0, 1) := by decide +kernel
theorem dX6_readHead_54 : decode cX6_readHead 54 = .ok (.getfield 18, 3) := by decide +kernel
theorem dX6_readHead_57 : decode cX6_readHead 57 = .ok (.aload_n 0, 1) := by decide +kernel
theorem dX6_readHead_58 : decode cX6_readHead 58 = .ok (.getfield 77, 3) := by decide +kernel
theorem dX6_readHead_61 : decode cX6_readHead 61 = .ok (.putfield 86, 3) := by decide +kernel
theorem dX6_readHead_64 : decode cX6_readHead 64 = .ok (.aload_n 0, 1) := by decide +kernel
theorem dX6_readHead_65 : decode cX6_readHead 65 = .ok (.invokevirtual 89, 3) := by decide +kernel
theorem dX6_readHead_68 : decode cX6_readHead 68 = .ok (.pop, 1) := by decide +kernel
theorem dX6_readHead_69 : decode cX6_readHead 69 = .ok (.return_, 1) := by decide +kernel
set_option maxRecDepth 20000 in
theorem ggX6_readRoad_X6_readNumber : GoodIn wsX6_readRoad wsX6_readNumber := goodIn_r _ [16, 17, 7, 5, 18, 19, 20, 21, 15, 22, 23, 24, 25, 26, 27, 28, 29, 30, 31, 32, 33, 34, 35, 36, 37, 54, 55, 56, 57, 58, 59, 60, 61] rfl (by decide +kernel)
set_option maxRecDepth 20000 in
theorem gX6_readRoad_X6_readNumber : GoodIn wsX6_readRoad (wsV RX6 80 RX6 yX6_readNumber wsX6_readNumber) := goodIn_app (goodIn_of _ (by decide +kernel)) ggX6_readRoad_X6_readNumber
set_option maxRecDepth 20000 in
theorem ggX6_readRoad_X2_roadBetween : GoodIn wsX6_readRoad wsX2_roadBetween := goodIn_r _ [42, 43, 44, 45, 46, 41, 47, 48, 49, 62, 63, 64, 65, 66, 67, 68, 69, 70, 71, 72, 73, 74] rfl (by decide +kernel)
set_option maxRecDepth 20000 in
theorem gX6_readRoad_X2_roadBetween : GoodIn wsX6_readRoad (wsV RX6 98 RX2 yX2_roadBetween wsX2_roadBetween) := goodIn_app (goodIn_of _ (by decide +kernel)) ggX6_readRoad_X2_roadBetween
set_option maxRecDepth 20000 in
theorem ggX6_readRoad_X6_fail : GoodIn wsX6_readRoad wsX6_fail := goodIn_r _ [31, 32, 33, 54, 55, 56, 57, 58, 59, 60, 61] rfl (by decide +kernel)
set_option maxRecDepth 20000 in
theorem gX6_readRoad_X6_fail : GoodIn wsX6_readRoad (wsV RX6 66 RX6 yX6_fail wsX6_fail) := goodIn_app (goodIn_of _ (by decide +kernel)) ggX6_readRoad_X6_fail
set_option maxRecDepth 20000 in
theorem ggX6_readRoad_X6_readEnd : GoodIn wsX6_readRoad wsX6_readEnd := goodIn_r _ [53, 17, 19, 20, 21, 15, 22, 18, 23, 34, 35, 36, 37, 28, 29, 30, 31, 32, 33, 54, 55, 56, 57, 58, 59, 60, 61] rfl (by decide +kernel)
set_option maxRecDepth 20000 in
theorem gX6_readRoad_X6_readEnd : GoodIn wsX6_readRoad (wsV RX6 89 RX6 yX6_readEnd wsX6_readEnd) := goodIn_app (goodIn_of _ (by decide +kernel)) ggX6_readRoad_X6_readEnd
theorem dX6_readRoad_0 : decode cX6_readRoad 0 = .ok (.aload_n 0, 1) := by decide +kernel
theorem dX6_readRoad_1 : decode cX6_readRoad 1 = .ok (.getfield 18, 3) := by decide +kernel
theorem dX6_readRoad_4 : decode cX6_readRoad 4 = .ok (.getfield 54, 3) := by decide +kernel
theorem dX6_readRoad_7 : decode cX6_readRoad 7 = .ok (.istore_n 1, 1) := by decide +kernel
theorem dX6_readRoad_8 : decode cX6_readRoad 8 = .ok (.aload_n 0, 1) := by decide +kernel
theorem dX6_readRoad_9 : decode cX6_readRoad 9 = .ok (.iconst 0, 1) := by decide +kernel
theorem dX6_readRoad_10 : decode cX6_readRoad 10 = .ok (.aload_n 0, 1) := by decide +kernel
theorem dX6_readRoad_11 : decode cX6_readRoad 11 = .ok (.getfield 18, 3) := by decide +kernel
theorem dX6_readRoad_14 : decode cX6_readRoad 14 = .ok (.getfield 48, 3) := by decide +kernel
theorem dX6_readRoad_17 : decode cX6_readRoad 17 = .ok (.iconst 1, 1) := by decide +kernel
theorem dX6_readRoad_18 : decode cX6_readRoad 18 = .ok (.isub, 1) := by decide +kernel
theorem dX6_readRoad_19 : decode cX6_readRoad 19 = .ok (.invokevirtual 80, 3) := by decide +kernel
theorem dX6_readRoad_22 : decode cX6_readRoad 22 = .ok (.ifCond .ne 4, 3) := by decide +kernel
theorem dX6_readRoad_25 : decode cX6_readRoad 25 = .ok (.return_, 1) := by decide +kernel
theorem dX6_readRoad_26 : decode cX6_readRoad 26 = .ok (.aload_n 0, 1) := by decide +kernel
theorem dX6_readRoad_27 : decode cX6_readRoad 27 = .ok (.getfield 18, 3) := by decide +kernel
theorem dX6_readRoad_30 : decode cX6_readRoad 30 = .ok (.getfield 92, 3) := by decide +kernel
theorem dX6_readRoad_33 : decode cX6_readRoad 33 = .ok (.iload_n 1, 1) := by decide +kernel
theorem dX6_readRoad_34 : decode cX6_readRoad 34 = .ok (.aload_n 0, 1) := by decide +kernel
theorem dX6_readRoad_35 : decode cX6_readRoad 35 = .ok (.getfield 77, 3) := by decide +kernel
theorem dX6_readRoad_38 : decode cX6_readRoad 38 = .ok (.iastore, 1) := by decide +kernel
theorem dX6_readRoad_39 : decode cX6_readRoad 39 = .ok (.aload_n 0, 1) := by decide +kernel
theorem dX6_readRoad_40 : decode cX6_readRoad 40 = .ok (.iconst 0, 1) := by decide +kernel
theorem dX6_readRoad_41 : decode cX6_readRoad 41 = .ok (.aload_n 0, 1) := by decide +kernel
theorem dX6_readRoad_42 : decode cX6_readRoad 42 = .ok (.getfield 18, 3) := by decide +kernel
theorem dX6_readRoad_45 : decode cX6_readRoad 45 = .ok (.getfield 48, 3) := by decide +kernel
theorem dX6_readRoad_48 : decode cX6_readRoad 48 = .ok (.iconst 1, 1) := by decide +kernel
theorem dX6_readRoad_49 : decode cX6_readRoad 49 = .ok (.isub, 1) := by decide +kernel
theorem dX6_readRoad_50 : decode cX6_readRoad 50 = .ok (.invokevirtual 80, 3) := by decide +kernel
theorem dX6_readRoad_53 : decode cX6_readRoad 53 = .ok (.ifCond .ne 4, 3) := by decide +kernel
theorem dX6_readRoad_56 : decode cX6_readRoad 56 = .ok (.return_, 1) := by decide +kernel
theorem dX6_readRoad_57 : decode cX6_readRoad 57 = .ok (.aload_n 0, 1) := by decide +kernel
theorem dX6_readRoad_58 : decode cX6_readRoad 58 = .ok (.getfield 18, 3) := by decide +kernel
theorem dX6_readRoad_61 : decode cX6_readRoad 61 = .ok (.getfield 95, 3) := by decide +kernel
theorem dX6_readRoad_64 : decode cX6_readRoad 64 = .ok (.iload_n 1, 1) := by decide +kernel
theorem dX6_readRoad_65 : decode cX6_readRoad 65 = .ok (.aload_n 0, 1) := by decide +kernel
theorem dX6_readRoad_66 : decode cX6_readRoad 66 = .ok (.getfield 77, 3) := by decide +kernel
theorem dX6_readRoad_69 : decode cX6_readRoad 69 = .ok (.iastore, 1) := by decide +kernel
theorem dX6_readRoad_70 : decode cX6_readRoad 70 = .ok (.aload_n 0, 1) := by decide +kernel
theorem dX6_readRoad_71 : decode cX6_readRoad 71 = .ok (.getfield 18, 3) := by decide +kernel
theorem dX6_readRoad_74 : decode cX6_readRoad 74 = .ok (.getfield 92, 3) := by decide +kernel
theorem dX6_readRoad_77 : decode cX6_readRoad 77 = .ok (.iload_n 1, 1) := by decide +kernel
theorem dX6_readRoad_78 : decode cX6_readRoad 78 = .ok (.iaload, 1) := by decide +kernel
theorem dX6_readRoad_79 : decode cX6_readRoad 79 = .ok (.aload_n 0, 1) := by decide +kernel
theorem dX6_readRoad_80 : decode cX6_readRoad 80 = .ok (.getfield 77, 3) := by decide +kernel
theorem dX6_readRoad_83 : decode cX6_readRoad 83 = .ok (.if_icmp .eq 27, 3) := by decide +kernel
theorem dX6_readRoad_86 : decode cX6_readRoad 86 = .ok (.aload_n 0, 1) := by decide +kernel
theorem dX6_readRoad_87 : decode cX6_readRoad 87 = .ok (.getfield 18, 3) := by decide +kernel
theorem dX6_readRoad_90 : decode cX6_readRoad 90 = .ok (.aload_n 0, 1) := by decide +kernel
theorem dX6_readRoad_91 : decode cX6_readRoad 91 = .ok (.getfield 18, 3) := by decide +kernel
theorem dX6_readRoad_94 : decode cX6_readRoad 94 = .ok (.getfield 92, 3) := by decide +kernel
theorem dX6_readRoad_97 : decode cX6_readRoad 97 = .ok (.iload_n 1, 1) := by decide +kernel
theorem dX6_readRoad_98 : decode cX6_readRoad 98 = .ok (.iaload, 1) := by decide +kernel
theorem dX6_readRoad_99 : decode cX6_readRoad 99 = .ok (.aload_n 0, 1) := by decide +kernel
theorem dX6_readRoad_100 : decode cX6_readRoad 100 = .ok (.getfield 77, 3) := by decide +kernel
theorem dX6_readRoad_103 : decode cX6_readRoad 103 = .ok (.invokevirtual 98, 3) := by decide +kernel
theorem dX6_readRoad_106 : decode cX6_readRoad 106 = .ok (.iconst (-1), 1) := by decide +kernel
theorem dX6_readRoad_107 : decode cX6_readRoad 107 = .ok (.if_icmp .eq 14, 3) := by decide +kernel
theorem dX6_readRoad_110 : decode cX6_readRoad 110 = .ok (.aload_n 0, 1) := by decide +kernel
theorem dX6_readRoad_111 : decode cX6_readRoad 111 = .ok (.iconst 4, 1) := by decide +kernel
theorem dX6_readRoad_112 : decode cX6_readRoad 112 = .ok (.aload_n 0, 1) := by decide +kernel
theorem dX6_readRoad_113 : decode cX6_readRoad 113 = .ok (.getfield 74, 3) := by decide +kernel
theorem dX6_readRoad_116 : decode cX6_readRoad 116 = .ok (.invokevirtual 66, 3) := by decide +kernel
theorem dX6_readRoad_119 : decode cX6_readRoad 119 = .ok (.pop, 1) := by decide +kernel
theorem dX6_readRoad_120 : decode cX6_readRoad 120 = .ok (.return_, 1) := by decide +kernel
theorem dX6_readRoad_121 : decode cX6_readRoad 121 = .ok (.aload_n 0, 1) := by decide +kernel
theorem dX6_readRoad_122 : decode cX6_readRoad 122 = .ok (.iconst 1, 1) := by decide +kernel
theorem dX6_readRoad_123 : decode cX6_readRoad 123 = .ok (.bipush 99, 2) := by decide +kernel
theorem dX6_readRoad_125 : decode cX6_readRoad 125 = .ok (.invokevirtual 80, 3) := by decide +kernel
theorem dX6_readRoad_128 : decode cX6_readRoad 128 = .ok (.ifCond .ne 4, 3) := by decide +kernel
theorem dX6_readRoad_131 : decode cX6_readRoad 131 = .ok (.return_, 1) := by decide +kernel
theorem dX6_readRoad_132 : decode cX6_readRoad 132 = .ok (.aload_n 0, 1) := by decide +kernel
theorem dX6_readRoad_133 : decode cX6_readRoad 133 = .ok (.getfield 18, 3) := by decide +kernel
theorem dX6_readRoad_136 : decode cX6_readRoad 136 = .ok (.getfield 102, 3) := by decide +kernel
theorem dX6_readRoad_139 : decode cX6_readRoad 139 = .ok (.iload_n 1, 1) := by decide +kernel
theorem dX6_readRoad_140 : decode cX6_readRoad 140 = .ok (.aload_n 0, 1) := by decide +kernel
theorem dX6_readRoad_141 : decode cX6_readRoad 141 = .ok (.getfield 77, 3) := by decide +kernel
theorem dX6_readRoad_144 : decode cX6_readRoad 144 = .ok (.iastore, 1) := by decide +kernel
theorem dX6_readRoad_145 : decode cX6_readRoad 145 = .ok (.aload_n 0, 1) := by decide +kernel
theorem dX6_readRoad_146 : decode cX6_readRoad 146 = .ok (.iconst 1, 1) := by decide +kernel
theorem dX6_readRoad_147 : decode cX6_readRoad 147 = .ok (.bipush 99, 2) := by decide +kernel
theorem dX6_readRoad_149 : decode cX6_readRoad 149 = .ok (.invokevirtual 80, 3) := by decide +kernel
theorem dX6_readRoad_152 : decode cX6_readRoad 152 = .ok (.ifCond .ne 4, 3) := by decide +kernel
theorem dX6_readRoad_155 : decode cX6_readRoad 155 = .ok (.return_, 1) := by decide +kernel
theorem dX6_readRoad_156 : decode cX6_readRoad 156 = .ok (.aload_n 0, 1) := by decide +kernel
theorem dX6_readRoad_157 : decode cX6_readRoad 157 = .ok (.getfield 18, 3) := by decide +kernel
theorem dX6_readRoad_160 : decode cX6_readRoad 160 = .ok (.getfield 105, 3) := by decide +kernel
theorem dX6_readRoad_163 : decode cX6_readRoad 163 = .ok (.iload_n 1, 1) := by decide +kernel
theorem dX6_readRoad_164 : decode cX6_readRoad 164 = .ok (.aload_n 0, 1) := by decide +kernel
theorem dX6_readRoad_165 : decode cX6_readRoad 165 = .ok (.getfield 77, 3) := by decide +kernel
theorem dX6_readRoad_168 : decode cX6_readRoad 168 = .ok (.iastore, 1) := by decide +kernel
theorem dX6_readRoad_169 : decode cX6_readRoad 169 = .ok (.aload_n 0, 1) := by decide +kernel
theorem dX6_readRoad_170 : decode cX6_readRoad 170 = .ok (.iconst 0, 1) := by decide +kernel
theorem dX6_readRoad_171 : decode cX6_readRoad 171 = .ok (.aload_n 0, 1) := by decide +kernel
theorem dX6_readRoad_172 : decode cX6_readRoad 172 = .ok (.getfield 18, 3) := by decide +kernel
theorem dX6_readRoad_175 : decode cX6_readRoad 175 = .ok (.getfield 83, 3) := by decide +kernel
theorem dX6_readRoad_178 : decode cX6_readRoad 178 = .ok (.iconst 1, 1) := by decide +kernel
theorem dX6_readRoad_179 : decode cX6_readRoad 179 = .ok (.isub, 1) := by decide +kernel
theorem dX6_readRoad_180 : decode cX6_readRoad 180 = .ok (.invokevirtual 80, 3) := by decide +kernel
theorem dX6_readRoad_183 : decode cX6_readRoad 183 = .ok (.ifCond .eq 36, 3) := by decide +kernel
theorem dX6_readRoad_186 : decode cX6_readRoad 186 = .ok (.aload_n 0, 1) := by decide +kernel
theorem dX6_readRoad_187 : decode cX6_readRoad 187 = .ok (.getfield 18, 3) := by decide +kernel
theorem dX6_readRoad_190 : decode cX6_readRoad 190 = .ok (.getfield 108, 3) := by decide +kernel
theorem dX6_readRoad_193 : decode cX6_readRoad 193 = .ok (.iload_n 1, 1) := by decide +kernel
theorem dX6_readRoad_194 : decode cX6_readRoad 194 = .ok (.aload_n 0, 1) := by decide +kernel
theorem dX6_readRoad_195 : decode cX6_readRoad 195 = .ok (.getfield 77, 3) := by decide +kernel
theorem dX6_readRoad_198 : decode cX6_readRoad 198 = .ok (.iastore, 1) := by decide +kernel
theorem dX6_readRoad_199 : decode cX6_readRoad 199 = .ok (.aload_n 0, 1) := by decide +kernel
theorem dX6_readRoad_200 : decode cX6_readRoad 200 = .ok (.invokevirtual 89, 3) := by decide +kernel
theorem dX6_readRoad_203 : decode cX6_readRoad 203 = .ok (.ifCond .eq 16, 3) := by decide +kernel
theorem dX6_readRoad_206 : decode cX6_readRoad 206 = .ok (.aload_n 0, 1) := by decide +kernel
theorem dX6_readRoad_207 : decode cX6_readRoad 207 = .ok (.getfield 18, 3) := by decide +kernel
theorem dX6_readRoad_210 : decode cX6_readRoad 210 = .ok (.dup, 1) := by decide +kernel
theorem dX6_readRoad_211 : decode cX6_readRoad 211 = .ok (.getfield 54, 3) := by decide +kernel
theorem dX6_readRoad_214 : decode cX6_readRoad 214 = .ok (.iconst 1, 1) := by decide +kernel
theorem dX6_readRoad_215 : decode cX6_readRoad 215 = .ok (.iadd, 1) := by decide +kernel
theorem dX6_readRoad_216 : decode cX6_readRoad 216 = .ok (.putfield 54, 3) := by decide +kernel
theorem dX6_readRoad_219 : decode cX6_readRoad 219 = .ok (.return_, 1) := by decide +kernel
set_option maxRecDepth 20000 in
theorem ggX6_readTreaty_X6_readNumber : GoodIn wsX6_readTreaty wsX6_readNumber := goodIn_r _ [10, 11, 12, 4, 13, 14, 15, 16, 9, 17, 18, 19, 20, 21, 22, 23, 24, 25, 26, 27, 28, 29, 30, 31, 32, 43, 44, 45, 46, 47, 48, 49, 50] rfl (by decide +kernel)
set_option maxRecDepth 20000 in
theorem gX6_readTreaty_X6_readNumber : GoodIn wsX6_readTreaty (wsV RX6 80 RX6 yX6_readNumber wsX6_readNumber) := goodIn_app (goodIn_of _ (by decide +kernel)) ggX6_readTreaty_X6_readNumber
set_option maxRecDepth 20000 in
theorem ggX6_readTreaty_X6_readBound : GoodIn wsX6_readTreaty wsX6_readBound := goodIn_r _ [36, 1, 37, 38, 4, 12, 11, 6, 7, 8, 9, 10, 13, 14, 15, 16, 17, 18, 19, 20, 21, 22, 23, 24, 25, 26, 27, 28, 29, 30, 31, 32, 43, 44, 45, 46, 47, 48, 49, 50, 51, 52, 53, 54, 55, 56, 57, 58, 59, 60, 61, 62, 63] rfl (by decide +kernel)
set_option maxRecDepth 20000 in
theorem gX6_readTreaty_X6_readBound : GoodIn wsX6_readTreaty (wsV RX6 114 RX6 yX6_readBound wsX6_readBound) := goodIn_app (goodIn_of _ (by decide +kernel)) ggX6_readTreaty_X6_readBound
set_option maxRecDepth 20000 in
theorem ggX6_readTreaty_X6_readEnd : GoodIn wsX6_readTreaty wsX6_readEnd := goodIn_r _ [42, 11, 14, 15, 16, 9, 17, 13, 18, 29, 30, 31, 32, 23, 24, 25, 26, 27, 28, 43, 44, 45, 46, 47, 48, 49, 50] rfl (by decide +kernel)
set_option maxRecDepth 20000 in
theorem gX6_readTreaty_X6_readEnd : GoodIn wsX6_readTreaty (wsV RX6 89 RX6 yX6_readEnd wsX6_readEnd) := goodIn_app (goodIn_of _ (by decide +kernel)) ggX6_readTreaty_X6_readEnd
theorem dX6_readTreaty_0 : decode cX6_readTreaty 0 = .ok (.aload_n 0, 1) := by decide +kernel
theorem dX6_readTreaty_1 : decode cX6_readTreaty 1 = .ok (.getfield 18, 3) := by decide +kernel
theorem dX6_readTreaty_4 : decode cX6_readTreaty 4 = .ok (.getfield 60, 3) := by decide +kernel
theorem dX6_readTreaty_7 : decode cX6_readTreaty 7 = .ok (.istore_n 1, 1) := by decide +kernel
theorem dX6_readTreaty_8 : decode cX6_readTreaty 8 = .ok (.aload_n 0, 1) := by decide +kernel
theorem dX6_readTreaty_9 : decode cX6_readTreaty 9 = .ok (.iconst 0, 1) := by decide +kernel
theorem dX6_readTreaty_10 : decode cX6_readTreaty 10 = .ok (.iconst 2, 1) := by decide +kernel
theorem dX6_readTreaty_11 : decode cX6_readTreaty 11 = .ok (.invokevirtual 80, 3) := by decide +kernel
theorem dX6_readTreaty_14 : decode cX6_readTreaty 14 = .ok (.ifCond .ne 4, 3) := by decide +kernel
theorem dX6_readTreaty_17 : decode cX6_readTreaty 17 = .ok (.return_, 1) := by decide +kernel
theorem dX6_readTreaty_18 : decode cX6_readTreaty 18 = .ok (.aload_n 0, 1) := by decide +kernel
theorem dX6_readTreaty_19 : decode cX6_readTreaty 19 = .ok (.getfield 18, 3) := by decide +kernel
theorem dX6_readTreaty_22 : decode cX6_readTreaty 22 = .ok (.getfield 111, 3) := by decide +kernel
theorem dX6_readTreaty_25 : decode cX6_readTreaty 25 = .ok (.iload_n 1, 1) := by decide +kernel
theorem dX6_readTreaty_26 : decode cX6_readTreaty 26 = .ok (.aload_n 0, 1) := by decide +kernel
theorem dX6_readTreaty_27 : decode cX6_readTreaty 27 = .ok (.getfield 77, 3) := by decide +kernel
theorem dX6_readTreaty_30 : decode cX6_readTreaty 30 = .ok (.iastore, 1) := by decide +kernel
theorem dX6_readTreaty_31 : decode cX6_readTreaty 31 = .ok (.aload_n 0, 1) := by decide +kernel
theorem dX6_readTreaty_32 : decode cX6_readTreaty 32 = .ok (.iload_n 1, 1) := by decide +kernel
theorem dX6_readTreaty_33 : decode cX6_readTreaty 33 = .ok (.invokevirtual 114, 3) := by decide +kernel
theorem dX6_readTreaty_36 : decode cX6_readTreaty 36 = .ok (.ifCond .eq 14, 3) := by decide +kernel
theorem dX6_readTreaty_39 : decode cX6_readTreaty 39 = .ok (.aload_n 0, 1) := by decide +kernel
theorem dX6_readTreaty_40 : decode cX6_readTreaty 40 = .ok (.iconst 0, 1) := by decide +kernel
theorem dX6_readTreaty_41 : decode cX6_readTreaty 41 = .ok (.sipush 999, 3) := by decide +kernel
theorem dX6_readTreaty_44 : decode cX6_readTreaty 44 = .ok (.invokevirtual 80, 3) := by decide +kernel
theorem dX6_readTreaty_47 : decode cX6_readTreaty 47 = .ok (.ifCond .ne 4, 3) := by decide +kernel
theorem dX6_readTreaty_50 : decode cX6_readTreaty 50 = .ok (.return_, 1) := by decide +kernel
theorem dX6_readTreaty_51 : decode cX6_readTreaty 51 = .ok (.aload_n 0, 1) := by decide +kernel
theorem dX6_readTreaty_52 : decode cX6_readTreaty 52 = .ok (.getfield 18, 3) := by decide +kernel
theorem dX6_readTreaty_55 : decode cX6_readTreaty 55 = .ok (.getfield 118, 3) := by decide +kernel
theorem dX6_readTreaty_58 : decode cX6_readTreaty 58 = .ok (.iload_n 1, 1) := by decide +kernel
theorem dX6_readTreaty_59 : decode cX6_readTreaty 59 = .ok (.aload_n 0, 1) := by decide +kernel
theorem dX6_readTreaty_60 : decode cX6_readTreaty 60 = .ok (.getfield 77, 3) := by decide +kernel
theorem dX6_readTreaty_63 : decode cX6_readTreaty 63 = .ok (.iastore, 1) := by decide +kernel
theorem dX6_readTreaty_64 : decode cX6_readTreaty 64 = .ok (.aload_n 0, 1) := by decide +kernel
theorem dX6_readTreaty_65 : decode cX6_readTreaty 65 = .ok (.invokevirtual 89, 3) := by decide +kernel
theorem dX6_readTreaty_68 : decode cX6_readTreaty 68 = .ok (.ifCond .eq 16, 3) := by decide +kernel
theorem dX6_readTreaty_71 : decode cX6_readTreaty 71 = .ok (.aload_n 0, 1) := by decide +kernel
theorem dX6_readTreaty_72 : decode cX6_readTreaty 72 = .ok (.getfield 18, 3) := by decide +kernel
theorem dX6_readTreaty_75 : decode cX6_readTreaty 75 = .ok (.dup, 1) := by decide +kernel
theorem dX6_readTreaty_76 : decode cX6_readTreaty 76 = .ok (.getfield 60, 3) := by decide +kernel
theorem dX6_readTreaty_79 : decode cX6_readTreaty 79 = .ok (.iconst 1, 1) := by decide +kernel
theorem dX6_readTreaty_80 : decode cX6_readTreaty 80 = .ok (.iadd, 1) := by decide +kernel
theorem dX6_readTreaty_81 : decode cX6_readTreaty 81 = .ok (.putfield 60, 3) := by decide +kernel
theorem dX6_readTreaty_84 : decode cX6_readTreaty 84 = .ok (.return_, 1) := by decide +kernel
set_option maxRecDepth 20000 in
theorem ggX6_readBound_X6_readNumber : GoodIn wsX6_readBound wsX6_readNumber := goodIn_r _ [11, 6, 5, 4, 12, 13, 14, 15, 10, 16, 17, 18, 19, 20, 21, 22, 23, 24, 25, 26, 27, 28, 29, 30, 31, 32, 33, 34, 35, 36, 37, 38, 39] rfl (by decide +kernel)
set_option maxRecDepth 20000 in
theorem gX6_readBound_X6_readNumber : GoodIn wsX6_readBound (wsV RX6 80 RX6 yX6_readNumber wsX6_readNumber) := goodIn_app (goodIn_of _ (by decide +kernel)) ggX6_readBound_X6_readNumber
set_option maxRecDepth 20000 in
theorem ggX6_readBound_X6_fail : GoodIn wsX6_readBound wsX6_fail := goodIn_r _ [25, 26, 27, 32, 33, 34, 35, 36, 37, 38, 39] rfl (by decide +kernel)
set_option maxRecDepth 20000 in
theorem gX6_readBound_X6_fail : GoodIn wsX6_readBound (wsV RX6 66 RX6 yX6_fail wsX6_fail) := goodIn_app (goodIn_of _ (by decide +kernel)) ggX6_readBound_X6_fail
set_option maxRecDepth 20000 in
theorem ggX6_readBound_X6_skipBlanks : GoodIn wsX6_readBound wsX6_skipBlanks := goodIn_r _ [16, 6, 12, 17, 32, 33, 34, 35, 36, 37, 38, 39] rfl (by decide +kernel)
set_option maxRecDepth 20000 in
theorem gX6_readBound_X6_skipBlanks : GoodIn wsX6_readBound (wsV RX6 38 RX6 yX6_skipBlanks wsX6_skipBlanks) := goodIn_app (goodIn_of _ (by decide +kernel)) ggX6_readBound_X6_skipBlanks
set_option maxRecDepth 20000 in
theorem ggX6_readBound_X6_letter : GoodIn wsX6_readBound wsX6_letter := goodIn_r _ [31, 6, 12, 17, 32, 33, 34, 35, 36, 37, 38, 39] rfl (by decide +kernel)
set_option maxRecDepth 20000 in
theorem gX6_readBound_X6_letter : GoodIn wsX6_readBound (wsV RX6 44 RX6 yX6_letter wsX6_letter) := goodIn_app (goodIn_of _ (by decide +kernel)) ggX6_readBound_X6_letter
theorem dX6_readBound_0 : decode cX6_readBound 0 = .ok (.iconst (-1), 1) := by decide +kernel
theorem dX6_readBound_1 : decode cX6_readBound 1 = .ok (.istore_n 2, 1) := by decide +kernel
theorem dX6_readBound_2 : decode cX6_readBound 2 = .ok (.aload_n 0, 1) := by decide +kernel
theorem dX6_readBound_3 : decode cX6_readBound 3 = .ok (.getfield 18, 3) := by decide +kernel
theorem dX6_readBound_6 : decode cX6_readBound 6 = .ok (.getfield 121, 3) := by decide +kernel
theorem dX6_readBound_9 : decode cX6_readBound 9 = .ok (.iload_n 1, 1) := by decide +kernel
theorem dX6_readBound_10 : decode cX6_readBound 10 = .ok (.iconst 0, 1) := by decide +kernel
theorem dX6_readBound_11 : decode cX6_readBound 11 = .ok (.iastore, 1) := by decide +kernel
theorem dX6_readBound_12 : decode cX6_readBound 12 = .ok (.iconst 0, 1) := by decide +kernel
theorem dX6_readBound_13 : decode cX6_readBound 13 = .ok (.istore_n 3, 1) := by decide +kernel
theorem dX6_readBound_14 : decode cX6_readBound 14 = .ok (.iload_n 3, 1) := by decide +kernel
theorem dX6_readBound_15 : decode cX6_readBound 15 = .ok (.bipush 9, 2) := by decide +kernel
theorem dX6_readBound_17 : decode cX6_readBound 17 = .ok (.if_icmp .gt 94, 3) := by decide +kernel
theorem dX6_readBound_20 : decode cX6_readBound 20 = .ok (.aload_n 0, 1) := by decide +kernel
theorem dX6_readBound_21 : decode cX6_readBound 21 = .ok (.iconst 0, 1) := by decide +kernel
theorem dX6_readBound_22 : decode cX6_readBound 22 = .ok (.aload_n 0, 1) := by decide +kernel
theorem dX6_readBound_23 : decode cX6_readBound 23 = .ok (.getfield 18, 3) := by decide +kernel
theorem dX6_readBound_26 : decode cX6_readBound 26 = .ok (.getfield 54, 3) := by decide +kernel
theorem dX6_readBound_29 : decode cX6_readBound 29 = .ok (.iconst 1, 1) := by decide +kernel
theorem dX6_readBound_30 : decode cX6_readBound 30 = .ok (.isub, 1) := by decide +kernel
theorem dX6_readBound_31 : decode cX6_readBound 31 = .ok (.invokevirtual 80, 3) := by decide +kernel
theorem dX6_readBound_34 : decode cX6_readBound 34 = .ok (.ifCond .ne 5, 3) := by decide +kernel
theorem dX6_readBound_37 : decode cX6_readBound 37 = .ok (.iconst 0, 1) := by decide +kernel
theorem dX6_readBound_38 : decode cX6_readBound 38 = .ok (.ireturn, 1) := by decide +kernel
theorem dX6_readBound_39 : decode cX6_readBound 39 = .ok (.aload_n 0, 1) := by decide +kernel
theorem dX6_readBound_40 : decode cX6_readBound 40 = .ok (.getfield 77, 3) := by decide +kernel
theorem dX6_readBound_43 : decode cX6_readBound 43 = .ok (.iload_n 2, 1) := by decide +kernel
theorem dX6_readBound_44 : decode cX6_readBound 44 = .ok (.if_icmp .gt 13, 3) := by decide +kernel
theorem dX6_readBound_47 : decode cX6_readBound 47 = .ok (.aload_n 0, 1) := by decide +kernel
theorem dX6_readBound_48 : decode cX6_readBound 48 = .ok (.iconst 4, 1) := by decide +kernel
theorem dX6_readBound_49 : decode cX6_readBound 49 = .ok (.aload_n 0, 1) := by decide +kernel
theorem dX6_readBound_50 : decode cX6_readBound 50 = .ok (.getfield 74, 3) := by decide +kernel
theorem dX6_readBound_53 : decode cX6_readBound 53 = .ok (.invokevirtual 66, 3) := by decide +kernel
theorem dX6_readBound_56 : decode cX6_readBound 56 = .ok (.ireturn, 1) := by decide +kernel
theorem dX6_readBound_57 : decode cX6_readBound 57 = .ok (.aload_n 0, 1) := by decide +kernel
theorem dX6_readBound_58 : decode cX6_readBound 58 = .ok (.getfield 77, 3) := by decide +kernel
theorem dX6_readBound_61 : decode cX6_readBound 61 = .ok (.istore_n 2, 1) := by decide +kernel
theorem dX6_readBound_62 : decode cX6_readBound 62 = .ok (.aload_n 0, 1) := by decide +kernel
theorem dX6_readBound_63 : decode cX6_readBound 63 = .ok (.getfield 18, 3) := by decide +kernel
theorem dX6_readBound_66 : decode cX6_readBound 66 = .ok (.getfield 121, 3) := by decide +kernel
theorem dX6_readBound_69 : decode cX6_readBound 69 = .ok (.iload_n 1, 1) := by decide +kernel
theorem dX6_readBound_70 : decode cX6_readBound 70 = .ok (.dup2, 1) := by decide +kernel
theorem dX6_readBound_71 : decode cX6_readBound 71 = .ok (.iaload, 1) := by decide +kernel
theorem dX6_readBound_72 : decode cX6_readBound 72 = .ok (.iconst 1, 1) := by decide +kernel
theorem dX6_readBound_73 : decode cX6_readBound 73 = .ok (.aload_n 0, 1) := by decide +kernel
theorem dX6_readBound_74 : decode cX6_readBound 74 = .ok (.getfield 77, 3) := by decide +kernel
theorem dX6_readBound_77 : decode cX6_readBound 77 = .ok (.ishl, 1) := by decide +kernel
theorem dX6_readBound_78 : decode cX6_readBound 78 = .ok (.ior, 1) := by decide +kernel
theorem dX6_readBound_79 : decode cX6_readBound 79 = .ok (.iastore, 1) := by decide +kernel
theorem dX6_readBound_80 : decode cX6_readBound 80 = .ok (.aload_n 0, 1) := by decide +kernel
theorem dX6_readBound_81 : decode cX6_readBound 81 = .ok (.invokevirtual 38, 3) := by decide +kernel
theorem dX6_readBound_84 : decode cX6_readBound 84 = .ok (.aload_n 0, 1) := by decide +kernel
theorem dX6_readBound_85 : decode cX6_readBound 85 = .ok (.invokevirtual 44, 3) := by decide +kernel
theorem dX6_readBound_88 : decode cX6_readBound 88 = .ok (.bipush 44, 2) := by decide +kernel
theorem dX6_readBound_90 : decode cX6_readBound 90 = .ok (.if_icmp .eq 5, 3) := by decide +kernel
theorem dX6_readBound_93 : decode cX6_readBound 93 = .ok (.iconst 1, 1) := by decide +kernel
theorem dX6_readBound_94 : decode cX6_readBound 94 = .ok (.ireturn, 1) := by decide +kernel
theorem dX6_readBound_95 : decode cX6_readBound 95 = .ok (.aload_n 0, 1) := by decide +kernel
theorem dX6_readBound_96 : decode cX6_readBound 96 = .ok (.dup, 1) := by decide +kernel
theorem dX6_readBound_97 : decode cX6_readBound 97 = .ok (.getfield 32, 3) := by decide +kernel
theorem dX6_readBound_100 : decode cX6_readBound 100 = .ok (.iconst 1, 1) := by decide +kernel
theorem dX6_readBound_101 : decode cX6_readBound 101 = .ok (.iadd, 1) := by decide +kernel
theorem dX6_readBound_102 : decode cX6_readBound 102 = .ok (.putfield 32, 3) := by decide +kernel
theorem dX6_readBound_105 : decode cX6_readBound 105 = .ok (.iinc 3 1, 3) := by decide +kernel
theorem dX6_readBound_108 : decode cX6_readBound 108 = .ok (.goto (-94), 3) := by decide +kernel
theorem dX6_readBound_111 : decode cX6_readBound 111 = .ok (.iconst 0, 1) := by decide +kernel
theorem dX6_readBound_112 : decode cX6_readBound 112 = .ok (.ireturn, 1) := by decide +kernel
theorem dX7_init_0 : decode cX7_init 0 = .ok (.aload_n 0, 1) := by decide +kernel
theorem dX7_init_1 : decode cX7_init 1 = .ok (.invokespecial 3, 3) := by decide +kernel
theorem dX7_init_4 : decode cX7_init 4 = .ok (.return_, 1) := by decide +kernel
set_option maxRecDepth 20000 in
theorem ggX7_seek_X7_extend : GoodIn wsX7_seek wsX7_extend := goodIn_r _ [10, 11, 12, 5, 13, 14, 15, 16, 17, 18, 19, 20, 21, 22, 23, 24, 25, 26, 27, 28, 29, 9, 30, 2, 3, 1, 6, 7, 8, 35, 36, 37, 38, 39, 40, 41, 42, 43, 44, 45, 46, 47, 31, 32, 33, 34] rfl (by decide +kernel)
set_option maxRecDepth 20000 in
theorem gX7_seek_X7_extend : GoodIn wsX7_seek (wsV RX7 29 RX7 yX7_extend wsX7_extend) := goodIn_app (goodIn_of _ (by decide +kernel)) ggX7_seek_X7_extend
theorem dX7_seek_0 : decode cX7_seek 0 = .ok (.aload_n 0, 1) := by decide +kernel
theorem dX7_seek_1 : decode cX7_seek 1 = .ok (.iconst 0, 1) := by decide +kernel
theorem dX7_seek_2 : decode cX7_seek 2 = .ok (.putfield 9, 3) := by decide +kernel
theorem dX7_seek_5 : decode cX7_seek 5 = .ok (.aload_n 0, 1) := by decide +kernel
theorem dX7_seek_6 : decode cX7_seek 6 = .ok (.iconst 0, 1) := by decide +kernel
theorem dX7_seek_7 : decode cX7_seek 7 = .ok (.putfield 15, 3) := by decide +kernel
theorem dX7_seek_10 : decode cX7_seek 10 = .ok (.aload_n 0, 1) := by decide +kernel
theorem dX7_seek_11 : decode cX7_seek 11 = .ok (.iconst 0, 1) := by decide +kernel
theorem dX7_seek_12 : decode cX7_seek 12 = .ok (.putfield 18, 3) := by decide +kernel
theorem dX7_seek_15 : decode cX7_seek 15 = .ok (.iconst 0, 1) := by decide +kernel
theorem dX7_seek_16 : decode cX7_seek 16 = .ok (.istore_n 3, 1) := by decide +kernel
theorem dX7_seek_17 : decode cX7_seek 17 = .ok (.iload_n 3, 1) := by decide +kernel
theorem dX7_seek_18 : decode cX7_seek 18 = .ok (.aload_n 1, 1) := by decide +kernel
theorem dX7_seek_19 : decode cX7_seek 19 = .ok (.getfield 21, 3) := by decide +kernel
theorem dX7_seek_22 : decode cX7_seek 22 = .ok (.if_icmp .ge 26, 3) := by decide +kernel
theorem dX7_seek_25 : decode cX7_seek 25 = .ok (.aload_n 0, 1) := by decide +kernel
theorem dX7_seek_26 : decode cX7_seek 26 = .ok (.iload_n 3, 1) := by decide +kernel
theorem dX7_seek_27 : decode cX7_seek 27 = .ok (.putfield 26, 3) := by decide +kernel
theorem dX7_seek_30 : decode cX7_seek 30 = .ok (.aload_n 0, 1) := by decide +kernel
theorem dX7_seek_31 : decode cX7_seek 31 = .ok (.aload_n 1, 1) := by decide +kernel
theorem dX7_seek_32 : decode cX7_seek 32 = .ok (.aload_n 2, 1) := by decide +kernel
theorem dX7_seek_33 : decode cX7_seek 33 = .ok (.iload_n 3, 1) := by decide +kernel
theorem dX7_seek_34 : decode cX7_seek 34 = .ok (.iconst 1, 1) := by decide +kernel
theorem dX7_seek_35 : decode cX7_seek 35 = .ok (.iload_n 3, 1) := by decide +kernel
theorem dX7_seek_36 : decode cX7_seek 36 = .ok (.ishl, 1) := by decide +kernel
theorem dX7_seek_37 : decode cX7_seek 37 = .ok (.iconst 0, 1) := by decide +kernel
theorem dX7_seek_38 : decode cX7_seek 38 = .ok (.iconst 0, 1) := by decide +kernel
theorem dX7_seek_39 : decode cX7_seek 39 = .ok (.invokevirtual 29, 3) := by decide +kernel
theorem dX7_seek_42 : decode cX7_seek 42 = .ok (.iinc 3 1, 3) := by decide +kernel
theorem dX7_seek_45 : decode cX7_seek 45 = .ok (.goto (-28), 3) := by decide +kernel
theorem dX7_seek_48 : decode cX7_seek 48 = .ok (.aload_n 0, 1) := by decide +kernel
theorem dX7_seek_49 : decode cX7_seek 49 = .ok (.getfield 15, 3) := by decide +kernel
theorem dX7_seek_52 : decode cX7_seek 52 = .ok (.ifCond .eq 7, 3) := by decide +kernel
theorem dX7_seek_55 : decode cX7_seek 55 = .ok (.iconst 1, 1) := by decide +kernel
theorem dX7_seek_56 : decode cX7_seek 56 = .ok (.goto 4, 3) := by decide +kernel
theorem dX7_seek_59 : decode cX7_seek 59 = .ok (.iconst 0, 1) := by decide +kernel
theorem dX7_seek_60 : decode cX7_seek 60 = .ok (.ireturn, 1) := by decide +kernel
set_option maxRecDepth 20000 in
theorem ggX7_extend_J6_bitCount_0f7a4 : GoodIn wsX7_extend wsJ6_bitCount_0f7a4 := goodIn_r _ [7, 8, 9, 10] rfl (by decide +kernel)
set_option maxRecDepth 20000 in
theorem gX7_extend_J6_bitCount_0f7a4 : GoodIn wsX7_extend (va_wsS RX7 33 yJ6_bitCount_0f7a4 wsJ6_bitCount_0f7a4) := goodIn_app (goodIn_of _ (by decide +kernel)) ggX7_extend_J6_bitCount_0f7a4
set_option maxRecDepth 20000 in
theorem ggX7_extend_X2_otherEnd : GoodIn wsX7_extend wsX2_otherEnd := goodIn_r _ [15, 16, 17, 29, 30, 31, 32, 33, 34, 35, 36, 37, 38, 39, 40, 41] rfl (by decide +kernel)
set_option maxRecDepth 20000 in
theorem gX7_extend_X2_otherEnd : GoodIn wsX7_extend (wsV RX7 42 RX2 yX2_otherEnd wsX2_otherEnd) := goodIn_app (goodIn_of _ (by decide +kernel)) ggX7_extend_X2_otherEnd
set_option maxRecDepth 20000 in
theorem ggX7_extend_X7_compare : GoodIn wsX7_extend wsX7_compare := goodIn_r _ [22, 23, 24, 25, 42, 43, 44, 45] rfl (by decide +kernel)
set_option maxRecDepth 20000 in
theorem gX7_extend_X7_compare : GoodIn wsX7_extend (wsV RX7 50 RX7 yX7_compare wsX7_compare) := goodIn_app (goodIn_of _ (by decide +kernel)) ggX7_extend_X7_compare
set_option maxRecDepth 20000 in
theorem ggX7_extend_X7_extend : GoodIn wsX7_extend wsX7_extend := goodIn_r _ [0, 1, 2, 3, 4, 5, 6, 7, 8, 9, 10, 11, 12, 13, 14, 15, 16, 17, 18, 19, 20, 21, 22, 23, 24, 25, 26, 27, 28, 29, 30, 31, 32, 33, 34, 35, 36, 37, 38, 39, 40, 41, 42, 43, 44, 45] rfl (by decide +kernel)
set_option maxRecDepth 20000 in
theorem gX7_extend_X7_extend : GoodIn wsX7_extend (wsV RX7 29 RX7 yX7_extend wsX7_extend) := goodIn_app (goodIn_of _ (by decide +kernel)) ggX7_extend_X7_extend
theorem dX7_extend_0 : decode cX7_extend 0 = .ok (.iload 4, 2) := by decide +kernel
theorem dX7_extend_2 : decode cX7_extend 2 = .ok (.invokestatic 33, 3) := by decide +kernel
theorem dX7_extend_5 : decode cX7_extend 5 = .ok (.bipush 6, 2) := by decide +kernel
theorem dX7_extend_7 : decode cX7_extend 7 = .ok (.if_icmp .le 4, 3) := by decide +kernel
theorem dX7_extend_10 : decode cX7_extend 10 = .ok (.return_, 1) := by decide +kernel
theorem dX7_extend_11 : decode cX7_extend 11 = .ok (.iconst 0, 1) := by decide +kernel
theorem dX7_extend_12 : decode cX7_extend 12 = .ok (.istore 7, 2) := by decide +kernel
theorem dX7_extend_14 : decode cX7_extend 14 = .ok (.iload 7, 2) := by decide +kernel
theorem dX7_extend_16 : decode cX7_extend 16 = .ok (.aload_n 1, 1) := by decide +kernel
theorem dX7_extend_17 : decode cX7_extend 17 = .ok (.getfield 39, 3) := by decide +kernel
theorem dX7_extend_20 : decode cX7_extend 20 = .ok (.if_icmp .ge 114, 3) := by decide +kernel
theorem dX7_extend_23 : decode cX7_extend 23 = .ok (.aload_n 1, 1) := by decide +kernel
theorem dX7_extend_24 : decode cX7_extend 24 = .ok (.iload 7, 2) := by decide +kernel
theorem dX7_extend_26 : decode cX7_extend 26 = .ok (.iload_n 3, 1) := by decide +kernel
theorem dX7_extend_27 : decode cX7_extend 27 = .ok (.invokevirtual 42, 3) := by decide +kernel
theorem dX7_extend_30 : decode cX7_extend 30 = .ok (.istore 8, 2) := by decide +kernel
theorem dX7_extend_32 : decode cX7_extend 32 = .ok (.iload 6, 2) := by decide +kernel
theorem dX7_extend_34 : decode cX7_extend 34 = .ok (.aload_n 2, 1) := by decide +kernel
theorem dX7_extend_35 : decode cX7_extend 35 = .ok (.iload 7, 2) := by decide +kernel
theorem dX7_extend_37 : decode cX7_extend 37 = .ok (.iaload, 1) := by decide +kernel
theorem dX7_extend_38 : decode cX7_extend 38 = .ok (.iadd, 1) := by decide +kernel
theorem dX7_extend_39 : decode cX7_extend 39 = .ok (.aload_n 1, 1) := by decide +kernel
theorem dX7_extend_40 : decode cX7_extend 40 = .ok (.getfield 46, 3) := by decide +kernel
theorem dX7_extend_43 : decode cX7_extend 43 = .ok (.iload 7, 2) := by decide +kernel
theorem dX7_extend_45 : decode cX7_extend 45 = .ok (.iaload, 1) := by decide +kernel
theorem dX7_extend_46 : decode cX7_extend 46 = .ok (.isub, 1) := by decide +kernel
theorem dX7_extend_47 : decode cX7_extend 47 = .ok (.istore 9, 2) := by decide +kernel
theorem dX7_extend_49 : decode cX7_extend 49 = .ok (.iload 8, 2) := by decide +kernel
theorem dX7_extend_51 : decode cX7_extend 51 = .ok (.aload_n 0, 1) := by decide +kernel
theorem dX7_extend_52 : decode cX7_extend 52 = .ok (.getfield 26, 3) := by decide +kernel
theorem dX7_extend_55 : decode cX7_extend 55 = .ok (.if_icmp .ne 30, 3) := by decide +kernel
theorem dX7_extend_58 : decode cX7_extend 58 = .ok (.iload 4, 2) := by decide +kernel
theorem dX7_extend_60 : decode cX7_extend 60 = .ok (.invokestatic 33, 3) := by decide +kernel
theorem dX7_extend_63 : decode cX7_extend 63 = .ok (.iconst 3, 1) := by decide +kernel
theorem dX7_extend_64 : decode cX7_extend 64 = .ok (.if_icmp .lt 21, 3) := by decide +kernel
theorem dX7_extend_67 : decode cX7_extend 67 = .ok (.aload_n 0, 1) := by decide +kernel
theorem dX7_extend_68 : decode cX7_extend 68 = .ok (.iload 4, 2) := by decide +kernel
theorem dX7_extend_70 : decode cX7_extend 70 = .ok (.iload 5, 2) := by decide +kernel
theorem dX7_extend_72 : decode cX7_extend 72 = .ok (.iconst 1, 1) := by decide +kernel
theorem dX7_extend_73 : decode cX7_extend 73 = .ok (.iload 7, 2) := by decide +kernel
theorem dX7_extend_75 : decode cX7_extend 75 = .ok (.ishl, 1) := by decide +kernel
theorem dX7_extend_76 : decode cX7_extend 76 = .ok (.ior, 1) := by decide +kernel
theorem dX7_extend_77 : decode cX7_extend 77 = .ok (.iload 9, 2) := by decide +kernel
theorem dX7_extend_79 : decode cX7_extend 79 = .ok (.invokevirtual 50, 3) := by decide +kernel
theorem dX7_extend_82 : decode cX7_extend 82 = .ok (.goto 46, 3) := by decide +kernel
theorem dX7_extend_85 : decode cX7_extend 85 = .ok (.iload 8, 2) := by decide +kernel
theorem dX7_extend_87 : decode cX7_extend 87 = .ok (.aload_n 0, 1) := by decide +kernel
theorem dX7_extend_88 : decode cX7_extend 88 = .ok (.getfield 26, 3) := by decide +kernel
theorem dX7_extend_91 : decode cX7_extend 91 = .ok (.if_icmp .le 37, 3) := by decide +kernel
theorem dX7_extend_94 : decode cX7_extend 94 = .ok (.iload 4, 2) := by decide +kernel
theorem dX7_extend_96 : decode cX7_extend 96 = .ok (.iload 8, 2) := by decide +kernel
theorem dX7_extend_98 : decode cX7_extend 98 = .ok (.ishr, 1) := by decide +kernel
theorem dX7_extend_99 : decode cX7_extend 99 = .ok (.iconst 1, 1) := by decide +kernel
theorem dX7_extend_100 : decode cX7_extend 100 = .ok (.iand, 1) := by decide +kernel
theorem dX7_extend_101 : decode cX7_extend 101 = .ok (.ifCond .ne 27, 3) := by decide +kernel
theorem dX7_extend_104 : decode cX7_extend 104 = .ok (.aload_n 0, 1) := by decide +kernel
theorem dX7_extend_105 : decode cX7_extend 105 = .ok (.aload_n 1, 1) := by decide +kernel
theorem dX7_extend_106 : decode cX7_extend 106 = .ok (.aload_n 2, 1) := by decide +kernel
theorem dX7_extend_107 : decode cX7_extend 107 = .ok (.iload 8, 2) := by decide +kernel
theorem dX7_extend_109 : decode cX7_extend 109 = .ok (.iload 4, 2) := by decide +kernel
theorem dX7_extend_111 : decode cX7_extend 111 = .ok (.iconst 1, 1) := by decide +kernel
theorem dX7_extend_112 : decode cX7_extend 112 = .ok (.iload 8, 2) := by decide +kernel
theorem dX7_extend_114 : decode cX7_extend 114 = .ok (.ishl, 1) := by decide +kernel
