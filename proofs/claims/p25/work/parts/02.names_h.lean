theorem dX10_feed_18 : decode cX10_feed 18 = .ok (.iload_n 1, 1) := by decide +kernel
theorem dX10_feed_19 : decode cX10_feed 19 = .ok (.invokevirtual 84, 3) := by decide +kernel
theorem dX10_feed_22 : decode cX10_feed 22 = .ok (.ifCond .eq 13, 3) := by decide +kernel
theorem dX10_feed_25 : decode cX10_feed 25 = .ok (.aload_n 0, 1) := by decide +kernel
theorem dX10_feed_26 : decode cX10_feed 26 = .ok (.getfield 10, 3) := by decide +kernel
theorem dX10_feed_29 : decode cX10_feed 29 = .ok (.getfield 88, 3) := by decide +kernel
theorem dX10_feed_32 : decode cX10_feed 32 = .ok (.goto 5, 3) := by decide +kernel
theorem dX10_feed_35 : decode cX10_feed 35 = .ok (.ldc 92, 2) := by decide +kernel
theorem dX10_feed_37 : decode cX10_feed 37 = .ok (.ireturn, 1) := by decide +kernel
set_option maxRecDepth 20000 in
theorem ggX10_march_X6_read : GoodIn wsX10_march wsX6_read := goodIn_r _ [13, 14, 15, 16, 17, 18, 19, 20, 21, 22, 23, 24, 25, 26, 27, 28, 29, 30, 31, 12, 32, 33, 34, 35, 36, 37, 38, 39, 40, 41, 42, 43, 44, 45, 46, 47, 48, 49, 50, 51, 52, 53, 54, 55, 56, 57, 58, 59, 60, 61, 62, 63, 64, 65, 66, 67, 68, 69, 70, 71, 72, 73, 74, 75, 76, 77, 78, 79, 80, 81, 82, 83, 84, 85, 86, 87, 88, 89, 90, 91, 92, 93, 94, 95, 96, 97, 98, 165, 166, 167, 168, 169, 170, 171, 172, 152, 153, 154, 155, 156, 157, 158, 159, 160, 161, 162, 163, 164] rfl (by decide +kernel)
set_option maxRecDepth 20000 in
theorem gX10_march_X6_read : GoodIn wsX10_march (wsV RX10 93 RX6 yX6_read wsX6_read) := goodIn_app (goodIn_of _ (by decide +kernel)) ggX10_march_X6_read
set_option maxRecDepth 20000 in
theorem ggX10_march_X6_exchange : GoodIn wsX10_march wsX6_exchange := goodIn_r _ [102, 14, 165, 166, 167, 168, 169, 170, 171, 172] rfl (by decide +kernel)
set_option maxRecDepth 20000 in
theorem gX10_march_X6_exchange : GoodIn wsX10_march (wsV RX10 97 RX6 yX6_exchange wsX6_exchange) := goodIn_app (goodIn_of _ (by decide +kernel)) ggX10_march_X6_exchange
set_option maxRecDepth 20000 in
theorem ggX10_march_X8_begin : GoodIn wsX10_march wsX8_begin := goodIn_r _ [107, 108, 109, 110, 111, 112, 113, 114, 115, 116, 117, 118, 152, 153, 154, 155, 156, 157, 158, 159, 160, 161, 162, 163, 164, 173, 174, 175, 176, 177, 178] rfl (by decide +kernel)
set_option maxRecDepth 20000 in
theorem gX10_march_X8_begin : GoodIn wsX10_march (wsV RX10 101 RX8 yX8_begin wsX8_begin) := goodIn_app (goodIn_of _ (by decide +kernel)) ggX10_march_X8_begin
set_option maxRecDepth 20000 in
theorem ggX10_march_X5_clear : GoodIn wsX10_march wsX5_clear := goodIn_r _ [123, 124, 125, 126, 127, 128, 129, 130, 179, 180, 181, 182, 183, 184, 185, 186] rfl (by decide +kernel)
set_option maxRecDepth 20000 in
theorem gX10_march_X5_clear : GoodIn wsX10_march (wsV RX10 105 RX5 yX5_clear wsX5_clear) := goodIn_app (goodIn_of _ (by decide +kernel)) ggX10_march_X5_clear
set_option maxRecDepth 20000 in
theorem ggX10_march_X0_clear : GoodIn wsX10_march wsX0_clear := goodIn_r _ [135, 136, 187, 188, 189] rfl (by decide +kernel)
set_option maxRecDepth 20000 in
theorem gX10_march_X0_clear : GoodIn wsX10_march (wsV RX10 108 RX0 yX0_clear wsX0_clear) := goodIn_app (goodIn_of _ (by decide +kernel)) ggX10_march_X0_clear
theorem dX10_march_0 : decode cX10_march 0 = .ok (.aload_n 0, 1) := by decide +kernel
theorem dX10_march_1 : decode cX10_march 1 = .ok (.getfield 10, 3) := by decide +kernel
theorem dX10_march_4 : decode cX10_march 4 = .ok (.invokevirtual 93, 3) := by decide +kernel
theorem dX10_march_7 : decode cX10_march 7 = .ok (.istore_n 1, 1) := by decide +kernel
theorem dX10_march_8 : decode cX10_march 8 = .ok (.iload_n 1, 1) := by decide +kernel
theorem dX10_march_9 : decode cX10_march 9 = .ok (.ifCond .eq 8, 3) := by decide +kernel
theorem dX10_march_12 : decode cX10_march 12 = .ok (.bipush (-10), 2) := by decide +kernel
theorem dX10_march_14 : decode cX10_march 14 = .ok (.iload_n 1, 1) := by decide +kernel
theorem dX10_march_15 : decode cX10_march 15 = .ok (.isub, 1) := by decide +kernel
theorem dX10_march_16 : decode cX10_march 16 = .ok (.ireturn, 1) := by decide +kernel
theorem dX10_march_17 : decode cX10_march 17 = .ok (.aload_n 0, 1) := by decide +kernel
theorem dX10_march_18 : decode cX10_march 18 = .ok (.aload_n 0, 1) := by decide +kernel
theorem dX10_march_19 : decode cX10_march 19 = .ok (.getfield 10, 3) := by decide +kernel
theorem dX10_march_22 : decode cX10_march 22 = .ok (.aload_n 0, 1) := by decide +kernel
theorem dX10_march_23 : decode cX10_march 23 = .ok (.getfield 19, 3) := by decide +kernel
theorem dX10_march_26 : decode cX10_march 26 = .ok (.invokevirtual 97, 3) := by decide +kernel
theorem dX10_march_29 : decode cX10_march 29 = .ok (.putfield 19, 3) := by decide +kernel
theorem dX10_march_32 : decode cX10_march 32 = .ok (.aload_n 0, 1) := by decide +kernel
theorem dX10_march_33 : decode cX10_march 33 = .ok (.getfield 26, 3) := by decide +kernel
theorem dX10_march_36 : decode cX10_march 36 = .ok (.aload_n 0, 1) := by decide +kernel
theorem dX10_march_37 : decode cX10_march 37 = .ok (.getfield 19, 3) := by decide +kernel
theorem dX10_march_40 : decode cX10_march 40 = .ok (.invokevirtual 101, 3) := by decide +kernel
theorem dX10_march_43 : decode cX10_march 43 = .ok (.aload_n 0, 1) := by decide +kernel
theorem dX10_march_44 : decode cX10_march 44 = .ok (.getfield 47, 3) := by decide +kernel
theorem dX10_march_47 : decode cX10_march 47 = .ok (.invokevirtual 105, 3) := by decide +kernel
theorem dX10_march_50 : decode cX10_march 50 = .ok (.aload_n 0, 1) := by decide +kernel
theorem dX10_march_51 : decode cX10_march 51 = .ok (.getfield 33, 3) := by decide +kernel
theorem dX10_march_54 : decode cX10_march 54 = .ok (.invokevirtual 108, 3) := by decide +kernel
theorem dX10_march_57 : decode cX10_march 57 = .ok (.iconst 0, 1) := by decide +kernel
theorem dX10_march_58 : decode cX10_march 58 = .ok (.istore_n 2, 1) := by decide +kernel
theorem dX10_march_59 : decode cX10_march 59 = .ok (.iload_n 2, 1) := by decide +kernel
theorem dX10_march_60 : decode cX10_march 60 = .ok (.iconst 2, 1) := by decide +kernel
theorem dX10_march_61 : decode cX10_march 61 = .ok (.if_icmp .ge 19, 3) := by decide +kernel
theorem dX10_march_64 : decode cX10_march 64 = .ok (.aload_n 0, 1) := by decide +kernel
theorem dX10_march_65 : decode cX10_march 65 = .ok (.getfield 40, 3) := by decide +kernel
theorem dX10_march_68 : decode cX10_march 68 = .ok (.iload_n 2, 1) := by decide +kernel
theorem dX10_march_69 : decode cX10_march 69 = .ok (.aaload, 1) := by decide +kernel
theorem dX10_march_70 : decode cX10_march 70 = .ok (.iconst 0, 1) := by decide +kernel
theorem dX10_march_71 : decode cX10_march 71 = .ok (.putfield 109, 3) := by decide +kernel
theorem dX10_march_74 : decode cX10_march 74 = .ok (.iinc 2 1, 3) := by decide +kernel
theorem dX10_march_77 : decode cX10_march 77 = .ok (.goto (-18), 3) := by decide +kernel
theorem dX10_march_80 : decode cX10_march 80 = .ok (.aload_n 0, 1) := by decide +kernel
theorem dX10_march_81 : decode cX10_march 81 = .ok (.getfield 19, 3) := by decide +kernel
theorem dX10_march_84 : decode cX10_march 84 = .ok (.getfield 113, 3) := by decide +kernel
theorem dX10_march_87 : decode cX10_march 87 = .ok (.ireturn, 1) := by decide +kernel
theorem dX10_fault_0 : decode cX10_fault 0 = .ok (.aload_n 0, 1) := by decide +kernel
theorem dX10_fault_1 : decode cX10_fault 1 = .ok (.getfield 10, 3) := by decide +kernel
theorem dX10_fault_4 : decode cX10_fault 4 = .ok (.getfield 116, 3) := by decide +kernel
theorem dX10_fault_7 : decode cX10_fault 7 = .ok (.ireturn, 1) := by decide +kernel
set_option maxRecDepth 20000 in
theorem ggX10_told_X10_rightful : GoodIn wsX10_told wsX10_rightful := goodIn_r _ [26, 1, 3, 9, 10, 67, 68, 69, 70, 71, 72, 73, 74, 75, 76, 77, 78, 79, 80, 81, 82, 83, 84, 85, 86, 87, 88, 89, 90, 91, 100, 101, 102, 103, 104, 105] rfl (by decide +kernel)
set_option maxRecDepth 20000 in
theorem gX10_told_X10_rightful : GoodIn wsX10_told (wsV RX10 134 RX10 yX10_rightful wsX10_rightful) := goodIn_app (goodIn_of _ (by decide +kernel)) ggX10_told_X10_rightful
set_option maxRecDepth 20000 in
theorem ggX10_told_X2_holding : GoodIn wsX10_told wsX2_holding := goodIn_r _ [31, 32, 33, 34, 35, 30, 36, 37, 38, 39, 40, 41, 42, 43, 44, 45, 46, 47, 48, 49, 50, 51, 52, 53, 54, 55, 79, 80, 81, 82, 83, 84, 85, 86, 87, 88, 89, 90, 91] rfl (by decide +kernel)
set_option maxRecDepth 20000 in
theorem gX10_told_X2_holding : GoodIn wsX10_told (wsV RX10 143 RX2 yX2_holding wsX2_holding) := goodIn_app (goodIn_of _ (by decide +kernel)) ggX10_told_X2_holding
set_option maxRecDepth 20000 in
theorem ggX10_told_X2_allRoads : GoodIn wsX10_told wsX2_allRoads := goodIn_r _ [59, 42, 79, 80, 81, 82, 83, 84, 85, 86, 87, 88, 89, 90, 91] rfl (by decide +kernel)
set_option maxRecDepth 20000 in
theorem gX10_told_X2_allRoads : GoodIn wsX10_told (wsV RX10 156 RX2 yX2_allRoads wsX2_allRoads) := goodIn_app (goodIn_of _ (by decide +kernel)) ggX10_told_X2_allRoads
set_option maxRecDepth 20000 in
theorem ggX10_told_X2_sum : GoodIn wsX10_told wsX2_sum := goodIn_r _ [41, 42, 79, 80, 81, 82, 83, 84, 85, 86, 87, 88, 89, 90, 91] rfl (by decide +kernel)
set_option maxRecDepth 20000 in
theorem gX10_told_X2_sum : GoodIn wsX10_told (wsV RX10 159 RX2 yX2_sum wsX2_sum) := goodIn_app (goodIn_of _ (by decide +kernel)) ggX10_told_X2_sum
set_option maxRecDepth 20000 in
theorem ggX10_told_X5_wantedSet : GoodIn wsX10_told wsX5_wantedSet := goodIn_r _ [65, 66, 106, 107, 108, 109, 110, 111, 112, 113] rfl (by decide +kernel)
set_option maxRecDepth 20000 in
theorem gX10_told_X5_wantedSet : GoodIn wsX10_told (wsV RX10 169 RX5 yX5_wantedSet wsX5_wantedSet) := goodIn_app (goodIn_of _ (by decide +kernel)) ggX10_told_X5_wantedSet
theorem dX10_told_0 : decode cX10_told 0 = .ok (.iload_n 1, 1) := by decide +kernel
theorem dX10_told_1 : decode cX10_told 1 = .ok (.tableswitch 249 0 17 #[87, 95, 103, 111, 119, 127, 135, 143, 148, 156, 171, 179, 187, 195, 217, 225, 233, 241], 87) := by decide +kernel
theorem dX10_told_88 : decode cX10_told 88 = .ok (.aload_n 0, 1) := by decide +kernel
theorem dX10_told_89 : decode cX10_told 89 = .ok (.getfield 19, 3) := by decide +kernel
theorem dX10_told_92 : decode cX10_told 92 = .ok (.getfield 119, 3) := by decide +kernel
theorem dX10_told_95 : decode cX10_told 95 = .ok (.ireturn, 1) := by decide +kernel
theorem dX10_told_96 : decode cX10_told 96 = .ok (.aload_n 0, 1) := by decide +kernel
theorem dX10_told_97 : decode cX10_told 97 = .ok (.getfield 19, 3) := by decide +kernel
theorem dX10_told_100 : decode cX10_told 100 = .ok (.getfield 122, 3) := by decide +kernel
theorem dX10_told_103 : decode cX10_told 103 = .ok (.ireturn, 1) := by decide +kernel
theorem dX10_told_104 : decode cX10_told 104 = .ok (.aload_n 0, 1) := by decide +kernel
theorem dX10_told_105 : decode cX10_told 105 = .ok (.getfield 19, 3) := by decide +kernel
theorem dX10_told_108 : decode cX10_told 108 = .ok (.getfield 125, 3) := by decide +kernel
theorem dX10_told_111 : decode cX10_told 111 = .ok (.ireturn, 1) := by decide +kernel
theorem dX10_told_112 : decode cX10_told 112 = .ok (.aload_n 0, 1) := by decide +kernel
theorem dX10_told_113 : decode cX10_told 113 = .ok (.getfield 19, 3) := by decide +kernel
theorem dX10_told_116 : decode cX10_told 116 = .ok (.getfield 113, 3) := by decide +kernel
theorem dX10_told_119 : decode cX10_told 119 = .ok (.ireturn, 1) := by decide +kernel
theorem dX10_told_120 : decode cX10_told 120 = .ok (.aload_n 0, 1) := by decide +kernel
theorem dX10_told_121 : decode cX10_told 121 = .ok (.getfield 19, 3) := by decide +kernel
theorem dX10_told_124 : decode cX10_told 124 = .ok (.getfield 128, 3) := by decide +kernel
theorem dX10_told_127 : decode cX10_told 127 = .ok (.ireturn, 1) := by decide +kernel
theorem dX10_told_128 : decode cX10_told 128 = .ok (.aload_n 0, 1) := by decide +kernel
theorem dX10_told_129 : decode cX10_told 129 = .ok (.getfield 10, 3) := by decide +kernel
theorem dX10_told_132 : decode cX10_told 132 = .ok (.getfield 88, 3) := by decide +kernel
theorem dX10_told_135 : decode cX10_told 135 = .ok (.ireturn, 1) := by decide +kernel
theorem dX10_told_136 : decode cX10_told 136 = .ok (.aload_n 0, 1) := by decide +kernel
theorem dX10_told_137 : decode cX10_told 137 = .ok (.getfield 26, 3) := by decide +kernel
theorem dX10_told_140 : decode cX10_told 140 = .ok (.getfield 131, 3) := by decide +kernel
theorem dX10_told_143 : decode cX10_told 143 = .ok (.ireturn, 1) := by decide +kernel
theorem dX10_told_144 : decode cX10_told 144 = .ok (.aload_n 0, 1) := by decide +kernel
theorem dX10_told_145 : decode cX10_told 145 = .ok (.invokevirtual 134, 3) := by decide +kernel
theorem dX10_told_148 : decode cX10_told 148 = .ok (.ireturn, 1) := by decide +kernel
theorem dX10_told_149 : decode cX10_told 149 = .ok (.aload_n 0, 1) := by decide +kernel
theorem dX10_told_150 : decode cX10_told 150 = .ok (.getfield 26, 3) := by decide +kernel
theorem dX10_told_153 : decode cX10_told 153 = .ok (.getfield 137, 3) := by decide +kernel
theorem dX10_told_156 : decode cX10_told 156 = .ok (.ireturn, 1) := by decide +kernel
theorem dX10_told_157 : decode cX10_told 157 = .ok (.aload_n 0, 1) := by decide +kernel
theorem dX10_told_158 : decode cX10_told 158 = .ok (.getfield 19, 3) := by decide +kernel
theorem dX10_told_161 : decode cX10_told 161 = .ok (.aload_n 0, 1) := by decide +kernel
theorem dX10_told_162 : decode cX10_told 162 = .ok (.getfield 26, 3) := by decide +kernel
theorem dX10_told_165 : decode cX10_told 165 = .ok (.getfield 140, 3) := by decide +kernel
theorem dX10_told_168 : decode cX10_told 168 = .ok (.invokevirtual 143, 3) := by decide +kernel
theorem dX10_told_171 : decode cX10_told 171 = .ok (.ireturn, 1) := by decide +kernel
theorem dX10_told_172 : decode cX10_told 172 = .ok (.aload_n 0, 1) := by decide +kernel
theorem dX10_told_173 : decode cX10_told 173 = .ok (.getfield 26, 3) := by decide +kernel
theorem dX10_told_176 : decode cX10_told 176 = .ok (.getfield 147, 3) := by decide +kernel
theorem dX10_told_179 : decode cX10_told 179 = .ok (.ireturn, 1) := by decide +kernel
theorem dX10_told_180 : decode cX10_told 180 = .ok (.aload_n 0, 1) := by decide +kernel
theorem dX10_told_181 : decode cX10_told 181 = .ok (.getfield 26, 3) := by decide +kernel
theorem dX10_told_184 : decode cX10_told 184 = .ok (.getfield 150, 3) := by decide +kernel
theorem dX10_told_187 : decode cX10_told 187 = .ok (.ireturn, 1) := by decide +kernel
theorem dX10_told_188 : decode cX10_told 188 = .ok (.aload_n 0, 1) := by decide +kernel
theorem dX10_told_189 : decode cX10_told 189 = .ok (.getfield 26, 3) := by decide +kernel
theorem dX10_told_192 : decode cX10_told 192 = .ok (.getfield 153, 3) := by decide +kernel
theorem dX10_told_195 : decode cX10_told 195 = .ok (.ireturn, 1) := by decide +kernel
theorem dX10_told_196 : decode cX10_told 196 = .ok (.aload_n 0, 1) := by decide +kernel
theorem dX10_told_197 : decode cX10_told 197 = .ok (.getfield 19, 3) := by decide +kernel
theorem dX10_told_200 : decode cX10_told 200 = .ok (.aload_n 0, 1) := by decide +kernel
theorem dX10_told_201 : decode cX10_told 201 = .ok (.getfield 19, 3) := by decide +kernel
theorem dX10_told_204 : decode cX10_told 204 = .ok (.invokevirtual 156, 3) := by decide +kernel
theorem dX10_told_207 : decode cX10_told 207 = .ok (.aload_n 0, 1) := by decide +kernel
theorem dX10_told_208 : decode cX10_told 208 = .ok (.getfield 26, 3) := by decide +kernel
theorem dX10_told_211 : decode cX10_told 211 = .ok (.getfield 140, 3) := by decide +kernel
theorem dX10_told_214 : decode cX10_told 214 = .ok (.invokevirtual 159, 3) := by decide +kernel
theorem dX10_told_217 : decode cX10_told 217 = .ok (.ireturn, 1) := by decide +kernel
theorem dX10_told_218 : decode cX10_told 218 = .ok (.aload_n 0, 1) := by decide +kernel
theorem dX10_told_219 : decode cX10_told 219 = .ok (.getfield 47, 3) := by decide +kernel
theorem dX10_told_222 : decode cX10_told 222 = .ok (.getfield 163, 3) := by decide +kernel
theorem dX10_told_225 : decode cX10_told 225 = .ok (.ireturn, 1) := by decide +kernel
theorem dX10_told_226 : decode cX10_told 226 = .ok (.aload_n 0, 1) := by decide +kernel
theorem dX10_told_227 : decode cX10_told 227 = .ok (.getfield 47, 3) := by decide +kernel
theorem dX10_told_230 : decode cX10_told 230 = .ok (.getfield 166, 3) := by decide +kernel
theorem dX10_told_233 : decode cX10_told 233 = .ok (.ireturn, 1) := by decide +kernel
theorem dX10_told_234 : decode cX10_told 234 = .ok (.aload_n 0, 1) := by decide +kernel
theorem dX10_told_235 : decode cX10_told 235 = .ok (.getfield 47, 3) := by decide +kernel
theorem dX10_told_238 : decode cX10_told 238 = .ok (.invokevirtual 169, 3) := by decide +kernel
theorem dX10_told_241 : decode cX10_told 241 = .ok (.ireturn, 1) := by decide +kernel
theorem dX10_told_242 : decode cX10_told 242 = .ok (.aload_n 0, 1) := by decide +kernel
theorem dX10_told_243 : decode cX10_told 243 = .ok (.getfield 33, 3) := by decide +kernel
theorem dX10_told_246 : decode cX10_told 246 = .ok (.getfield 172, 3) := by decide +kernel
theorem dX10_told_249 : decode cX10_told 249 = .ok (.ireturn, 1) := by decide +kernel
theorem dX10_told_250 : decode cX10_told 250 = .ok (.ldc 83, 2) := by decide +kernel
theorem dX10_told_252 : decode cX10_told 252 = .ok (.ireturn, 1) := by decide +kernel
set_option maxRecDepth 20000 in
theorem ggX10_road_X2_hasRoad : GoodIn wsX10_road wsX2_hasRoad := goodIn_r _ [17, 18, 31, 32, 33, 34, 35, 36, 37, 38, 39, 40, 41, 42, 43] rfl (by decide +kernel)
set_option maxRecDepth 20000 in
theorem gX10_road_X2_hasRoad : GoodIn wsX10_road (wsV RX10 175 RX2 yX2_hasRoad wsX2_hasRoad) := goodIn_app (goodIn_of _ (by decide +kernel)) ggX10_road_X2_hasRoad
theorem dX10_road_0 : decode cX10_road 0 = .ok (.aload_n 0, 1) := by decide +kernel
theorem dX10_road_1 : decode cX10_road 1 = .ok (.getfield 19, 3) := by decide +kernel
theorem dX10_road_4 : decode cX10_road 4 = .ok (.iload_n 1, 1) := by decide +kernel
theorem dX10_road_5 : decode cX10_road 5 = .ok (.invokevirtual 175, 3) := by decide +kernel
theorem dX10_road_8 : decode cX10_road 8 = .ok (.ifCond .ne 6, 3) := by decide +kernel
theorem dX10_road_11 : decode cX10_road 11 = .ok (.ldc 178, 2) := by decide +kernel
theorem dX10_road_13 : decode cX10_road 13 = .ok (.ireturn, 1) := by decide +kernel
theorem dX10_road_14 : decode cX10_road 14 = .ok (.iload_n 2, 1) := by decide +kernel
theorem dX10_road_15 : decode cX10_road 15 = .ok (.tableswitch 127 0 6 #[41, 51, 61, 71, 81, 91, 101], 41) := by decide +kernel
theorem dX10_road_56 : decode cX10_road 56 = .ok (.aload_n 0, 1) := by decide +kernel
theorem dX10_road_57 : decode cX10_road 57 = .ok (.getfield 19, 3) := by decide +kernel
theorem dX10_road_60 : decode cX10_road 60 = .ok (.getfield 179, 3) := by decide +kernel
theorem dX10_road_63 : decode cX10_road 63 = .ok (.iload_n 1, 1) := by decide +kernel
theorem dX10_road_64 : decode cX10_road 64 = .ok (.iaload, 1) := by decide +kernel
theorem dX10_road_65 : decode cX10_road 65 = .ok (.ireturn, 1) := by decide +kernel
theorem dX10_road_66 : decode cX10_road 66 = .ok (.aload_n 0, 1) := by decide +kernel
theorem dX10_road_67 : decode cX10_road 67 = .ok (.getfield 19, 3) := by decide +kernel
theorem dX10_road_70 : decode cX10_road 70 = .ok (.getfield 182, 3) := by decide +kernel
theorem dX10_road_73 : decode cX10_road 73 = .ok (.iload_n 1, 1) := by decide +kernel
theorem dX10_road_74 : decode cX10_road 74 = .ok (.iaload, 1) := by decide +kernel
theorem dX10_road_75 : decode cX10_road 75 = .ok (.ireturn, 1) := by decide +kernel
theorem dX10_road_76 : decode cX10_road 76 = .ok (.aload_n 0, 1) := by decide +kernel
theorem dX10_road_77 : decode cX10_road 77 = .ok (.getfield 19, 3) := by decide +kernel
theorem dX10_road_80 : decode cX10_road 80 = .ok (.getfield 185, 3) := by decide +kernel
theorem dX10_road_83 : decode cX10_road 83 = .ok (.iload_n 1, 1) := by decide +kernel
theorem dX10_road_84 : decode cX10_road 84 = .ok (.iaload, 1) := by decide +kernel
theorem dX10_road_85 : decode cX10_road 85 = .ok (.ireturn, 1) := by decide +kernel
theorem dX10_road_86 : decode cX10_road 86 = .ok (.aload_n 0, 1) := by decide +kernel
theorem dX10_road_87 : decode cX10_road 87 = .ok (.getfield 26, 3) := by decide +kernel
theorem dX10_road_90 : decode cX10_road 90 = .ok (.getfield 140, 3) := by decide +kernel
theorem dX10_road_93 : decode cX10_road 93 = .ok (.iload_n 1, 1) := by decide +kernel
theorem dX10_road_94 : decode cX10_road 94 = .ok (.iaload, 1) := by decide +kernel
theorem dX10_road_95 : decode cX10_road 95 = .ok (.ireturn, 1) := by decide +kernel
theorem dX10_road_96 : decode cX10_road 96 = .ok (.aload_n 0, 1) := by decide +kernel
theorem dX10_road_97 : decode cX10_road 97 = .ok (.getfield 19, 3) := by decide +kernel
theorem dX10_road_100 : decode cX10_road 100 = .ok (.getfield 188, 3) := by decide +kernel
theorem dX10_road_103 : decode cX10_road 103 = .ok (.iload_n 1, 1) := by decide +kernel
theorem dX10_road_104 : decode cX10_road 104 = .ok (.iaload, 1) := by decide +kernel
theorem dX10_road_105 : decode cX10_road 105 = .ok (.ireturn, 1) := by decide +kernel
theorem dX10_road_106 : decode cX10_road 106 = .ok (.aload_n 0, 1) := by decide +kernel
theorem dX10_road_107 : decode cX10_road 107 = .ok (.getfield 19, 3) := by decide +kernel
theorem dX10_road_110 : decode cX10_road 110 = .ok (.getfield 189, 3) := by decide +kernel
theorem dX10_road_113 : decode cX10_road 113 = .ok (.iload_n 1, 1) := by decide +kernel
theorem dX10_road_114 : decode cX10_road 114 = .ok (.iaload, 1) := by decide +kernel
theorem dX10_road_115 : decode cX10_road 115 = .ok (.ireturn, 1) := by decide +kernel
theorem dX10_road_116 : decode cX10_road 116 = .ok (.aload_n 0, 1) := by decide +kernel
theorem dX10_road_117 : decode cX10_road 117 = .ok (.getfield 47, 3) := by decide +kernel
theorem dX10_road_120 : decode cX10_road 120 = .ok (.getfield 192, 3) := by decide +kernel
theorem dX10_road_123 : decode cX10_road 123 = .ok (.iload_n 1, 1) := by decide +kernel
theorem dX10_road_124 : decode cX10_road 124 = .ok (.iaload, 1) := by decide +kernel
theorem dX10_road_125 : decode cX10_road 125 = .ok (.ifCond .ne 7, 3) := by decide +kernel
theorem dX10_road_128 : decode cX10_road 128 = .ok (.iconst (-1), 1) := by decide +kernel
theorem dX10_road_129 : decode cX10_road 129 = .ok (.goto 12, 3) := by decide +kernel
theorem dX10_road_132 : decode cX10_road 132 = .ok (.aload_n 0, 1) := by decide +kernel
theorem dX10_road_133 : decode cX10_road 133 = .ok (.getfield 47, 3) := by decide +kernel
theorem dX10_road_136 : decode cX10_road 136 = .ok (.getfield 192, 3) := by decide +kernel
theorem dX10_road_139 : decode cX10_road 139 = .ok (.iload_n 1, 1) := by decide +kernel
theorem dX10_road_140 : decode cX10_road 140 = .ok (.iaload, 1) := by decide +kernel
theorem dX10_road_141 : decode cX10_road 141 = .ok (.ireturn, 1) := by decide +kernel
theorem dX10_road_142 : decode cX10_road 142 = .ok (.ldc 83, 2) := by decide +kernel
theorem dX10_road_144 : decode cX10_road 144 = .ok (.ireturn, 1) := by decide +kernel
set_option maxRecDepth 20000 in
theorem ggX10_treaty_X2_sum : GoodIn wsX10_treaty wsX2_sum := goodIn_r _ [14, 15, 47, 48, 49, 50, 51, 52, 53, 54, 55, 56, 57, 58, 59] rfl (by decide +kernel)
set_option maxRecDepth 20000 in
theorem gX10_treaty_X2_sum : GoodIn wsX10_treaty (wsV RX10 159 RX2 yX2_sum wsX2_sum) := goodIn_app (goodIn_of _ (by decide +kernel)) ggX10_treaty_X2_sum
set_option maxRecDepth 20000 in
theorem ggX10_treaty_X2_holds : GoodIn wsX10_treaty wsX2_holds := goodIn_r _ [19, 20, 21, 11, 12, 13, 14, 15, 22, 23, 24, 25, 26, 27, 28, 29, 30, 31, 32, 33, 34, 47, 48, 49, 50, 51, 52, 53, 54, 55, 56, 57, 58, 59] rfl (by decide +kernel)
set_option maxRecDepth 20000 in
theorem gX10_treaty_X2_holds : GoodIn wsX10_treaty (wsV RX10 204 RX2 yX2_holds wsX2_holds) := goodIn_app (goodIn_of _ (by decide +kernel)) ggX10_treaty_X2_holds
theorem dX10_treaty_0 : decode cX10_treaty 0 = .ok (.iload_n 1, 1) := by decide +kernel
theorem dX10_treaty_1 : decode cX10_treaty 1 = .ok (.ifCond .lt 14, 3) := by decide +kernel
theorem dX10_treaty_4 : decode cX10_treaty 4 = .ok (.iload_n 1, 1) := by decide +kernel
theorem dX10_treaty_5 : decode cX10_treaty 5 = .ok (.aload_n 0, 1) := by decide +kernel
theorem dX10_treaty_6 : decode cX10_treaty 6 = .ok (.getfield 19, 3) := by decide +kernel
theorem dX10_treaty_9 : decode cX10_treaty 9 = .ok (.getfield 128, 3) := by decide +kernel
theorem dX10_treaty_12 : decode cX10_treaty 12 = .ok (.if_icmp .lt 6, 3) := by decide +kernel
theorem dX10_treaty_15 : decode cX10_treaty 15 = .ok (.ldc 178, 2) := by decide +kernel
theorem dX10_treaty_17 : decode cX10_treaty 17 = .ok (.ireturn, 1) := by decide +kernel
theorem dX10_treaty_18 : decode cX10_treaty 18 = .ok (.iload_n 2, 1) := by decide +kernel
theorem dX10_treaty_19 : decode cX10_treaty 19 = .ok (.tableswitch 111 0 4 #[33, 43, 53, 63, 87], 33) := by decide +kernel
theorem dX10_treaty_52 : decode cX10_treaty 52 = .ok (.aload_n 0, 1) := by decide +kernel
theorem dX10_treaty_53 : decode cX10_treaty 53 = .ok (.getfield 19, 3) := by decide +kernel
theorem dX10_treaty_56 : decode cX10_treaty 56 = .ok (.getfield 195, 3) := by decide +kernel
theorem dX10_treaty_59 : decode cX10_treaty 59 = .ok (.iload_n 1, 1) := by decide +kernel
theorem dX10_treaty_60 : decode cX10_treaty 60 = .ok (.iaload, 1) := by decide +kernel
theorem dX10_treaty_61 : decode cX10_treaty 61 = .ok (.ireturn, 1) := by decide +kernel
theorem dX10_treaty_62 : decode cX10_treaty 62 = .ok (.aload_n 0, 1) := by decide +kernel
theorem dX10_treaty_63 : decode cX10_treaty 63 = .ok (.getfield 19, 3) := by decide +kernel
theorem dX10_treaty_66 : decode cX10_treaty 66 = .ok (.getfield 198, 3) := by decide +kernel
theorem dX10_treaty_69 : decode cX10_treaty 69 = .ok (.iload_n 1, 1) := by decide +kernel
theorem dX10_treaty_70 : decode cX10_treaty 70 = .ok (.iaload, 1) := by decide +kernel
theorem dX10_treaty_71 : decode cX10_treaty 71 = .ok (.ireturn, 1) := by decide +kernel
theorem dX10_treaty_72 : decode cX10_treaty 72 = .ok (.aload_n 0, 1) := by decide +kernel
theorem dX10_treaty_73 : decode cX10_treaty 73 = .ok (.getfield 19, 3) := by decide +kernel
theorem dX10_treaty_76 : decode cX10_treaty 76 = .ok (.getfield 201, 3) := by decide +kernel
theorem dX10_treaty_79 : decode cX10_treaty 79 = .ok (.iload_n 1, 1) := by decide +kernel
theorem dX10_treaty_80 : decode cX10_treaty 80 = .ok (.iaload, 1) := by decide +kernel
theorem dX10_treaty_81 : decode cX10_treaty 81 = .ok (.ireturn, 1) := by decide +kernel
theorem dX10_treaty_82 : decode cX10_treaty 82 = .ok (.aload_n 0, 1) := by decide +kernel
theorem dX10_treaty_83 : decode cX10_treaty 83 = .ok (.getfield 19, 3) := by decide +kernel
theorem dX10_treaty_86 : decode cX10_treaty 86 = .ok (.aload_n 0, 1) := by decide +kernel
theorem dX10_treaty_87 : decode cX10_treaty 87 = .ok (.getfield 19, 3) := by decide +kernel
theorem dX10_treaty_90 : decode cX10_treaty 90 = .ok (.getfield 198, 3) := by decide +kernel
theorem dX10_treaty_93 : decode cX10_treaty 93 = .ok (.iload_n 1, 1) := by decide +kernel
theorem dX10_treaty_94 : decode cX10_treaty 94 = .ok (.iaload, 1) := by decide +kernel
theorem dX10_treaty_95 : decode cX10_treaty 95 = .ok (.aload_n 0, 1) := by decide +kernel
theorem dX10_treaty_96 : decode cX10_treaty 96 = .ok (.getfield 26, 3) := by decide +kernel
theorem dX10_treaty_99 : decode cX10_treaty 99 = .ok (.getfield 140, 3) := by decide +kernel
theorem dX10_treaty_102 : decode cX10_treaty 102 = .ok (.invokevirtual 159, 3) := by decide +kernel
theorem dX10_treaty_105 : decode cX10_treaty 105 = .ok (.ireturn, 1) := by decide +kernel
theorem dX10_treaty_106 : decode cX10_treaty 106 = .ok (.aload_n 0, 1) := by decide +kernel
theorem dX10_treaty_107 : decode cX10_treaty 107 = .ok (.getfield 19, 3) := by decide +kernel
theorem dX10_treaty_110 : decode cX10_treaty 110 = .ok (.iload_n 1, 1) := by decide +kernel
theorem dX10_treaty_111 : decode cX10_treaty 111 = .ok (.aload_n 0, 1) := by decide +kernel
theorem dX10_treaty_112 : decode cX10_treaty 112 = .ok (.getfield 26, 3) := by decide +kernel
theorem dX10_treaty_115 : decode cX10_treaty 115 = .ok (.getfield 140, 3) := by decide +kernel
theorem dX10_treaty_118 : decode cX10_treaty 118 = .ok (.invokevirtual 204, 3) := by decide +kernel
theorem dX10_treaty_121 : decode cX10_treaty 121 = .ok (.ifCond .eq 7, 3) := by decide +kernel
theorem dX10_treaty_124 : decode cX10_treaty 124 = .ok (.iconst 1, 1) := by decide +kernel
theorem dX10_treaty_125 : decode cX10_treaty 125 = .ok (.goto 4, 3) := by decide +kernel
theorem dX10_treaty_128 : decode cX10_treaty 128 = .ok (.iconst 0, 1) := by decide +kernel
theorem dX10_treaty_129 : decode cX10_treaty 129 = .ok (.ireturn, 1) := by decide +kernel
theorem dX10_treaty_130 : decode cX10_treaty 130 = .ok (.ldc 83, 2) := by decide +kernel
theorem dX10_treaty_132 : decode cX10_treaty 132 = .ok (.ireturn, 1) := by decide +kernel
set_option maxRecDepth 20000 in
theorem ggX10_shift_X2_hasRoad : GoodIn wsX10_shift wsX2_hasRoad := goodIn_r _ [12, 13, 91, 92, 93, 94, 95, 96, 97, 98, 99, 100, 101, 102, 103] rfl (by decide +kernel)
set_option maxRecDepth 20000 in
theorem gX10_shift_X2_hasRoad : GoodIn wsX10_shift (wsV RX10 175 RX2 yX2_hasRoad wsX2_hasRoad) := goodIn_app (goodIn_of _ (by decide +kernel)) ggX10_shift_X2_hasRoad
set_option maxRecDepth 20000 in
theorem ggX10_shift_X10_isMiles : GoodIn wsX10_shift wsX10_isMiles := goodIn_r _ [17] rfl (by decide +kernel)
set_option maxRecDepth 20000 in
theorem gX10_shift_X10_isMiles : GoodIn wsX10_shift (va_wsS RX10 208 yX10_isMiles wsX10_isMiles) := goodIn_app (goodIn_of _ (by decide +kernel)) ggX10_shift_X10_isMiles
set_option maxRecDepth 20000 in
theorem ggX10_shift_X10_isRightful : GoodIn wsX10_shift wsX10_isRightful := goodIn_r _ [21, 22, 23, 24, 25, 1, 26, 27, 3, 28, 29, 30, 31, 16, 32, 33, 34, 73, 74, 75, 76, 77, 78, 79, 80, 81, 82, 83, 84, 91, 92, 93, 94, 95, 96, 97, 98, 99, 100, 101, 102, 103, 85, 86, 87, 88, 89, 90] rfl (by decide +kernel)
set_option maxRecDepth 20000 in
theorem gX10_shift_X10_isRightful : GoodIn wsX10_shift (wsV RX10 211 RX10 yX10_isRightful wsX10_isRightful) := goodIn_app (goodIn_of _ (by decide +kernel)) ggX10_shift_X10_isRightful
set_option maxRecDepth 20000 in
theorem ggX10_shift_X0_push : GoodIn wsX10_shift wsX0_push := goodIn_r _ [39, 40, 41, 42, 43, 44, 45, 46, 47, 24, 48, 49, 50, 51, 52, 53, 54, 55, 56, 57, 58, 59, 60, 61, 62, 63, 64, 65, 66, 67, 68, 104, 105, 106, 85, 86, 87, 88, 89, 90] rfl (by decide +kernel)
set_option maxRecDepth 20000 in
theorem gX10_shift_X0_push : GoodIn wsX10_shift (wsV RX10 216 RX0 yX0_push wsX0_push) := goodIn_app (goodIn_of _ (by decide +kernel)) ggX10_shift_X0_push
set_option maxRecDepth 20000 in
theorem ggX10_shift_X8_move : GoodIn wsX10_shift wsX8_move := goodIn_r _ [72, 55, 66, 85, 86, 87, 88, 89, 90] rfl (by decide +kernel)
set_option maxRecDepth 20000 in
theorem gX10_shift_X8_move : GoodIn wsX10_shift (wsV RX10 220 RX8 yX8_move wsX8_move) := goodIn_app (goodIn_of _ (by decide +kernel)) ggX10_shift_X8_move
theorem dX10_shift_0 : decode cX10_shift 0 = .ok (.aload_n 0, 1) := by decide +kernel
theorem dX10_shift_1 : decode cX10_shift 1 = .ok (.getfield 19, 3) := by decide +kernel
theorem dX10_shift_4 : decode cX10_shift 4 = .ok (.iload_n 1, 1) := by decide +kernel
theorem dX10_shift_5 : decode cX10_shift 5 = .ok (.invokevirtual 175, 3) := by decide +kernel
theorem dX10_shift_8 : decode cX10_shift 8 = .ok (.ifCond .ne 6, 3) := by decide +kernel
theorem dX10_shift_11 : decode cX10_shift 11 = .ok (.ldc 178, 2) := by decide +kernel
theorem dX10_shift_13 : decode cX10_shift 13 = .ok (.ireturn, 1) := by decide +kernel
theorem dX10_shift_14 : decode cX10_shift 14 = .ok (.iload_n 2, 1) := by decide +kernel
theorem dX10_shift_15 : decode cX10_shift 15 = .ok (.bipush (-9), 2) := by decide +kernel
theorem dX10_shift_17 : decode cX10_shift 17 = .ok (.if_icmp .lt 30, 3) := by decide +kernel
theorem dX10_shift_20 : decode cX10_shift 20 = .ok (.iload_n 2, 1) := by decide +kernel
theorem dX10_shift_21 : decode cX10_shift 21 = .ok (.bipush 9, 2) := by decide +kernel
theorem dX10_shift_23 : decode cX10_shift 23 = .ok (.if_icmp .gt 24, 3) := by decide +kernel
theorem dX10_shift_26 : decode cX10_shift 26 = .ok (.iload_n 2, 1) := by decide +kernel
theorem dX10_shift_27 : decode cX10_shift 27 = .ok (.ifCond .eq 20, 3) := by decide +kernel
theorem dX10_shift_30 : decode cX10_shift 30 = .ok (.aload_n 0, 1) := by decide +kernel
theorem dX10_shift_31 : decode cX10_shift 31 = .ok (.getfield 26, 3) := by decide +kernel
theorem dX10_shift_34 : decode cX10_shift 34 = .ok (.getfield 140, 3) := by decide +kernel
theorem dX10_shift_37 : decode cX10_shift 37 = .ok (.iload_n 1, 1) := by decide +kernel
theorem dX10_shift_38 : decode cX10_shift 38 = .ok (.iaload, 1) := by decide +kernel
theorem dX10_shift_39 : decode cX10_shift 39 = .ok (.iload_n 2, 1) := by decide +kernel
theorem dX10_shift_40 : decode cX10_shift 40 = .ok (.iadd, 1) := by decide +kernel
theorem dX10_shift_41 : decode cX10_shift 41 = .ok (.invokestatic 208, 3) := by decide +kernel
theorem dX10_shift_44 : decode cX10_shift 44 = .ok (.ifCond .ne 6, 3) := by decide +kernel
theorem dX10_shift_47 : decode cX10_shift 47 = .ok (.ldc 83, 2) := by decide +kernel
theorem dX10_shift_49 : decode cX10_shift 49 = .ok (.ireturn, 1) := by decide +kernel
theorem dX10_shift_50 : decode cX10_shift 50 = .ok (.aload_n 0, 1) := by decide +kernel
theorem dX10_shift_51 : decode cX10_shift 51 = .ok (.iload_n 1, 1) := by decide +kernel
theorem dX10_shift_52 : decode cX10_shift 52 = .ok (.iload_n 2, 1) := by decide +kernel
theorem dX10_shift_53 : decode cX10_shift 53 = .ok (.invokevirtual 211, 3) := by decide +kernel
theorem dX10_shift_56 : decode cX10_shift 56 = .ok (.ifCond .ne 6, 3) := by decide +kernel
theorem dX10_shift_59 : decode cX10_shift 59 = .ok (.ldc 215, 2) := by decide +kernel
theorem dX10_shift_61 : decode cX10_shift 61 = .ok (.ireturn, 1) := by decide +kernel
theorem dX10_shift_62 : decode cX10_shift 62 = .ok (.aload_n 0, 1) := by decide +kernel
theorem dX10_shift_63 : decode cX10_shift 63 = .ok (.getfield 33, 3) := by decide +kernel
theorem dX10_shift_66 : decode cX10_shift 66 = .ok (.aload_n 0, 1) := by decide +kernel
theorem dX10_shift_67 : decode cX10_shift 67 = .ok (.getfield 26, 3) := by decide +kernel
theorem dX10_shift_70 : decode cX10_shift 70 = .ok (.invokevirtual 216, 3) := by decide +kernel
theorem dX10_shift_73 : decode cX10_shift 73 = .ok (.aload_n 0, 1) := by decide +kernel
theorem dX10_shift_74 : decode cX10_shift 74 = .ok (.getfield 26, 3) := by decide +kernel
theorem dX10_shift_77 : decode cX10_shift 77 = .ok (.iload_n 1, 1) := by decide +kernel
theorem dX10_shift_78 : decode cX10_shift 78 = .ok (.iload_n 2, 1) := by decide +kernel
theorem dX10_shift_79 : decode cX10_shift 79 = .ok (.invokevirtual 220, 3) := by decide +kernel
theorem dX10_shift_82 : decode cX10_shift 82 = .ok (.aload_n 0, 1) := by decide +kernel
theorem dX10_shift_83 : decode cX10_shift 83 = .ok (.getfield 26, 3) := by decide +kernel
theorem dX10_shift_86 : decode cX10_shift 86 = .ok (.getfield 140, 3) := by decide +kernel
theorem dX10_shift_89 : decode cX10_shift 89 = .ok (.iload_n 1, 1) := by decide +kernel
theorem dX10_shift_90 : decode cX10_shift 90 = .ok (.iaload, 1) := by decide +kernel
theorem dX10_shift_91 : decode cX10_shift 91 = .ok (.ireturn, 1) := by decide +kernel
set_option maxRecDepth 20000 in
theorem ggX10_year_X10_refuseYears : GoodIn wsX10_year wsX10_refuseYears := goodIn_r _ [9, 10, 3, 11, 12, 2, 4, 13, 86, 87, 88, 89, 90, 91, 92, 93, 94, 95, 96, 97, 104, 105, 106, 107, 108, 109, 110, 111, 112, 113, 114, 115, 116, 98, 99, 100, 101, 102, 103] rfl (by decide +kernel)
set_option maxRecDepth 20000 in
theorem gX10_year_X10_refuseYears : GoodIn wsX10_year (wsV RX10 224 RX10 yX10_refuseYears wsX10_refuseYears) := goodIn_app (goodIn_of _ (by decide +kernel)) ggX10_year_X10_refuseYears
set_option maxRecDepth 20000 in
theorem ggX10_year_X0_push : GoodIn wsX10_year wsX0_push := goodIn_r _ [18, 19, 20, 21, 22, 23, 24, 25, 26, 27, 28, 29, 30, 31, 32, 33, 34, 35, 36, 37, 38, 39, 40, 41, 42, 43, 44, 45, 46, 47, 48, 117, 118, 119, 98, 99, 100, 101, 102, 103] rfl (by decide +kernel)
set_option maxRecDepth 20000 in
theorem gX10_year_X0_push : GoodIn wsX10_year (wsV RX10 216 RX0 yX0_push wsX0_push) := goodIn_app (goodIn_of _ (by decide +kernel)) ggX10_year_X0_push
set_option maxRecDepth 20000 in
theorem ggX10_year_X8_goBy : GoodIn wsX10_year wsX8_goBy := goodIn_r _ [52, 35, 53, 46, 47, 54, 55, 56, 57, 58, 59, 60, 61, 62, 63, 64, 65, 66, 67, 68, 69, 70, 71, 72, 73, 74, 75, 76, 77, 27, 78, 79, 80, 81, 82, 83, 84, 23, 85, 36, 37, 48, 98, 99, 100, 101, 102, 103, 104, 105, 106, 107, 108, 109, 110, 111, 112, 113, 114, 115, 116] rfl (by decide +kernel)
set_option maxRecDepth 20000 in
theorem gX10_year_X8_goBy : GoodIn wsX10_year (wsV RX10 228 RX8 yX8_goBy wsX8_goBy) := goodIn_app (goodIn_of _ (by decide +kernel)) ggX10_year_X8_goBy
theorem dX10_year_0 : decode cX10_year 0 = .ok (.aload_n 0, 1) := by decide +kernel
theorem dX10_year_1 : decode cX10_year 1 = .ok (.iload_n 1, 1) := by decide +kernel
theorem dX10_year_2 : decode cX10_year 2 = .ok (.invokevirtual 224, 3) := by decide +kernel
theorem dX10_year_5 : decode cX10_year 5 = .ok (.istore_n 2, 1) := by decide +kernel
theorem dX10_year_6 : decode cX10_year 6 = .ok (.iload_n 2, 1) := by decide +kernel
theorem dX10_year_7 : decode cX10_year 7 = .ok (.ifCond .eq 5, 3) := by decide +kernel
theorem dX10_year_10 : decode cX10_year 10 = .ok (.iload_n 2, 1) := by decide +kernel
theorem dX10_year_11 : decode cX10_year 11 = .ok (.ireturn, 1) := by decide +kernel
theorem dX10_year_12 : decode cX10_year 12 = .ok (.aload_n 0, 1) := by decide +kernel
theorem dX10_year_13 : decode cX10_year 13 = .ok (.getfield 33, 3) := by decide +kernel
theorem dX10_year_16 : decode cX10_year 16 = .ok (.aload_n 0, 1) := by decide +kernel
theorem dX10_year_17 : decode cX10_year 17 = .ok (.getfield 26, 3) := by decide +kernel
theorem dX10_year_20 : decode cX10_year 20 = .ok (.invokevirtual 216, 3) := by decide +kernel
theorem dX10_year_23 : decode cX10_year 23 = .ok (.aload_n 0, 1) := by decide +kernel
theorem dX10_year_24 : decode cX10_year 24 = .ok (.getfield 26, 3) := by decide +kernel
theorem dX10_year_27 : decode cX10_year 27 = .ok (.aload_n 0, 1) := by decide +kernel
theorem dX10_year_28 : decode cX10_year 28 = .ok (.getfield 19, 3) := by decide +kernel
theorem dX10_year_31 : decode cX10_year 31 = .ok (.iload_n 1, 1) := by decide +kernel
theorem dX10_year_32 : decode cX10_year 32 = .ok (.invokevirtual 228, 3) := by decide +kernel
theorem dX10_year_35 : decode cX10_year 35 = .ok (.aload_n 0, 1) := by decide +kernel
theorem dX10_year_36 : decode cX10_year 36 = .ok (.getfield 26, 3) := by decide +kernel
theorem dX10_year_39 : decode cX10_year 39 = .ok (.getfield 131, 3) := by decide +kernel
theorem dX10_year_42 : decode cX10_year 42 = .ok (.ireturn, 1) := by decide +kernel
set_option maxRecDepth 20000 in
theorem ggX10_strike_X0_push : GoodIn wsX10_strike wsX0_push := goodIn_r _ [10, 11, 12, 13, 14, 15, 16, 17, 18, 19, 20, 21, 22, 23, 24, 25, 26, 27, 28, 29, 30, 31, 32, 33, 34, 35, 36, 37, 38, 39, 40, 72, 73, 74, 75, 76, 77, 78, 79, 80] rfl (by decide +kernel)
set_option maxRecDepth 20000 in
theorem gX10_strike_X0_push : GoodIn wsX10_strike (wsV RX10 216 RX0 yX0_push wsX0_push) := goodIn_app (goodIn_of _ (by decide +kernel)) ggX10_strike_X0_push
set_option maxRecDepth 20000 in
theorem ggX10_strike_X8_level : GoodIn wsX10_strike wsX8_level := goodIn_r _ [44, 45, 27, 46, 38, 59, 60, 61, 62, 63, 64, 65, 66, 67, 68, 69, 70, 71, 75, 76, 77, 78, 79, 80] rfl (by decide +kernel)
set_option maxRecDepth 20000 in
theorem gX10_strike_X8_level : GoodIn wsX10_strike (wsV RX10 232 RX8 yX8_level wsX8_level) := goodIn_app (goodIn_of _ (by decide +kernel)) ggX10_strike_X8_level
theorem dX10_strike_0 : decode cX10_strike 0 = .ok (.aload_n 0, 1) := by decide +kernel
theorem dX10_strike_1 : decode cX10_strike 1 = .ok (.getfield 19, 3) := by decide +kernel
theorem dX10_strike_4 : decode cX10_strike 4 = .ok (.getfield 119, 3) := by decide +kernel
theorem dX10_strike_7 : decode cX10_strike 7 = .ok (.ifCond .ne 6, 3) := by decide +kernel
theorem dX10_strike_10 : decode cX10_strike 10 = .ok (.ldc 215, 2) := by decide +kernel
theorem dX10_strike_12 : decode cX10_strike 12 = .ok (.ireturn, 1) := by decide +kernel
theorem dX10_strike_13 : decode cX10_strike 13 = .ok (.aload_n 0, 1) := by decide +kernel
theorem dX10_strike_14 : decode cX10_strike 14 = .ok (.getfield 33, 3) := by decide +kernel
theorem dX10_strike_17 : decode cX10_strike 17 = .ok (.aload_n 0, 1) := by decide +kernel
theorem dX10_strike_18 : decode cX10_strike 18 = .ok (.getfield 26, 3) := by decide +kernel
theorem dX10_strike_21 : decode cX10_strike 21 = .ok (.invokevirtual 216, 3) := by decide +kernel
theorem dX10_strike_24 : decode cX10_strike 24 = .ok (.aload_n 0, 1) := by decide +kernel
theorem dX10_strike_25 : decode cX10_strike 25 = .ok (.getfield 26, 3) := by decide +kernel
theorem dX10_strike_28 : decode cX10_strike 28 = .ok (.aload_n 0, 1) := by decide +kernel
theorem dX10_strike_29 : decode cX10_strike 29 = .ok (.getfield 19, 3) := by decide +kernel
theorem dX10_strike_32 : decode cX10_strike 32 = .ok (.invokevirtual 232, 3) := by decide +kernel
theorem dX10_strike_35 : decode cX10_strike 35 = .ok (.ireturn, 1) := by decide +kernel
set_option maxRecDepth 20000 in
theorem ggX10_drift_X10_refuseYears : GoodIn wsX10_drift wsX10_refuseYears := goodIn_r _ [9, 10, 3, 11, 12, 2, 4, 13, 131, 132, 133, 134, 135, 136, 137, 138, 139, 140, 141, 142, 149, 150, 151, 152, 153, 154, 155, 156, 157, 158, 159, 160, 161, 143, 144, 145, 146, 147, 148] rfl (by decide +kernel)
set_option maxRecDepth 20000 in
theorem gX10_drift_X10_refuseYears : GoodIn wsX10_drift (wsV RX10 224 RX10 yX10_refuseYears wsX10_refuseYears) := goodIn_app (goodIn_of _ (by decide +kernel)) ggX10_drift_X10_refuseYears
set_option maxRecDepth 20000 in
theorem ggX10_drift_X0_push : GoodIn wsX10_drift wsX0_push := goodIn_r _ [18, 19, 20, 21, 22, 23, 24, 25, 26, 27, 28, 29, 30, 31, 32, 33, 34, 35, 36, 37, 38, 39, 40, 41, 42, 43, 44, 45, 46, 47, 48, 162, 163, 164, 143, 144, 145, 146, 147, 148] rfl (by decide +kernel)
set_option maxRecDepth 20000 in
theorem gX10_drift_X0_push : GoodIn wsX10_drift (wsV RX10 216 RX0 yX0_push wsX0_push) := goodIn_app (goodIn_of _ (by decide +kernel)) ggX10_drift_X0_push
set_option maxRecDepth 20000 in
theorem ggX10_drift_X10_driftOnce : GoodIn wsX10_drift wsX10_driftOnce := goodIn_r _ [52, 2, 3, 53, 54, 55, 56, 57, 58, 8, 59, 60, 61, 62, 63, 64, 65, 66, 67, 23, 68, 69, 35, 70, 46, 71, 72, 73, 74, 75, 76, 77, 78, 79, 80, 81, 82, 83, 84, 85, 27, 86, 87, 88, 89, 90, 91, 92, 93, 4, 94, 95, 96, 97, 131, 132, 133, 134, 135, 136, 137, 138, 139, 140, 141, 142, 149, 150, 151, 152, 153, 154, 155, 156, 157, 158, 159, 160, 161, 143, 144, 145, 146, 147, 148] rfl (by decide +kernel)
set_option maxRecDepth 20000 in
theorem gX10_drift_X10_driftOnce : GoodIn wsX10_drift (wsV RX10 236 RX10 yX10_driftOnce wsX10_driftOnce) := goodIn_app (goodIn_of _ (by decide +kernel)) ggX10_drift_X10_driftOnce
set_option maxRecDepth 20000 in
theorem ggX10_drift_X8_goBy : GoodIn wsX10_drift wsX8_goBy := goodIn_r _ [101, 35, 102, 46, 47, 103, 104, 105, 74, 106, 107, 108, 109, 110, 111, 112, 113, 114, 115, 116, 76, 117, 118, 119, 120, 121, 122, 123, 85, 27, 86, 124, 125, 126, 127, 128, 129, 23, 130, 36, 37, 48, 143, 144, 145, 146, 147, 148, 149, 150, 151, 152, 153, 154, 155, 156, 157, 158, 159, 160, 161] rfl (by decide +kernel)
set_option maxRecDepth 20000 in
theorem gX10_drift_X8_goBy : GoodIn wsX10_drift (wsV RX10 228 RX8 yX8_goBy wsX8_goBy) := goodIn_app (goodIn_of _ (by decide +kernel)) ggX10_drift_X8_goBy
theorem dX10_drift_0 : decode cX10_drift 0 = .ok (.aload_n 0, 1) := by decide +kernel
theorem dX10_drift_1 : decode cX10_drift 1 = .ok (.iload_n 1, 1) := by decide +kernel
theorem dX10_drift_2 : decode cX10_drift 2 = .ok (.invokevirtual 224, 3) := by decide +kernel
theorem dX10_drift_5 : decode cX10_drift 5 = .ok (.istore_n 2, 1) := by decide +kernel
theorem dX10_drift_6 : decode cX10_drift 6 = .ok (.iload_n 2, 1) := by decide +kernel
theorem dX10_drift_7 : decode cX10_drift 7 = .ok (.ifCond .eq 5, 3) := by decide +kernel
theorem dX10_drift_10 : decode cX10_drift 10 = .ok (.iload_n 2, 1) := by decide +kernel
theorem dX10_drift_11 : decode cX10_drift 11 = .ok (.ireturn, 1) := by decide +kernel
theorem dX10_drift_12 : decode cX10_drift 12 = .ok (.aload_n 0, 1) := by decide +kernel
theorem dX10_drift_13 : decode cX10_drift 13 = .ok (.getfield 33, 3) := by decide +kernel
theorem dX10_drift_16 : decode cX10_drift 16 = .ok (.aload_n 0, 1) := by decide +kernel
theorem dX10_drift_17 : decode cX10_drift 17 = .ok (.getfield 26, 3) := by decide +kernel
theorem dX10_drift_20 : decode cX10_drift 20 = .ok (.invokevirtual 216, 3) := by decide +kernel
theorem dX10_drift_23 : decode cX10_drift 23 = .ok (.iconst 0, 1) := by decide +kernel
theorem dX10_drift_24 : decode cX10_drift 24 = .ok (.istore_n 3, 1) := by decide +kernel
theorem dX10_drift_25 : decode cX10_drift 25 = .ok (.iload_n 3, 1) := by decide +kernel
theorem dX10_drift_26 : decode cX10_drift 26 = .ok (.iload_n 1, 1) := by decide +kernel
theorem dX10_drift_27 : decode cX10_drift 27 = .ok (.if_icmp .ge 25, 3) := by decide +kernel
theorem dX10_drift_30 : decode cX10_drift 30 = .ok (.aload_n 0, 1) := by decide +kernel
theorem dX10_drift_31 : decode cX10_drift 31 = .ok (.invokevirtual 236, 3) := by decide +kernel
theorem dX10_drift_34 : decode cX10_drift 34 = .ok (.aload_n 0, 1) := by decide +kernel
theorem dX10_drift_35 : decode cX10_drift 35 = .ok (.getfield 26, 3) := by decide +kernel
theorem dX10_drift_38 : decode cX10_drift 38 = .ok (.aload_n 0, 1) := by decide +kernel
theorem dX10_drift_39 : decode cX10_drift 39 = .ok (.getfield 19, 3) := by decide +kernel
theorem dX10_drift_42 : decode cX10_drift 42 = .ok (.iconst 1, 1) := by decide +kernel
theorem dX10_drift_43 : decode cX10_drift 43 = .ok (.invokevirtual 228, 3) := by decide +kernel
theorem dX10_drift_46 : decode cX10_drift 46 = .ok (.iinc 3 1, 3) := by decide +kernel
theorem dX10_drift_49 : decode cX10_drift 49 = .ok (.goto (-24), 3) := by decide +kernel
theorem dX10_drift_52 : decode cX10_drift 52 = .ok (.aload_n 0, 1) := by decide +kernel
theorem dX10_drift_53 : decode cX10_drift 53 = .ok (.getfield 26, 3) := by decide +kernel
theorem dX10_drift_56 : decode cX10_drift 56 = .ok (.getfield 131, 3) := by decide +kernel
theorem dX10_drift_59 : decode cX10_drift 59 = .ok (.ireturn, 1) := by decide +kernel
set_option maxRecDepth 20000 in
theorem ggX10_undo_X0_pop : GoodIn wsX10_undo wsX0_pop := goodIn_r _ [9, 10, 11, 12, 13, 14, 15, 16, 17, 18, 19, 20, 21, 22, 23, 24, 25, 26, 27, 40, 41, 42, 43, 44, 45, 46, 47, 48] rfl (by decide +kernel)
set_option maxRecDepth 20000 in
theorem gX10_undo_X0_pop : GoodIn wsX10_undo (wsV RX10 239 RX0 yX0_pop wsX0_pop) := goodIn_app (goodIn_of _ (by decide +kernel)) ggX10_undo_X0_pop
theorem dX10_undo_0 : decode cX10_undo 0 = .ok (.aload_n 0, 1) := by decide +kernel
theorem dX10_undo_1 : decode cX10_undo 1 = .ok (.getfield 33, 3) := by decide +kernel
theorem dX10_undo_4 : decode cX10_undo 4 = .ok (.getfield 172, 3) := by decide +kernel
theorem dX10_undo_7 : decode cX10_undo 7 = .ok (.ifCond .ne 6, 3) := by decide +kernel
theorem dX10_undo_10 : decode cX10_undo 10 = .ok (.ldc 215, 2) := by decide +kernel
theorem dX10_undo_12 : decode cX10_undo 12 = .ok (.ireturn, 1) := by decide +kernel
theorem dX10_undo_13 : decode cX10_undo 13 = .ok (.aload_n 0, 1) := by decide +kernel
theorem dX10_undo_14 : decode cX10_undo 14 = .ok (.getfield 33, 3) := by decide +kernel
theorem dX10_undo_17 : decode cX10_undo 17 = .ok (.aload_n 0, 1) := by decide +kernel
theorem dX10_undo_18 : decode cX10_undo 18 = .ok (.getfield 26, 3) := by decide +kernel
theorem dX10_undo_21 : decode cX10_undo 21 = .ok (.invokevirtual 239, 3) := by decide +kernel
theorem dX10_undo_24 : decode cX10_undo 24 = .ok (.aload_n 0, 1) := by decide +kernel
theorem dX10_undo_25 : decode cX10_undo 25 = .ok (.getfield 33, 3) := by decide +kernel
theorem dX10_undo_28 : decode cX10_undo 28 = .ok (.getfield 172, 3) := by decide +kernel
theorem dX10_undo_31 : decode cX10_undo 31 = .ok (.ireturn, 1) := by decide +kernel
set_option maxRecDepth 20000 in
theorem ggX10_way_X10_areTowns : GoodIn wsX10_way wsX10_areTowns := goodIn_r _ [11, 3, 12, 13, 14, 15, 16, 17, 41, 42, 43, 44, 45, 46, 47, 48, 49, 50, 51, 52, 53, 54, 55, 56, 57, 58, 59, 60, 61, 62, 63, 64, 65] rfl (by decide +kernel)
set_option maxRecDepth 20000 in
theorem gX10_way_X10_areTowns : GoodIn wsX10_way (wsV RX10 242 RX10 yX10_areTowns wsX10_areTowns) := goodIn_app (goodIn_of _ (by decide +kernel)) ggX10_way_X10_areTowns
set_option maxRecDepth 20000 in
theorem ggX10_way_X9_least : GoodIn wsX10_way wsX9_least := goodIn_r _ [22, 23, 24, 25, 26, 27, 21, 28, 29, 30, 31, 32, 33, 34, 35, 36, 37, 38, 39, 40, 72, 73, 74, 53, 54, 55, 56, 57, 58, 59, 60, 61, 62, 63, 64, 65] rfl (by decide +kernel)
set_option maxRecDepth 20000 in
theorem gX10_way_X9_least : GoodIn wsX10_way (wsV RX10 245 RX9 yX9_least wsX9_least) := goodIn_app (goodIn_of _ (by decide +kernel)) ggX10_way_X9_least
theorem dX10_way_0 : decode cX10_way 0 = .ok (.aload_n 0, 1) := by decide +kernel
theorem dX10_way_1 : decode cX10_way 1 = .ok (.iload_n 1, 1) := by decide +kernel
theorem dX10_way_2 : decode cX10_way 2 = .ok (.iload_n 2, 1) := by decide +kernel
theorem dX10_way_3 : decode cX10_way 3 = .ok (.invokevirtual 242, 3) := by decide +kernel
theorem dX10_way_6 : decode cX10_way 6 = .ok (.ifCond .ne 6, 3) := by decide +kernel
theorem dX10_way_9 : decode cX10_way 9 = .ok (.ldc 178, 2) := by decide +kernel
theorem dX10_way_11 : decode cX10_way 11 = .ok (.ireturn, 1) := by decide +kernel
theorem dX10_way_12 : decode cX10_way 12 = .ok (.aload_n 0, 1) := by decide +kernel
theorem dX10_way_13 : decode cX10_way 13 = .ok (.getfield 54, 3) := by decide +kernel
theorem dX10_way_16 : decode cX10_way 16 = .ok (.aload_n 0, 1) := by decide +kernel
theorem dX10_way_17 : decode cX10_way 17 = .ok (.getfield 19, 3) := by decide +kernel
theorem dX10_way_20 : decode cX10_way 20 = .ok (.iload_n 3, 1) := by decide +kernel
theorem dX10_way_21 : decode cX10_way 21 = .ok (.ifCond .eq 13, 3) := by decide +kernel
theorem dX10_way_24 : decode cX10_way 24 = .ok (.aload_n 0, 1) := by decide +kernel
theorem dX10_way_25 : decode cX10_way 25 = .ok (.getfield 19, 3) := by decide +kernel
theorem dX10_way_28 : decode cX10_way 28 = .ok (.getfield 185, 3) := by decide +kernel
theorem dX10_way_31 : decode cX10_way 31 = .ok (.goto 10, 3) := by decide +kernel
theorem dX10_way_34 : decode cX10_way 34 = .ok (.aload_n 0, 1) := by decide +kernel
theorem dX10_way_35 : decode cX10_way 35 = .ok (.getfield 26, 3) := by decide +kernel
theorem dX10_way_38 : decode cX10_way 38 = .ok (.getfield 140, 3) := by decide +kernel
theorem dX10_way_41 : decode cX10_way 41 = .ok (.iload_n 1, 1) := by decide +kernel
theorem dX10_way_42 : decode cX10_way 42 = .ok (.iload_n 2, 1) := by decide +kernel
theorem dX10_way_43 : decode cX10_way 43 = .ok (.invokevirtual 245, 3) := by decide +kernel
theorem dX10_way_46 : decode cX10_way 46 = .ok (.ireturn, 1) := by decide +kernel
set_option maxRecDepth 20000 in
theorem ggX10_truly_X10_areTowns : GoodIn wsX10_truly wsX10_areTowns := goodIn_r _ [13, 3, 14, 15, 16, 17, 18, 19, 63, 64, 65, 66, 67, 68, 69, 70, 71, 72, 73, 74, 81, 82, 83, 84, 85, 86, 87, 88, 89, 90, 91, 92, 93] rfl (by decide +kernel)
set_option maxRecDepth 20000 in
theorem gX10_truly_X10_areTowns : GoodIn wsX10_truly (wsV RX10 242 RX10 yX10_areTowns wsX10_areTowns) := goodIn_app (goodIn_of _ (by decide +kernel)) ggX10_truly_X10_areTowns
set_option maxRecDepth 20000 in
theorem ggX10_truly_X9_go : GoodIn wsX10_truly wsX9_go := goodIn_r _ [24, 25, 26, 27, 28, 29, 23, 30, 31, 32, 33, 34, 35, 36, 37, 38, 39, 40, 41, 42, 43, 44, 45, 46, 47, 48, 49, 50, 51, 52, 53, 54, 55, 17, 56, 57, 58, 94, 95, 96, 81, 82, 83, 84, 85, 86, 87, 88, 89, 90, 91, 92, 93] rfl (by decide +kernel)
set_option maxRecDepth 20000 in
theorem gX10_truly_X9_go : GoodIn wsX10_truly (wsV RX10 249 RX9 yX9_go wsX9_go) := goodIn_app (goodIn_of _ (by decide +kernel)) ggX10_truly_X9_go
set_option maxRecDepth 20000 in
theorem ggX10_truly_X9_together : GoodIn wsX10_truly wsX9_together := goodIn_r _ [62, 25, 26, 94, 95, 96] rfl (by decide +kernel)
set_option maxRecDepth 20000 in
theorem gX10_truly_X9_together : GoodIn wsX10_truly (wsV RX10 253 RX9 yX9_together wsX9_together) := goodIn_app (goodIn_of _ (by decide +kernel)) ggX10_truly_X9_together
theorem dX10_truly_0 : decode cX10_truly 0 = .ok (.aload_n 0, 1) := by decide +kernel
theorem dX10_truly_1 : decode cX10_truly 1 = .ok (.iload_n 1, 1) := by decide +kernel
theorem dX10_truly_2 : decode cX10_truly 2 = .ok (.iload_n 2, 1) := by decide +kernel
theorem dX10_truly_3 : decode cX10_truly 3 = .ok (.invokevirtual 242, 3) := by decide +kernel
theorem dX10_truly_6 : decode cX10_truly 6 = .ok (.ifCond .ne 6, 3) := by decide +kernel
theorem dX10_truly_9 : decode cX10_truly 9 = .ok (.ldc 178, 2) := by decide +kernel
theorem dX10_truly_11 : decode cX10_truly 11 = .ok (.ireturn, 1) := by decide +kernel
theorem dX10_truly_12 : decode cX10_truly 12 = .ok (.aload_n 0, 1) := by decide +kernel
theorem dX10_truly_13 : decode cX10_truly 13 = .ok (.getfield 54, 3) := by decide +kernel
theorem dX10_truly_16 : decode cX10_truly 16 = .ok (.aload_n 0, 1) := by decide +kernel
theorem dX10_truly_17 : decode cX10_truly 17 = .ok (.getfield 19, 3) := by decide +kernel
theorem dX10_truly_20 : decode cX10_truly 20 = .ok (.aload_n 0, 1) := by decide +kernel
theorem dX10_truly_21 : decode cX10_truly 21 = .ok (.getfield 26, 3) := by decide +kernel
theorem dX10_truly_24 : decode cX10_truly 24 = .ok (.getfield 140, 3) := by decide +kernel
theorem dX10_truly_27 : decode cX10_truly 27 = .ok (.iload_n 1, 1) := by decide +kernel
theorem dX10_truly_28 : decode cX10_truly 28 = .ok (.iload_n 2, 1) := by decide +kernel
theorem dX10_truly_29 : decode cX10_truly 29 = .ok (.invokevirtual 249, 3) := by decide +kernel
theorem dX10_truly_32 : decode cX10_truly 32 = .ok (.ifCond .ne 5, 3) := by decide +kernel
theorem dX10_truly_35 : decode cX10_truly 35 = .ok (.iconst (-1), 1) := by decide +kernel
theorem dX10_truly_36 : decode cX10_truly 36 = .ok (.ireturn, 1) := by decide +kernel
theorem dX10_truly_37 : decode cX10_truly 37 = .ok (.iload_n 3, 1) := by decide +kernel
theorem dX10_truly_38 : decode cX10_truly 38 = .ok (.iconst (-1), 1) := by decide +kernel
theorem dX10_truly_39 : decode cX10_truly 39 = .ok (.if_icmp .ne 18, 3) := by decide +kernel
theorem dX10_truly_42 : decode cX10_truly 42 = .ok (.aload_n 0, 1) := by decide +kernel
theorem dX10_truly_43 : decode cX10_truly 43 = .ok (.getfield 54, 3) := by decide +kernel
theorem dX10_truly_46 : decode cX10_truly 46 = .ok (.aload_n 0, 1) := by decide +kernel
theorem dX10_truly_47 : decode cX10_truly 47 = .ok (.getfield 19, 3) := by decide +kernel
theorem dX10_truly_50 : decode cX10_truly 50 = .ok (.getfield 185, 3) := by decide +kernel
theorem dX10_truly_53 : decode cX10_truly 53 = .ok (.invokevirtual 253, 3) := by decide +kernel
theorem dX10_truly_56 : decode cX10_truly 56 = .ok (.ireturn, 1) := by decide +kernel
theorem dX10_truly_57 : decode cX10_truly 57 = .ok (.iload_n 3, 1) := by decide +kernel
theorem dX10_truly_58 : decode cX10_truly 58 = .ok (.ifCond .lt 26, 3) := by decide +kernel
theorem dX10_truly_61 : decode cX10_truly 61 = .ok (.iload_n 3, 1) := by decide +kernel
theorem dX10_truly_62 : decode cX10_truly 62 = .ok (.aload_n 0, 1) := by decide +kernel
theorem dX10_truly_63 : decode cX10_truly 63 = .ok (.getfield 54, 3) := by decide +kernel
theorem dX10_truly_66 : decode cX10_truly 66 = .ok (.getfield 256, 3) := by decide +kernel
theorem dX10_truly_69 : decode cX10_truly 69 = .ok (.if_icmp .ge 15, 3) := by decide +kernel
theorem dX10_truly_72 : decode cX10_truly 72 = .ok (.aload_n 0, 1) := by decide +kernel
theorem dX10_truly_73 : decode cX10_truly 73 = .ok (.getfield 54, 3) := by decide +kernel
theorem dX10_truly_76 : decode cX10_truly 76 = .ok (.getfield 259, 3) := by decide +kernel
theorem dX10_truly_79 : decode cX10_truly 79 = .ok (.iload_n 3, 1) := by decide +kernel
theorem dX10_truly_80 : decode cX10_truly 80 = .ok (.iaload, 1) := by decide +kernel
theorem dX10_truly_81 : decode cX10_truly 81 = .ok (.goto 4, 3) := by decide +kernel
theorem dX10_truly_84 : decode cX10_truly 84 = .ok (.iconst (-1), 1) := by decide +kernel
theorem dX10_truly_85 : decode cX10_truly 85 = .ok (.ireturn, 1) := by decide +kernel
set_option maxRecDepth 20000 in
theorem ggX10_adds_X10_isCrooked : GoodIn wsX10_adds wsX10_isCrooked := goodIn_r _ [7, 1, 8, 9, 10, 11, 12, 13, 14, 15, 16, 17, 18, 19, 20, 21, 22, 23, 24, 25, 26, 27, 28, 29, 30, 31, 32, 33, 34, 35, 36, 37, 51, 52, 53, 54, 55, 56, 38, 39, 40, 41, 42, 43, 44, 45, 46, 47, 48, 49, 50] rfl (by decide +kernel)
set_option maxRecDepth 20000 in
theorem gX10_adds_X10_isCrooked : GoodIn wsX10_adds (wsV RX10 262 RX10 yX10_isCrooked wsX10_isCrooked) := goodIn_app (goodIn_of _ (by decide +kernel)) ggX10_adds_X10_isCrooked
theorem dX10_adds_0 : decode cX10_adds 0 = .ok (.iconst 0, 1) := by decide +kernel
theorem dX10_adds_1 : decode cX10_adds 1 = .ok (.istore_n 1, 1) := by decide +kernel
theorem dX10_adds_2 : decode cX10_adds 2 = .ok (.iload_n 1, 1) := by decide +kernel
theorem dX10_adds_3 : decode cX10_adds 3 = .ok (.aload_n 0, 1) := by decide +kernel
theorem dX10_adds_4 : decode cX10_adds 4 = .ok (.getfield 19, 3) := by decide +kernel
theorem dX10_adds_7 : decode cX10_adds 7 = .ok (.getfield 119, 3) := by decide +kernel
theorem dX10_adds_10 : decode cX10_adds 10 = .ok (.if_icmp .ge 73, 3) := by decide +kernel
theorem dX10_adds_13 : decode cX10_adds 13 = .ok (.iload_n 1, 1) := by decide +kernel
theorem dX10_adds_14 : decode cX10_adds 14 = .ok (.iconst 1, 1) := by decide +kernel
theorem dX10_adds_15 : decode cX10_adds 15 = .ok (.iadd, 1) := by decide +kernel
theorem dX10_adds_16 : decode cX10_adds 16 = .ok (.istore_n 2, 1) := by decide +kernel
theorem dX10_adds_17 : decode cX10_adds 17 = .ok (.iload_n 2, 1) := by decide +kernel
theorem dX10_adds_18 : decode cX10_adds 18 = .ok (.aload_n 0, 1) := by decide +kernel
theorem dX10_adds_19 : decode cX10_adds 19 = .ok (.getfield 19, 3) := by decide +kernel
theorem dX10_adds_22 : decode cX10_adds 22 = .ok (.getfield 119, 3) := by decide +kernel
theorem dX10_adds_25 : decode cX10_adds 25 = .ok (.if_icmp .ge 52, 3) := by decide +kernel
theorem dX10_adds_28 : decode cX10_adds 28 = .ok (.iload_n 2, 1) := by decide +kernel
theorem dX10_adds_29 : decode cX10_adds 29 = .ok (.iconst 1, 1) := by decide +kernel
theorem dX10_adds_30 : decode cX10_adds 30 = .ok (.iadd, 1) := by decide +kernel
theorem dX10_adds_31 : decode cX10_adds 31 = .ok (.istore_n 3, 1) := by decide +kernel
theorem dX10_adds_32 : decode cX10_adds 32 = .ok (.iload_n 3, 1) := by decide +kernel
