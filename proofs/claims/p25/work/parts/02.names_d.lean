theorem dX0_init_0 : decode cX0_init 0 = .ok (.aload_n 0, 1) := by decide +kernel
theorem dX0_init_1 : decode cX0_init 1 = .ok (.invokespecial 3, 3) := by decide +kernel
theorem dX0_init_4 : decode cX0_init 4 = .ok (.aload_n 0, 1) := by decide +kernel
theorem dX0_init_5 : decode cX0_init 5 = .ok (.bipush 20, 2) := by decide +kernel
theorem dX0_init_7 : decode cX0_init 7 = .ok (.anewarray 9, 3) := by decide +kernel
theorem dX0_init_10 : decode cX0_init 10 = .ok (.putfield 11, 3) := by decide +kernel
theorem dX0_init_13 : decode cX0_init 13 = .ok (.return_, 1) := by decide +kernel
theorem dX0_clear_0 : decode cX0_clear 0 = .ok (.aload_n 0, 1) := by decide +kernel
theorem dX0_clear_1 : decode cX0_clear 1 = .ok (.iconst 0, 1) := by decide +kernel
theorem dX0_clear_2 : decode cX0_clear 2 = .ok (.putfield 17, 3) := by decide +kernel
theorem dX0_clear_5 : decode cX0_clear 5 = .ok (.return_, 1) := by decide +kernel
set_option maxRecDepth 20000 in
theorem ggX0_push_X8_init : GoodIn wsX0_push wsX8_init := goodIn_r _ [12, 13, 14, 15, 16, 17, 18, 19, 34, 35, 36, 37, 38, 39] rfl (by decide +kernel)
set_option maxRecDepth 20000 in
theorem gX0_push_X8_init_n24 : GoodIn wsX0_push (wsX8_init) := ggX0_push_X8_init
set_option maxRecDepth 20000 in
theorem ggX0_push_X8_copy : GoodIn wsX0_push wsX8_copy := goodIn_r _ [23, 17, 24, 25, 26, 27, 28, 29, 30, 18, 19, 34, 35, 36, 37, 38, 39] rfl (by decide +kernel)
set_option maxRecDepth 20000 in
theorem gX0_push_X8_copy : GoodIn wsX0_push (wsV RX0 25 RX8 yX8_copy wsX8_copy) := goodIn_app (goodIn_of _ (by decide +kernel)) ggX0_push_X8_copy
theorem dX0_push_0 : decode cX0_push 0 = .ok (.aload_n 0, 1) := by decide +kernel
theorem dX0_push_1 : decode cX0_push 1 = .ok (.getfield 11, 3) := by decide +kernel
theorem dX0_push_4 : decode cX0_push 4 = .ok (.aload_n 0, 1) := by decide +kernel
theorem dX0_push_5 : decode cX0_push 5 = .ok (.getfield 21, 3) := by decide +kernel
theorem dX0_push_8 : decode cX0_push 8 = .ok (.aaload, 1) := by decide +kernel
theorem dX0_push_9 : decode cX0_push 9 = .ok (.ifnonnull 19, 3) := by decide +kernel
theorem dX0_push_12 : decode cX0_push 12 = .ok (.aload_n 0, 1) := by decide +kernel
theorem dX0_push_13 : decode cX0_push 13 = .ok (.getfield 11, 3) := by decide +kernel
theorem dX0_push_16 : decode cX0_push 16 = .ok (.aload_n 0, 1) := by decide +kernel
theorem dX0_push_17 : decode cX0_push 17 = .ok (.getfield 21, 3) := by decide +kernel
theorem dX0_push_20 : decode cX0_push 20 = .ok (.new 9, 3) := by decide +kernel
theorem dX0_push_23 : decode cX0_push 23 = .ok (.dup, 1) := by decide +kernel
theorem dX0_push_24 : decode cX0_push 24 = .ok (.invokespecial 24, 3) := by decide +kernel
theorem dX0_push_27 : decode cX0_push 27 = .ok (.aastore, 1) := by decide +kernel
theorem dX0_push_28 : decode cX0_push 28 = .ok (.aload_n 0, 1) := by decide +kernel
theorem dX0_push_29 : decode cX0_push 29 = .ok (.getfield 11, 3) := by decide +kernel
theorem dX0_push_32 : decode cX0_push 32 = .ok (.aload_n 0, 1) := by decide +kernel
theorem dX0_push_33 : decode cX0_push 33 = .ok (.getfield 21, 3) := by decide +kernel
theorem dX0_push_36 : decode cX0_push 36 = .ok (.aaload, 1) := by decide +kernel
theorem dX0_push_37 : decode cX0_push 37 = .ok (.aload_n 1, 1) := by decide +kernel
theorem dX0_push_38 : decode cX0_push 38 = .ok (.invokevirtual 25, 3) := by decide +kernel
theorem dX0_push_41 : decode cX0_push 41 = .ok (.aload_n 0, 1) := by decide +kernel
theorem dX0_push_42 : decode cX0_push 42 = .ok (.aload_n 0, 1) := by decide +kernel
theorem dX0_push_43 : decode cX0_push 43 = .ok (.getfield 21, 3) := by decide +kernel
theorem dX0_push_46 : decode cX0_push 46 = .ok (.iconst 1, 1) := by decide +kernel
theorem dX0_push_47 : decode cX0_push 47 = .ok (.iadd, 1) := by decide +kernel
theorem dX0_push_48 : decode cX0_push 48 = .ok (.bipush 20, 2) := by decide +kernel
theorem dX0_push_50 : decode cX0_push 50 = .ok (.irem, 1) := by decide +kernel
theorem dX0_push_51 : decode cX0_push 51 = .ok (.putfield 21, 3) := by decide +kernel
theorem dX0_push_54 : decode cX0_push 54 = .ok (.aload_n 0, 1) := by decide +kernel
theorem dX0_push_55 : decode cX0_push 55 = .ok (.aload_n 0, 1) := by decide +kernel
theorem dX0_push_56 : decode cX0_push 56 = .ok (.getfield 17, 3) := by decide +kernel
theorem dX0_push_59 : decode cX0_push 59 = .ok (.iconst 1, 1) := by decide +kernel
theorem dX0_push_60 : decode cX0_push 60 = .ok (.iadd, 1) := by decide +kernel
theorem dX0_push_61 : decode cX0_push 61 = .ok (.bipush 20, 2) := by decide +kernel
theorem dX0_push_63 : decode cX0_push 63 = .ok (.invokestatic 29, 3) := by decide +kernel
theorem dX0_push_66 : decode cX0_push 66 = .ok (.putfield 17, 3) := by decide +kernel
theorem dX0_push_69 : decode cX0_push 69 = .ok (.return_, 1) := by decide +kernel
set_option maxRecDepth 20000 in
theorem ggX0_pop_X8_copy : GoodIn wsX0_pop wsX8_copy := goodIn_r _ [8, 9, 10, 11, 12, 13, 14, 15, 16, 17, 18, 22, 23, 24, 25, 26, 27] rfl (by decide +kernel)
set_option maxRecDepth 20000 in
theorem gX0_pop_X8_copy : GoodIn wsX0_pop (wsV RX0 25 RX8 yX8_copy wsX8_copy) := goodIn_app (goodIn_of _ (by decide +kernel)) ggX0_pop_X8_copy
theorem dX0_pop_0 : decode cX0_pop 0 = .ok (.aload_n 0, 1) := by decide +kernel
theorem dX0_pop_1 : decode cX0_pop 1 = .ok (.getfield 21, 3) := by decide +kernel
theorem dX0_pop_4 : decode cX0_pop 4 = .ok (.bipush 20, 2) := by decide +kernel
theorem dX0_pop_6 : decode cX0_pop 6 = .ok (.iadd, 1) := by decide +kernel
theorem dX0_pop_7 : decode cX0_pop 7 = .ok (.iconst 1, 1) := by decide +kernel
theorem dX0_pop_8 : decode cX0_pop 8 = .ok (.isub, 1) := by decide +kernel
theorem dX0_pop_9 : decode cX0_pop 9 = .ok (.bipush 20, 2) := by decide +kernel
theorem dX0_pop_11 : decode cX0_pop 11 = .ok (.irem, 1) := by decide +kernel
theorem dX0_pop_12 : decode cX0_pop 12 = .ok (.istore_n 2, 1) := by decide +kernel
theorem dX0_pop_13 : decode cX0_pop 13 = .ok (.aload_n 0, 1) := by decide +kernel
theorem dX0_pop_14 : decode cX0_pop 14 = .ok (.getfield 17, 3) := by decide +kernel
theorem dX0_pop_17 : decode cX0_pop 17 = .ok (.ifCond .le 37, 3) := by decide +kernel
theorem dX0_pop_20 : decode cX0_pop 20 = .ok (.aload_n 0, 1) := by decide +kernel
theorem dX0_pop_21 : decode cX0_pop 21 = .ok (.getfield 11, 3) := by decide +kernel
theorem dX0_pop_24 : decode cX0_pop 24 = .ok (.iload_n 2, 1) := by decide +kernel
theorem dX0_pop_25 : decode cX0_pop 25 = .ok (.aaload, 1) := by decide +kernel
theorem dX0_pop_26 : decode cX0_pop 26 = .ok (.ifnull 28, 3) := by decide +kernel
theorem dX0_pop_29 : decode cX0_pop 29 = .ok (.aload_n 1, 1) := by decide +kernel
theorem dX0_pop_30 : decode cX0_pop 30 = .ok (.aload_n 0, 1) := by decide +kernel
theorem dX0_pop_31 : decode cX0_pop 31 = .ok (.getfield 11, 3) := by decide +kernel
theorem dX0_pop_34 : decode cX0_pop 34 = .ok (.iload_n 2, 1) := by decide +kernel
theorem dX0_pop_35 : decode cX0_pop 35 = .ok (.aaload, 1) := by decide +kernel
theorem dX0_pop_36 : decode cX0_pop 36 = .ok (.invokevirtual 25, 3) := by decide +kernel
theorem dX0_pop_39 : decode cX0_pop 39 = .ok (.aload_n 0, 1) := by decide +kernel
theorem dX0_pop_40 : decode cX0_pop 40 = .ok (.iload_n 2, 1) := by decide +kernel
theorem dX0_pop_41 : decode cX0_pop 41 = .ok (.putfield 21, 3) := by decide +kernel
theorem dX0_pop_44 : decode cX0_pop 44 = .ok (.aload_n 0, 1) := by decide +kernel
theorem dX0_pop_45 : decode cX0_pop 45 = .ok (.dup, 1) := by decide +kernel
theorem dX0_pop_46 : decode cX0_pop 46 = .ok (.getfield 17, 3) := by decide +kernel
theorem dX0_pop_49 : decode cX0_pop 49 = .ok (.iconst 1, 1) := by decide +kernel
theorem dX0_pop_50 : decode cX0_pop 50 = .ok (.isub, 1) := by decide +kernel
theorem dX0_pop_51 : decode cX0_pop 51 = .ok (.putfield 17, 3) := by decide +kernel
theorem dX0_pop_54 : decode cX0_pop 54 = .ok (.return_, 1) := by decide +kernel
set_option maxRecDepth 20000 in
theorem ggX1_init_X8_init : GoodIn wsX1_init wsX8_init := goodIn_r _ [9, 10, 2, 3, 11, 12, 13, 14, 15, 16, 17, 18, 19, 20] rfl (by decide +kernel)
set_option maxRecDepth 20000 in
theorem gX1_init_X8_init_n9 : GoodIn wsX1_init (wsX8_init) := ggX1_init_X8_init
theorem dX1_init_0 : decode cX1_init 0 = .ok (.aload_n 0, 1) := by decide +kernel
theorem dX1_init_1 : decode cX1_init 1 = .ok (.invokespecial 1, 3) := by decide +kernel
theorem dX1_init_4 : decode cX1_init 4 = .ok (.aload_n 0, 1) := by decide +kernel
theorem dX1_init_5 : decode cX1_init 5 = .ok (.new 7, 3) := by decide +kernel
theorem dX1_init_8 : decode cX1_init 8 = .ok (.dup, 1) := by decide +kernel
theorem dX1_init_9 : decode cX1_init 9 = .ok (.invokespecial 9, 3) := by decide +kernel
theorem dX1_init_12 : decode cX1_init 12 = .ok (.putfield 10, 3) := by decide +kernel
theorem dX1_init_15 : decode cX1_init 15 = .ok (.return_, 1) := by decide +kernel
theorem dX2_init_0 : decode cX2_init 0 = .ok (.aload_n 0, 1) := by decide +kernel
theorem dX2_init_1 : decode cX2_init 1 = .ok (.invokespecial 3, 3) := by decide +kernel
theorem dX2_init_4 : decode cX2_init 4 = .ok (.aload_n 0, 1) := by decide +kernel
theorem dX2_init_5 : decode cX2_init 5 = .ok (.bipush 9, 2) := by decide +kernel
theorem dX2_init_7 : decode cX2_init 7 = .ok (.newarray .int, 2) := by decide +kernel
theorem dX2_init_9 : decode cX2_init 9 = .ok (.putfield 9, 3) := by decide +kernel
theorem dX2_init_12 : decode cX2_init 12 = .ok (.aload_n 0, 1) := by decide +kernel
theorem dX2_init_13 : decode cX2_init 13 = .ok (.bipush 9, 2) := by decide +kernel
theorem dX2_init_15 : decode cX2_init 15 = .ok (.newarray .int, 2) := by decide +kernel
theorem dX2_init_17 : decode cX2_init 17 = .ok (.putfield 15, 3) := by decide +kernel
theorem dX2_init_20 : decode cX2_init 20 = .ok (.aload_n 0, 1) := by decide +kernel
theorem dX2_init_21 : decode cX2_init 21 = .ok (.bipush 9, 2) := by decide +kernel
theorem dX2_init_23 : decode cX2_init 23 = .ok (.newarray .int, 2) := by decide +kernel
theorem dX2_init_25 : decode cX2_init 25 = .ok (.putfield 18, 3) := by decide +kernel
theorem dX2_init_28 : decode cX2_init 28 = .ok (.aload_n 0, 1) := by decide +kernel
theorem dX2_init_29 : decode cX2_init 29 = .ok (.bipush 9, 2) := by decide +kernel
theorem dX2_init_31 : decode cX2_init 31 = .ok (.newarray .int, 2) := by decide +kernel
theorem dX2_init_33 : decode cX2_init 33 = .ok (.putfield 21, 3) := by decide +kernel
theorem dX2_init_36 : decode cX2_init 36 = .ok (.aload_n 0, 1) := by decide +kernel
theorem dX2_init_37 : decode cX2_init 37 = .ok (.bipush 9, 2) := by decide +kernel
theorem dX2_init_39 : decode cX2_init 39 = .ok (.newarray .int, 2) := by decide +kernel
theorem dX2_init_41 : decode cX2_init 41 = .ok (.putfield 24, 3) := by decide +kernel
theorem dX2_init_44 : decode cX2_init 44 = .ok (.aload_n 0, 1) := by decide +kernel
theorem dX2_init_45 : decode cX2_init 45 = .ok (.bipush 6, 2) := by decide +kernel
theorem dX2_init_47 : decode cX2_init 47 = .ok (.newarray .int, 2) := by decide +kernel
theorem dX2_init_49 : decode cX2_init 49 = .ok (.putfield 27, 3) := by decide +kernel
theorem dX2_init_52 : decode cX2_init 52 = .ok (.aload_n 0, 1) := by decide +kernel
theorem dX2_init_53 : decode cX2_init 53 = .ok (.bipush 6, 2) := by decide +kernel
theorem dX2_init_55 : decode cX2_init 55 = .ok (.newarray .int, 2) := by decide +kernel
theorem dX2_init_57 : decode cX2_init 57 = .ok (.putfield 30, 3) := by decide +kernel
theorem dX2_init_60 : decode cX2_init 60 = .ok (.aload_n 0, 1) := by decide +kernel
theorem dX2_init_61 : decode cX2_init 61 = .ok (.bipush 6, 2) := by decide +kernel
theorem dX2_init_63 : decode cX2_init 63 = .ok (.newarray .int, 2) := by decide +kernel
theorem dX2_init_65 : decode cX2_init 65 = .ok (.putfield 33, 3) := by decide +kernel
theorem dX2_init_68 : decode cX2_init 68 = .ok (.return_, 1) := by decide +kernel
theorem dX2_clear_0 : decode cX2_clear 0 = .ok (.aload_n 0, 1) := by decide +kernel
theorem dX2_clear_1 : decode cX2_clear 1 = .ok (.iconst 0, 1) := by decide +kernel
theorem dX2_clear_2 : decode cX2_clear 2 = .ok (.putfield 36, 3) := by decide +kernel
theorem dX2_clear_5 : decode cX2_clear 5 = .ok (.aload_n 0, 1) := by decide +kernel
theorem dX2_clear_6 : decode cX2_clear 6 = .ok (.iconst 0, 1) := by decide +kernel
theorem dX2_clear_7 : decode cX2_clear 7 = .ok (.putfield 40, 3) := by decide +kernel
theorem dX2_clear_10 : decode cX2_clear 10 = .ok (.aload_n 0, 1) := by decide +kernel
theorem dX2_clear_11 : decode cX2_clear 11 = .ok (.iconst 0, 1) := by decide +kernel
theorem dX2_clear_12 : decode cX2_clear 12 = .ok (.putfield 43, 3) := by decide +kernel
theorem dX2_clear_15 : decode cX2_clear 15 = .ok (.aload_n 0, 1) := by decide +kernel
theorem dX2_clear_16 : decode cX2_clear 16 = .ok (.iconst 0, 1) := by decide +kernel
theorem dX2_clear_17 : decode cX2_clear 17 = .ok (.putfield 46, 3) := by decide +kernel
theorem dX2_clear_20 : decode cX2_clear 20 = .ok (.aload_n 0, 1) := by decide +kernel
theorem dX2_clear_21 : decode cX2_clear 21 = .ok (.iconst 0, 1) := by decide +kernel
theorem dX2_clear_22 : decode cX2_clear 22 = .ok (.putfield 49, 3) := by decide +kernel
theorem dX2_clear_25 : decode cX2_clear 25 = .ok (.return_, 1) := by decide +kernel
theorem dX2_hasTown_0 : decode cX2_hasTown 0 = .ok (.iload_n 1, 1) := by decide +kernel
theorem dX2_hasTown_1 : decode cX2_hasTown 1 = .ok (.ifCond .lt 15, 3) := by decide +kernel
theorem dX2_hasTown_4 : decode cX2_hasTown 4 = .ok (.iload_n 1, 1) := by decide +kernel
theorem dX2_hasTown_5 : decode cX2_hasTown 5 = .ok (.aload_n 0, 1) := by decide +kernel
theorem dX2_hasTown_6 : decode cX2_hasTown 6 = .ok (.getfield 36, 3) := by decide +kernel
theorem dX2_hasTown_9 : decode cX2_hasTown 9 = .ok (.if_icmp .ge 7, 3) := by decide +kernel
theorem dX2_hasTown_12 : decode cX2_hasTown 12 = .ok (.iconst 1, 1) := by decide +kernel
theorem dX2_hasTown_13 : decode cX2_hasTown 13 = .ok (.goto 4, 3) := by decide +kernel
theorem dX2_hasTown_16 : decode cX2_hasTown 16 = .ok (.iconst 0, 1) := by decide +kernel
theorem dX2_hasTown_17 : decode cX2_hasTown 17 = .ok (.ireturn, 1) := by decide +kernel
theorem dX2_hasRoad_0 : decode cX2_hasRoad 0 = .ok (.iload_n 1, 1) := by decide +kernel
theorem dX2_hasRoad_1 : decode cX2_hasRoad 1 = .ok (.ifCond .lt 15, 3) := by decide +kernel
theorem dX2_hasRoad_4 : decode cX2_hasRoad 4 = .ok (.iload_n 1, 1) := by decide +kernel
theorem dX2_hasRoad_5 : decode cX2_hasRoad 5 = .ok (.aload_n 0, 1) := by decide +kernel
theorem dX2_hasRoad_6 : decode cX2_hasRoad 6 = .ok (.getfield 46, 3) := by decide +kernel
theorem dX2_hasRoad_9 : decode cX2_hasRoad 9 = .ok (.if_icmp .ge 7, 3) := by decide +kernel
theorem dX2_hasRoad_12 : decode cX2_hasRoad 12 = .ok (.iconst 1, 1) := by decide +kernel
theorem dX2_hasRoad_13 : decode cX2_hasRoad 13 = .ok (.goto 4, 3) := by decide +kernel
theorem dX2_hasRoad_16 : decode cX2_hasRoad 16 = .ok (.iconst 0, 1) := by decide +kernel
theorem dX2_hasRoad_17 : decode cX2_hasRoad 17 = .ok (.ireturn, 1) := by decide +kernel
theorem dX2_hasCounty_0 : decode cX2_hasCounty 0 = .ok (.iload_n 1, 1) := by decide +kernel
theorem dX2_hasCounty_1 : decode cX2_hasCounty 1 = .ok (.ifCond .lt 15, 3) := by decide +kernel
theorem dX2_hasCounty_4 : decode cX2_hasCounty 4 = .ok (.iload_n 1, 1) := by decide +kernel
theorem dX2_hasCounty_5 : decode cX2_hasCounty 5 = .ok (.aload_n 0, 1) := by decide +kernel
theorem dX2_hasCounty_6 : decode cX2_hasCounty 6 = .ok (.getfield 40, 3) := by decide +kernel
theorem dX2_hasCounty_9 : decode cX2_hasCounty 9 = .ok (.if_icmp .ge 7, 3) := by decide +kernel
theorem dX2_hasCounty_12 : decode cX2_hasCounty 12 = .ok (.iconst 1, 1) := by decide +kernel
theorem dX2_hasCounty_13 : decode cX2_hasCounty 13 = .ok (.goto 4, 3) := by decide +kernel
theorem dX2_hasCounty_16 : decode cX2_hasCounty 16 = .ok (.iconst 0, 1) := by decide +kernel
theorem dX2_hasCounty_17 : decode cX2_hasCounty 17 = .ok (.ireturn, 1) := by decide +kernel
theorem dX2_allRoads_0 : decode cX2_allRoads 0 = .ok (.iconst 1, 1) := by decide +kernel
theorem dX2_allRoads_1 : decode cX2_allRoads 1 = .ok (.aload_n 0, 1) := by decide +kernel
theorem dX2_allRoads_2 : decode cX2_allRoads 2 = .ok (.getfield 46, 3) := by decide +kernel
theorem dX2_allRoads_5 : decode cX2_allRoads 5 = .ok (.ishl, 1) := by decide +kernel
theorem dX2_allRoads_6 : decode cX2_allRoads 6 = .ok (.iconst 1, 1) := by decide +kernel
theorem dX2_allRoads_7 : decode cX2_allRoads 7 = .ok (.isub, 1) := by decide +kernel
theorem dX2_allRoads_8 : decode cX2_allRoads 8 = .ok (.ireturn, 1) := by decide +kernel
set_option maxRecDepth 20000 in
theorem ggX2_roadBetween_X2_otherEnd : GoodIn wsX2_roadBetween wsX2_otherEnd := goodIn_r _ [6, 7, 8, 9, 10, 11, 12, 13, 14, 15, 16, 17, 18, 19, 20, 21] rfl (by decide +kernel)
set_option maxRecDepth 20000 in
theorem gX2_roadBetween_X2_otherEnd : GoodIn wsX2_roadBetween (wsV RX2 52 RX2 yX2_otherEnd wsX2_otherEnd) := goodIn_app (goodIn_of _ (by decide +kernel)) ggX2_roadBetween_X2_otherEnd
theorem dX2_roadBetween_0 : decode cX2_roadBetween 0 = .ok (.iconst 0, 1) := by decide +kernel
theorem dX2_roadBetween_1 : decode cX2_roadBetween 1 = .ok (.istore_n 3, 1) := by decide +kernel
theorem dX2_roadBetween_2 : decode cX2_roadBetween 2 = .ok (.iload_n 3, 1) := by decide +kernel
theorem dX2_roadBetween_3 : decode cX2_roadBetween 3 = .ok (.aload_n 0, 1) := by decide +kernel
theorem dX2_roadBetween_4 : decode cX2_roadBetween 4 = .ok (.getfield 46, 3) := by decide +kernel
theorem dX2_roadBetween_7 : decode cX2_roadBetween 7 = .ok (.if_icmp .ge 21, 3) := by decide +kernel
theorem dX2_roadBetween_10 : decode cX2_roadBetween 10 = .ok (.aload_n 0, 1) := by decide +kernel
theorem dX2_roadBetween_11 : decode cX2_roadBetween 11 = .ok (.iload_n 3, 1) := by decide +kernel
theorem dX2_roadBetween_12 : decode cX2_roadBetween 12 = .ok (.iload_n 1, 1) := by decide +kernel
theorem dX2_roadBetween_13 : decode cX2_roadBetween 13 = .ok (.invokevirtual 52, 3) := by decide +kernel
theorem dX2_roadBetween_16 : decode cX2_roadBetween 16 = .ok (.iload_n 2, 1) := by decide +kernel
theorem dX2_roadBetween_17 : decode cX2_roadBetween 17 = .ok (.if_icmp .ne 5, 3) := by decide +kernel
theorem dX2_roadBetween_20 : decode cX2_roadBetween 20 = .ok (.iload_n 3, 1) := by decide +kernel
theorem dX2_roadBetween_21 : decode cX2_roadBetween 21 = .ok (.ireturn, 1) := by decide +kernel
theorem dX2_roadBetween_22 : decode cX2_roadBetween 22 = .ok (.iinc 3 1, 3) := by decide +kernel
theorem dX2_roadBetween_25 : decode cX2_roadBetween 25 = .ok (.goto (-23), 3) := by decide +kernel
theorem dX2_roadBetween_28 : decode cX2_roadBetween 28 = .ok (.iconst (-1), 1) := by decide +kernel
theorem dX2_roadBetween_29 : decode cX2_roadBetween 29 = .ok (.ireturn, 1) := by decide +kernel
theorem dX2_otherEnd_0 : decode cX2_otherEnd 0 = .ok (.aload_n 0, 1) := by decide +kernel
theorem dX2_otherEnd_1 : decode cX2_otherEnd 1 = .ok (.getfield 9, 3) := by decide +kernel
theorem dX2_otherEnd_4 : decode cX2_otherEnd 4 = .ok (.iload_n 1, 1) := by decide +kernel
theorem dX2_otherEnd_5 : decode cX2_otherEnd 5 = .ok (.iaload, 1) := by decide +kernel
theorem dX2_otherEnd_6 : decode cX2_otherEnd 6 = .ok (.iload_n 2, 1) := by decide +kernel
theorem dX2_otherEnd_7 : decode cX2_otherEnd 7 = .ok (.if_icmp .ne 10, 3) := by decide +kernel
theorem dX2_otherEnd_10 : decode cX2_otherEnd 10 = .ok (.aload_n 0, 1) := by decide +kernel
theorem dX2_otherEnd_11 : decode cX2_otherEnd 11 = .ok (.getfield 15, 3) := by decide +kernel
theorem dX2_otherEnd_14 : decode cX2_otherEnd 14 = .ok (.iload_n 1, 1) := by decide +kernel
theorem dX2_otherEnd_15 : decode cX2_otherEnd 15 = .ok (.iaload, 1) := by decide +kernel
theorem dX2_otherEnd_16 : decode cX2_otherEnd 16 = .ok (.ireturn, 1) := by decide +kernel
theorem dX2_otherEnd_17 : decode cX2_otherEnd 17 = .ok (.aload_n 0, 1) := by decide +kernel
theorem dX2_otherEnd_18 : decode cX2_otherEnd 18 = .ok (.getfield 15, 3) := by decide +kernel
theorem dX2_otherEnd_21 : decode cX2_otherEnd 21 = .ok (.iload_n 1, 1) := by decide +kernel
theorem dX2_otherEnd_22 : decode cX2_otherEnd 22 = .ok (.iaload, 1) := by decide +kernel
theorem dX2_otherEnd_23 : decode cX2_otherEnd 23 = .ok (.iload_n 2, 1) := by decide +kernel
theorem dX2_otherEnd_24 : decode cX2_otherEnd 24 = .ok (.if_icmp .ne 12, 3) := by decide +kernel
theorem dX2_otherEnd_27 : decode cX2_otherEnd 27 = .ok (.aload_n 0, 1) := by decide +kernel
theorem dX2_otherEnd_28 : decode cX2_otherEnd 28 = .ok (.getfield 9, 3) := by decide +kernel
theorem dX2_otherEnd_31 : decode cX2_otherEnd 31 = .ok (.iload_n 1, 1) := by decide +kernel
theorem dX2_otherEnd_32 : decode cX2_otherEnd 32 = .ok (.iaload, 1) := by decide +kernel
theorem dX2_otherEnd_33 : decode cX2_otherEnd 33 = .ok (.goto 4, 3) := by decide +kernel
theorem dX2_otherEnd_36 : decode cX2_otherEnd 36 = .ok (.iconst (-1), 1) := by decide +kernel
theorem dX2_otherEnd_37 : decode cX2_otherEnd 37 = .ok (.ireturn, 1) := by decide +kernel
theorem dX2_sum_0 : decode cX2_sum 0 = .ok (.iconst 0, 1) := by decide +kernel
theorem dX2_sum_1 : decode cX2_sum 1 = .ok (.istore_n 3, 1) := by decide +kernel
theorem dX2_sum_2 : decode cX2_sum 2 = .ok (.iconst 0, 1) := by decide +kernel
theorem dX2_sum_3 : decode cX2_sum 3 = .ok (.istore 4, 2) := by decide +kernel
theorem dX2_sum_5 : decode cX2_sum 5 = .ok (.iload 4, 2) := by decide +kernel
theorem dX2_sum_7 : decode cX2_sum 7 = .ok (.aload_n 0, 1) := by decide +kernel
theorem dX2_sum_8 : decode cX2_sum 8 = .ok (.getfield 46, 3) := by decide +kernel
theorem dX2_sum_11 : decode cX2_sum 11 = .ok (.if_icmp .ge 25, 3) := by decide +kernel
theorem dX2_sum_14 : decode cX2_sum 14 = .ok (.iload_n 1, 1) := by decide +kernel
theorem dX2_sum_15 : decode cX2_sum 15 = .ok (.iload 4, 2) := by decide +kernel
theorem dX2_sum_17 : decode cX2_sum 17 = .ok (.ishr, 1) := by decide +kernel
theorem dX2_sum_18 : decode cX2_sum 18 = .ok (.iconst 1, 1) := by decide +kernel
theorem dX2_sum_19 : decode cX2_sum 19 = .ok (.iand, 1) := by decide +kernel
theorem dX2_sum_20 : decode cX2_sum 20 = .ok (.ifCond .eq 10, 3) := by decide +kernel
theorem dX2_sum_23 : decode cX2_sum 23 = .ok (.iload_n 3, 1) := by decide +kernel
theorem dX2_sum_24 : decode cX2_sum 24 = .ok (.aload_n 2, 1) := by decide +kernel
theorem dX2_sum_25 : decode cX2_sum 25 = .ok (.iload 4, 2) := by decide +kernel
theorem dX2_sum_27 : decode cX2_sum 27 = .ok (.iaload, 1) := by decide +kernel
theorem dX2_sum_28 : decode cX2_sum 28 = .ok (.iadd, 1) := by decide +kernel
theorem dX2_sum_29 : decode cX2_sum 29 = .ok (.istore_n 3, 1) := by decide +kernel
theorem dX2_sum_30 : decode cX2_sum 30 = .ok (.iinc 4 1, 3) := by decide +kernel
theorem dX2_sum_33 : decode cX2_sum 33 = .ok (.goto (-28), 3) := by decide +kernel
theorem dX2_sum_36 : decode cX2_sum 36 = .ok (.iload_n 3, 1) := by decide +kernel
theorem dX2_sum_37 : decode cX2_sum 37 = .ok (.ireturn, 1) := by decide +kernel
theorem dX2_missing_0 : decode cX2_missing 0 = .ok (.iload_n 2, 1) := by decide +kernel
theorem dX2_missing_1 : decode cX2_missing 1 = .ok (.aload_n 0, 1) := by decide +kernel
theorem dX2_missing_2 : decode cX2_missing 2 = .ok (.getfield 33, 3) := by decide +kernel
theorem dX2_missing_5 : decode cX2_missing 5 = .ok (.iload_n 1, 1) := by decide +kernel
theorem dX2_missing_6 : decode cX2_missing 6 = .ok (.iaload, 1) := by decide +kernel
theorem dX2_missing_7 : decode cX2_missing 7 = .ok (.isub, 1) := by decide +kernel
theorem dX2_missing_8 : decode cX2_missing 8 = .ok (.istore_n 3, 1) := by decide +kernel
theorem dX2_missing_9 : decode cX2_missing 9 = .ok (.aload_n 0, 1) := by decide +kernel
theorem dX2_missing_10 : decode cX2_missing 10 = .ok (.getfield 27, 3) := by decide +kernel
theorem dX2_missing_13 : decode cX2_missing 13 = .ok (.iload_n 1, 1) := by decide +kernel
theorem dX2_missing_14 : decode cX2_missing 14 = .ok (.iaload, 1) := by decide +kernel
theorem dX2_missing_15 : decode cX2_missing 15 = .ok (.ifCond .ne 8, 3) := by decide +kernel
theorem dX2_missing_18 : decode cX2_missing 18 = .ok (.iload_n 3, 1) := by decide +kernel
theorem dX2_missing_19 : decode cX2_missing 19 = .ok (.invokestatic 56, 3) := by decide +kernel
theorem dX2_missing_22 : decode cX2_missing 22 = .ok (.ireturn, 1) := by decide +kernel
theorem dX2_missing_23 : decode cX2_missing 23 = .ok (.iconst 0, 1) := by decide +kernel
theorem dX2_missing_24 : decode cX2_missing 24 = .ok (.aload_n 0, 1) := by decide +kernel
theorem dX2_missing_25 : decode cX2_missing 25 = .ok (.getfield 27, 3) := by decide +kernel
theorem dX2_missing_28 : decode cX2_missing 28 = .ok (.iload_n 1, 1) := by decide +kernel
theorem dX2_missing_29 : decode cX2_missing 29 = .ok (.iaload, 1) := by decide +kernel
theorem dX2_missing_30 : decode cX2_missing 30 = .ok (.iconst 1, 1) := by decide +kernel
theorem dX2_missing_31 : decode cX2_missing 31 = .ok (.if_icmp .ne 7, 3) := by decide +kernel
theorem dX2_missing_34 : decode cX2_missing 34 = .ok (.iload_n 3, 1) := by decide +kernel
theorem dX2_missing_35 : decode cX2_missing 35 = .ok (.goto 5, 3) := by decide +kernel
theorem dX2_missing_38 : decode cX2_missing 38 = .ok (.iload_n 3, 1) := by decide +kernel
theorem dX2_missing_39 : decode cX2_missing 39 = .ok (.ineg, 1) := by decide +kernel
theorem dX2_missing_40 : decode cX2_missing 40 = .ok (.invokestatic 62, 3) := by decide +kernel
theorem dX2_missing_43 : decode cX2_missing 43 = .ok (.ireturn, 1) := by decide +kernel
set_option maxRecDepth 20000 in
theorem ggX2_holds_X2_sum : GoodIn wsX2_holds wsX2_sum := goodIn_r _ [6, 7, 21, 22, 23, 24, 25, 26, 27, 28, 29, 30, 31, 32, 33] rfl (by decide +kernel)
set_option maxRecDepth 20000 in
theorem gX2_holds_X2_sum : GoodIn wsX2_holds (wsV RX2 65 RX2 yX2_sum wsX2_sum) := goodIn_app (goodIn_of _ (by decide +kernel)) ggX2_holds_X2_sum
set_option maxRecDepth 20000 in
theorem ggX2_holds_X2_missing : GoodIn wsX2_holds wsX2_missing := goodIn_r _ [11, 12, 13, 14, 15, 16, 17, 18, 19, 20, 21, 22, 23, 24, 25, 26, 27, 28, 29, 30, 31, 32, 33] rfl (by decide +kernel)
set_option maxRecDepth 20000 in
theorem gX2_holds_X2_missing : GoodIn wsX2_holds (wsV RX2 69 RX2 yX2_missing wsX2_missing) := goodIn_app (goodIn_of _ (by decide +kernel)) ggX2_holds_X2_missing
theorem dX2_holds_0 : decode cX2_holds 0 = .ok (.aload_n 0, 1) := by decide +kernel
theorem dX2_holds_1 : decode cX2_holds 1 = .ok (.iload_n 1, 1) := by decide +kernel
theorem dX2_holds_2 : decode cX2_holds 2 = .ok (.aload_n 0, 1) := by decide +kernel
theorem dX2_holds_3 : decode cX2_holds 3 = .ok (.aload_n 0, 1) := by decide +kernel
theorem dX2_holds_4 : decode cX2_holds 4 = .ok (.getfield 30, 3) := by decide +kernel
theorem dX2_holds_7 : decode cX2_holds 7 = .ok (.iload_n 1, 1) := by decide +kernel
theorem dX2_holds_8 : decode cX2_holds 8 = .ok (.iaload, 1) := by decide +kernel
theorem dX2_holds_9 : decode cX2_holds 9 = .ok (.aload_n 2, 1) := by decide +kernel
theorem dX2_holds_10 : decode cX2_holds 10 = .ok (.invokevirtual 65, 3) := by decide +kernel
theorem dX2_holds_13 : decode cX2_holds 13 = .ok (.invokevirtual 69, 3) := by decide +kernel
theorem dX2_holds_16 : decode cX2_holds 16 = .ok (.ifCond .ne 7, 3) := by decide +kernel
theorem dX2_holds_19 : decode cX2_holds 19 = .ok (.iconst 1, 1) := by decide +kernel
theorem dX2_holds_20 : decode cX2_holds 20 = .ok (.goto 4, 3) := by decide +kernel
theorem dX2_holds_23 : decode cX2_holds 23 = .ok (.iconst 0, 1) := by decide +kernel
theorem dX2_holds_24 : decode cX2_holds 24 = .ok (.ireturn, 1) := by decide +kernel
set_option maxRecDepth 20000 in
theorem ggX2_holding_X2_holds : GoodIn wsX2_holding wsX2_holds := goodIn_r _ [6, 7, 8, 9, 10, 5, 11, 12, 13, 14, 15, 16, 17, 18, 19, 20, 21, 22, 23, 24, 25, 26, 27, 28, 29, 30, 31, 32, 33, 34, 35, 36, 37, 38] rfl (by decide +kernel)
set_option maxRecDepth 20000 in
theorem gX2_holding_X2_holds : GoodIn wsX2_holding (wsV RX2 72 RX2 yX2_holds wsX2_holds) := goodIn_app (goodIn_of _ (by decide +kernel)) ggX2_holding_X2_holds
theorem dX2_holding_0 : decode cX2_holding 0 = .ok (.iconst 0, 1) := by decide +kernel
theorem dX2_holding_1 : decode cX2_holding 1 = .ok (.istore_n 2, 1) := by decide +kernel
theorem dX2_holding_2 : decode cX2_holding 2 = .ok (.iconst 0, 1) := by decide +kernel
theorem dX2_holding_3 : decode cX2_holding 3 = .ok (.istore_n 3, 1) := by decide +kernel
theorem dX2_holding_4 : decode cX2_holding 4 = .ok (.iload_n 3, 1) := by decide +kernel
theorem dX2_holding_5 : decode cX2_holding 5 = .ok (.aload_n 0, 1) := by decide +kernel
theorem dX2_holding_6 : decode cX2_holding 6 = .ok (.getfield 49, 3) := by decide +kernel
theorem dX2_holding_9 : decode cX2_holding 9 = .ok (.if_icmp .ge 24, 3) := by decide +kernel
theorem dX2_holding_12 : decode cX2_holding 12 = .ok (.aload_n 0, 1) := by decide +kernel
theorem dX2_holding_13 : decode cX2_holding 13 = .ok (.iload_n 3, 1) := by decide +kernel
theorem dX2_holding_14 : decode cX2_holding 14 = .ok (.aload_n 1, 1) := by decide +kernel
theorem dX2_holding_15 : decode cX2_holding 15 = .ok (.invokevirtual 72, 3) := by decide +kernel
theorem dX2_holding_18 : decode cX2_holding 18 = .ok (.ifCond .eq 9, 3) := by decide +kernel
theorem dX2_holding_21 : decode cX2_holding 21 = .ok (.iload_n 2, 1) := by decide +kernel
theorem dX2_holding_22 : decode cX2_holding 22 = .ok (.iconst 1, 1) := by decide +kernel
theorem dX2_holding_23 : decode cX2_holding 23 = .ok (.iload_n 3, 1) := by decide +kernel
theorem dX2_holding_24 : decode cX2_holding 24 = .ok (.ishl, 1) := by decide +kernel
theorem dX2_holding_25 : decode cX2_holding 25 = .ok (.ior, 1) := by decide +kernel
theorem dX2_holding_26 : decode cX2_holding 26 = .ok (.istore_n 2, 1) := by decide +kernel
theorem dX2_holding_27 : decode cX2_holding 27 = .ok (.iinc 3 1, 3) := by decide +kernel
theorem dX2_holding_30 : decode cX2_holding 30 = .ok (.goto (-26), 3) := by decide +kernel
theorem dX2_holding_33 : decode cX2_holding 33 = .ok (.iload_n 2, 1) := by decide +kernel
theorem dX2_holding_34 : decode cX2_holding 34 = .ok (.ireturn, 1) := by decide +kernel
set_option maxRecDepth 20000 in
theorem ggX2_canBothHold_X2_lowest : GoodIn wsX2_canBothHold wsX2_lowest := goodIn_r _ [12, 13, 14, 15, 1, 2, 3, 4, 16, 17, 18, 19, 20, 21, 22, 28, 29, 30, 31, 32, 33, 34, 35, 36, 37, 38, 39, 40] rfl (by decide +kernel)
set_option maxRecDepth 20000 in
theorem gX2_canBothHold_X2_lowest : GoodIn wsX2_canBothHold (wsV RX2 76 RX2 yX2_lowest wsX2_lowest) := goodIn_app (goodIn_of _ (by decide +kernel)) ggX2_canBothHold_X2_lowest
set_option maxRecDepth 20000 in
theorem ggX2_canBothHold_X2_highest : GoodIn wsX2_canBothHold wsX2_highest := goodIn_r _ [26, 14, 27, 15, 28, 29, 30, 31, 32, 33, 34, 35, 36, 37, 38, 39, 40] rfl (by decide +kernel)
set_option maxRecDepth 20000 in
theorem gX2_canBothHold_X2_highest : GoodIn wsX2_canBothHold (wsV RX2 79 RX2 yX2_highest wsX2_highest) := goodIn_app (goodIn_of _ (by decide +kernel)) ggX2_canBothHold_X2_highest
theorem dX2_canBothHold_0 : decode cX2_canBothHold 0 = .ok (.aload_n 0, 1) := by decide +kernel
theorem dX2_canBothHold_1 : decode cX2_canBothHold 1 = .ok (.iload_n 1, 1) := by decide +kernel
theorem dX2_canBothHold_2 : decode cX2_canBothHold 2 = .ok (.invokevirtual 76, 3) := by decide +kernel
theorem dX2_canBothHold_5 : decode cX2_canBothHold 5 = .ok (.aload_n 0, 1) := by decide +kernel
theorem dX2_canBothHold_6 : decode cX2_canBothHold 6 = .ok (.iload_n 2, 1) := by decide +kernel
theorem dX2_canBothHold_7 : decode cX2_canBothHold 7 = .ok (.invokevirtual 76, 3) := by decide +kernel
theorem dX2_canBothHold_10 : decode cX2_canBothHold 10 = .ok (.invokestatic 62, 3) := by decide +kernel
theorem dX2_canBothHold_13 : decode cX2_canBothHold 13 = .ok (.aload_n 0, 1) := by decide +kernel
theorem dX2_canBothHold_14 : decode cX2_canBothHold 14 = .ok (.iload_n 1, 1) := by decide +kernel
theorem dX2_canBothHold_15 : decode cX2_canBothHold 15 = .ok (.invokevirtual 79, 3) := by decide +kernel
theorem dX2_canBothHold_18 : decode cX2_canBothHold 18 = .ok (.aload_n 0, 1) := by decide +kernel
theorem dX2_canBothHold_19 : decode cX2_canBothHold 19 = .ok (.iload_n 2, 1) := by decide +kernel
theorem dX2_canBothHold_20 : decode cX2_canBothHold 20 = .ok (.invokevirtual 79, 3) := by decide +kernel
theorem dX2_canBothHold_23 : decode cX2_canBothHold 23 = .ok (.invokestatic 82, 3) := by decide +kernel
theorem dX2_canBothHold_26 : decode cX2_canBothHold 26 = .ok (.if_icmp .gt 7, 3) := by decide +kernel
theorem dX2_canBothHold_29 : decode cX2_canBothHold 29 = .ok (.iconst 1, 1) := by decide +kernel
theorem dX2_canBothHold_30 : decode cX2_canBothHold 30 = .ok (.goto 4, 3) := by decide +kernel
theorem dX2_canBothHold_33 : decode cX2_canBothHold 33 = .ok (.iconst 0, 1) := by decide +kernel
theorem dX2_canBothHold_34 : decode cX2_canBothHold 34 = .ok (.ireturn, 1) := by decide +kernel
set_option maxRecDepth 20000 in
theorem ggX2_lowest_J6_bitCount_0f7a4 : GoodIn wsX2_lowest wsJ6_bitCount_0f7a4 := goodIn_r _ [11, 12, 13, 14] rfl (by decide +kernel)
set_option maxRecDepth 20000 in
theorem gX2_lowest_J6_bitCount_0f7a4 : GoodIn wsX2_lowest (va_wsS RX2 85 yJ6_bitCount_0f7a4 wsJ6_bitCount_0f7a4) := goodIn_app (goodIn_of _ (by decide +kernel)) ggX2_lowest_J6_bitCount_0f7a4
theorem dX2_lowest_0 : decode cX2_lowest 0 = .ok (.aload_n 0, 1) := by decide +kernel
theorem dX2_lowest_1 : decode cX2_lowest 1 = .ok (.getfield 30, 3) := by decide +kernel
theorem dX2_lowest_4 : decode cX2_lowest 4 = .ok (.iload_n 1, 1) := by decide +kernel
theorem dX2_lowest_5 : decode cX2_lowest 5 = .ok (.iaload, 1) := by decide +kernel
theorem dX2_lowest_6 : decode cX2_lowest 6 = .ok (.invokestatic 85, 3) := by decide +kernel
theorem dX2_lowest_9 : decode cX2_lowest 9 = .ok (.istore_n 2, 1) := by decide +kernel
theorem dX2_lowest_10 : decode cX2_lowest 10 = .ok (.aload_n 0, 1) := by decide +kernel
theorem dX2_lowest_11 : decode cX2_lowest 11 = .ok (.getfield 27, 3) := by decide +kernel
theorem dX2_lowest_14 : decode cX2_lowest 14 = .ok (.iload_n 1, 1) := by decide +kernel
theorem dX2_lowest_15 : decode cX2_lowest 15 = .ok (.iaload, 1) := by decide +kernel
theorem dX2_lowest_16 : decode cX2_lowest 16 = .ok (.iconst 1, 1) := by decide +kernel
theorem dX2_lowest_17 : decode cX2_lowest 17 = .ok (.if_icmp .ne 7, 3) := by decide +kernel
theorem dX2_lowest_20 : decode cX2_lowest 20 = .ok (.iload_n 2, 1) := by decide +kernel
theorem dX2_lowest_21 : decode cX2_lowest 21 = .ok (.goto 13, 3) := by decide +kernel
theorem dX2_lowest_24 : decode cX2_lowest 24 = .ok (.iload_n 2, 1) := by decide +kernel
theorem dX2_lowest_25 : decode cX2_lowest 25 = .ok (.aload_n 0, 1) := by decide +kernel
theorem dX2_lowest_26 : decode cX2_lowest 26 = .ok (.getfield 33, 3) := by decide +kernel
theorem dX2_lowest_29 : decode cX2_lowest 29 = .ok (.iload_n 1, 1) := by decide +kernel
theorem dX2_lowest_30 : decode cX2_lowest 30 = .ok (.iaload, 1) := by decide +kernel
theorem dX2_lowest_31 : decode cX2_lowest 31 = .ok (.invokestatic 62, 3) := by decide +kernel
theorem dX2_lowest_34 : decode cX2_lowest 34 = .ok (.ireturn, 1) := by decide +kernel
theorem dX2_highest_0 : decode cX2_highest 0 = .ok (.aload_n 0, 1) := by decide +kernel
theorem dX2_highest_1 : decode cX2_highest 1 = .ok (.getfield 27, 3) := by decide +kernel
theorem dX2_highest_4 : decode cX2_highest 4 = .ok (.iload_n 1, 1) := by decide +kernel
theorem dX2_highest_5 : decode cX2_highest 5 = .ok (.iaload, 1) := by decide +kernel
theorem dX2_highest_6 : decode cX2_highest 6 = .ok (.iconst 2, 1) := by decide +kernel
theorem dX2_highest_7 : decode cX2_highest 7 = .ok (.if_icmp .ne 8, 3) := by decide +kernel
theorem dX2_highest_10 : decode cX2_highest 10 = .ok (.ldc 90, 2) := by decide +kernel
theorem dX2_highest_12 : decode cX2_highest 12 = .ok (.goto 9, 3) := by decide +kernel
theorem dX2_highest_15 : decode cX2_highest 15 = .ok (.aload_n 0, 1) := by decide +kernel
theorem dX2_highest_16 : decode cX2_highest 16 = .ok (.getfield 33, 3) := by decide +kernel
theorem dX2_highest_19 : decode cX2_highest 19 = .ok (.iload_n 1, 1) := by decide +kernel
theorem dX2_highest_20 : decode cX2_highest 20 = .ok (.iaload, 1) := by decide +kernel
theorem dX2_highest_21 : decode cX2_highest 21 = .ok (.ireturn, 1) := by decide +kernel
theorem dX3_init_0 : decode cX3_init 0 = .ok (.aload_n 0, 1) := by decide +kernel
theorem dX3_init_1 : decode cX3_init 1 = .ok (.invokespecial 3, 3) := by decide +kernel
theorem dX3_init_4 : decode cX3_init 4 = .ok (.aload_n 0, 1) := by decide +kernel
theorem dX3_init_5 : decode cX3_init 5 = .ok (.bipush 9, 2) := by decide +kernel
theorem dX3_init_7 : decode cX3_init 7 = .ok (.newarray .int, 2) := by decide +kernel
theorem dX3_init_9 : decode cX3_init 9 = .ok (.putfield 9, 3) := by decide +kernel
theorem dX3_init_12 : decode cX3_init 12 = .ok (.aload_n 0, 1) := by decide +kernel
theorem dX3_init_13 : decode cX3_init 13 = .ok (.bipush 6, 2) := by decide +kernel
theorem dX3_init_15 : decode cX3_init 15 = .ok (.newarray .int, 2) := by decide +kernel
theorem dX3_init_17 : decode cX3_init 17 = .ok (.putfield 15, 3) := by decide +kernel
theorem dX3_init_20 : decode cX3_init 20 = .ok (.return_, 1) := by decide +kernel
set_option maxRecDepth 20000 in
theorem ggX3_fewest_X2_sum : GoodIn wsX3_fewest wsX2_sum := goodIn_r _ [8, 9, 42, 43, 44, 45, 46, 47, 48, 49, 50, 51, 52, 53, 54] rfl (by decide +kernel)
set_option maxRecDepth 20000 in
theorem gX3_fewest_X2_sum : GoodIn wsX3_fewest (wsV RX3 27 RX2 yX2_sum wsX2_sum) := goodIn_app (goodIn_of _ (by decide +kernel)) ggX3_fewest_X2_sum
set_option maxRecDepth 20000 in
theorem ggX3_fewest_X3_spread : GoodIn wsX3_fewest wsX3_spread := goodIn_r _ [14, 15, 16, 17, 18, 19, 20, 21, 22, 23, 13, 24, 1, 3, 2, 25, 26, 27, 7, 28, 29, 30, 31, 32, 33, 34, 35, 36, 37, 38, 39, 40, 41, 10, 11, 12, 42, 43, 44, 45, 46, 47, 48, 49, 50, 51, 52, 53, 54, 55, 56] rfl (by decide +kernel)
set_option maxRecDepth 20000 in
theorem gX3_fewest_X3_spread : GoodIn wsX3_fewest (wsV RX3 31 RX3 yX3_spread wsX3_spread) := goodIn_app (goodIn_of _ (by decide +kernel)) ggX3_fewest_X3_spread
theorem dX3_fewest_0 : decode cX3_fewest 0 = .ok (.iconst 0, 1) := by decide +kernel
theorem dX3_fewest_1 : decode cX3_fewest 1 = .ok (.istore_n 3, 1) := by decide +kernel
theorem dX3_fewest_2 : decode cX3_fewest 2 = .ok (.iload_n 3, 1) := by decide +kernel
theorem dX3_fewest_3 : decode cX3_fewest 3 = .ok (.iconst 4, 1) := by decide +kernel
theorem dX3_fewest_4 : decode cX3_fewest 4 = .ok (.if_icmp .gt 59, 3) := by decide +kernel
theorem dX3_fewest_7 : decode cX3_fewest 7 = .ok (.iconst 0, 1) := by decide +kernel
theorem dX3_fewest_8 : decode cX3_fewest 8 = .ok (.istore 4, 2) := by decide +kernel
theorem dX3_fewest_10 : decode cX3_fewest 10 = .ok (.iload 4, 2) := by decide +kernel
theorem dX3_fewest_12 : decode cX3_fewest 12 = .ok (.aload_n 1, 1) := by decide +kernel
theorem dX3_fewest_13 : decode cX3_fewest 13 = .ok (.getfield 18, 3) := by decide +kernel
theorem dX3_fewest_16 : decode cX3_fewest 16 = .ok (.if_icmp .ge 28, 3) := by decide +kernel
theorem dX3_fewest_19 : decode cX3_fewest 19 = .ok (.aload_n 0, 1) := by decide +kernel
theorem dX3_fewest_20 : decode cX3_fewest 20 = .ok (.getfield 15, 3) := by decide +kernel
theorem dX3_fewest_23 : decode cX3_fewest 23 = .ok (.iload 4, 2) := by decide +kernel
theorem dX3_fewest_25 : decode cX3_fewest 25 = .ok (.aload_n 1, 1) := by decide +kernel
theorem dX3_fewest_26 : decode cX3_fewest 26 = .ok (.aload_n 1, 1) := by decide +kernel
theorem dX3_fewest_27 : decode cX3_fewest 27 = .ok (.getfield 24, 3) := by decide +kernel
theorem dX3_fewest_30 : decode cX3_fewest 30 = .ok (.iload 4, 2) := by decide +kernel
theorem dX3_fewest_32 : decode cX3_fewest 32 = .ok (.iaload, 1) := by decide +kernel
theorem dX3_fewest_33 : decode cX3_fewest 33 = .ok (.aload_n 2, 1) := by decide +kernel
theorem dX3_fewest_34 : decode cX3_fewest 34 = .ok (.invokevirtual 27, 3) := by decide +kernel
theorem dX3_fewest_37 : decode cX3_fewest 37 = .ok (.iastore, 1) := by decide +kernel
theorem dX3_fewest_38 : decode cX3_fewest 38 = .ok (.iinc 4 1, 3) := by decide +kernel
theorem dX3_fewest_41 : decode cX3_fewest 41 = .ok (.goto (-31), 3) := by decide +kernel
theorem dX3_fewest_44 : decode cX3_fewest 44 = .ok (.aload_n 0, 1) := by decide +kernel
theorem dX3_fewest_45 : decode cX3_fewest 45 = .ok (.aload_n 1, 1) := by decide +kernel
theorem dX3_fewest_46 : decode cX3_fewest 46 = .ok (.aload_n 2, 1) := by decide +kernel
theorem dX3_fewest_47 : decode cX3_fewest 47 = .ok (.iconst 0, 1) := by decide +kernel
theorem dX3_fewest_48 : decode cX3_fewest 48 = .ok (.iload_n 3, 1) := by decide +kernel
theorem dX3_fewest_49 : decode cX3_fewest 49 = .ok (.invokevirtual 31, 3) := by decide +kernel
theorem dX3_fewest_52 : decode cX3_fewest 52 = .ok (.ifCond .eq 5, 3) := by decide +kernel
theorem dX3_fewest_55 : decode cX3_fewest 55 = .ok (.iload_n 3, 1) := by decide +kernel
theorem dX3_fewest_56 : decode cX3_fewest 56 = .ok (.ireturn, 1) := by decide +kernel
theorem dX3_fewest_57 : decode cX3_fewest 57 = .ok (.iinc 3 1, 3) := by decide +kernel
theorem dX3_fewest_60 : decode cX3_fewest 60 = .ok (.goto (-58), 3) := by decide +kernel
theorem dX3_fewest_63 : decode cX3_fewest 63 = .ok (.iconst (-1), 1) := by decide +kernel
theorem dX3_fewest_64 : decode cX3_fewest 64 = .ok (.ireturn, 1) := by decide +kernel
set_option maxRecDepth 20000 in
theorem ggX3_spread_X3_canHold : GoodIn wsX3_spread wsX3_canHold := goodIn_r _ [11, 12, 13, 14, 15, 16, 17, 18, 19, 20, 21, 22, 4, 5, 6, 23, 24, 25, 36, 37, 38, 39, 40, 41, 42, 43, 44, 45, 46, 47, 48, 49, 50] rfl (by decide +kernel)
set_option maxRecDepth 20000 in
theorem gX3_spread_X3_canHold : GoodIn wsX3_spread (wsV RX3 35 RX3 yX3_canHold wsX3_canHold) := goodIn_app (goodIn_of _ (by decide +kernel)) ggX3_spread_X3_canHold
set_option maxRecDepth 20000 in
theorem ggX3_spread_X10_isMiles : GoodIn wsX3_spread wsX10_isMiles := goodIn_r _ [28] rfl (by decide +kernel)
set_option maxRecDepth 20000 in
theorem gX3_spread_X10_isMiles_n42 : GoodIn wsX3_spread (wsX10_isMiles) := ggX3_spread_X10_isMiles
set_option maxRecDepth 20000 in
theorem ggX3_spread_X3_alter : GoodIn wsX3_spread wsX3_alter := goodIn_r _ [32, 12, 13, 14, 36, 37, 38, 39, 40, 41, 42, 43, 44, 45, 46, 47, 48, 49, 50] rfl (by decide +kernel)
set_option maxRecDepth 20000 in
theorem gX3_spread_X3_alter : GoodIn wsX3_spread (wsV RX3 46 RX3 yX3_alter wsX3_alter) := goodIn_app (goodIn_of _ (by decide +kernel)) ggX3_spread_X3_alter
set_option maxRecDepth 20000 in
theorem ggX3_spread_X3_spread : GoodIn wsX3_spread wsX3_spread := goodIn_r _ [0, 1, 2, 3, 4, 5, 6, 7, 8, 9, 10, 11, 12, 13, 14, 15, 16, 17, 18, 19, 20, 21, 22, 23, 24, 25, 26, 27, 28, 29, 30, 31, 32, 33, 34, 35, 36, 37, 38, 39, 40, 41, 42, 43, 44, 45, 46, 47, 48, 49, 50] rfl (by decide +kernel)
set_option maxRecDepth 20000 in
theorem gX3_spread_X3_spread : GoodIn wsX3_spread (wsV RX3 31 RX3 yX3_spread wsX3_spread) := goodIn_app (goodIn_of _ (by decide +kernel)) ggX3_spread_X3_spread
theorem dX3_spread_0 : decode cX3_spread 0 = .ok (.aload_n 0, 1) := by decide +kernel
theorem dX3_spread_1 : decode cX3_spread 1 = .ok (.aload_n 1, 1) := by decide +kernel
theorem dX3_spread_2 : decode cX3_spread 2 = .ok (.iload_n 3, 1) := by decide +kernel
theorem dX3_spread_3 : decode cX3_spread 3 = .ok (.iload 4, 2) := by decide +kernel
theorem dX3_spread_5 : decode cX3_spread 5 = .ok (.invokevirtual 35, 3) := by decide +kernel
theorem dX3_spread_8 : decode cX3_spread 8 = .ok (.ifCond .ne 5, 3) := by decide +kernel
theorem dX3_spread_11 : decode cX3_spread 11 = .ok (.iconst 0, 1) := by decide +kernel
theorem dX3_spread_12 : decode cX3_spread 12 = .ok (.ireturn, 1) := by decide +kernel
theorem dX3_spread_13 : decode cX3_spread 13 = .ok (.iload_n 3, 1) := by decide +kernel
theorem dX3_spread_14 : decode cX3_spread 14 = .ok (.aload_n 1, 1) := by decide +kernel
theorem dX3_spread_15 : decode cX3_spread 15 = .ok (.getfield 39, 3) := by decide +kernel
theorem dX3_spread_18 : decode cX3_spread 18 = .ok (.if_icmp .lt 14, 3) := by decide +kernel
theorem dX3_spread_21 : decode cX3_spread 21 = .ok (.iload 4, 2) := by decide +kernel
theorem dX3_spread_23 : decode cX3_spread 23 = .ok (.ifCond .ne 7, 3) := by decide +kernel
theorem dX3_spread_26 : decode cX3_spread 26 = .ok (.iconst 1, 1) := by decide +kernel
theorem dX3_spread_27 : decode cX3_spread 27 = .ok (.goto 4, 3) := by decide +kernel
theorem dX3_spread_30 : decode cX3_spread 30 = .ok (.iconst 0, 1) := by decide +kernel
theorem dX3_spread_31 : decode cX3_spread 31 = .ok (.ireturn, 1) := by decide +kernel
theorem dX3_spread_32 : decode cX3_spread 32 = .ok (.iload 4, 2) := by decide +kernel
theorem dX3_spread_34 : decode cX3_spread 34 = .ok (.ineg, 1) := by decide +kernel
theorem dX3_spread_35 : decode cX3_spread 35 = .ok (.istore 5, 2) := by decide +kernel
theorem dX3_spread_37 : decode cX3_spread 37 = .ok (.iload 5, 2) := by decide +kernel
theorem dX3_spread_39 : decode cX3_spread 39 = .ok (.iload 4, 2) := by decide +kernel
theorem dX3_spread_41 : decode cX3_spread 41 = .ok (.if_icmp .gt 71, 3) := by decide +kernel
theorem dX3_spread_44 : decode cX3_spread 44 = .ok (.aload_n 2, 1) := by decide +kernel
theorem dX3_spread_45 : decode cX3_spread 45 = .ok (.iload_n 3, 1) := by decide +kernel
theorem dX3_spread_46 : decode cX3_spread 46 = .ok (.iaload, 1) := by decide +kernel
theorem dX3_spread_47 : decode cX3_spread 47 = .ok (.iload 5, 2) := by decide +kernel
theorem dX3_spread_49 : decode cX3_spread 49 = .ok (.iadd, 1) := by decide +kernel
theorem dX3_spread_50 : decode cX3_spread 50 = .ok (.invokestatic 42, 3) := by decide +kernel
theorem dX3_spread_53 : decode cX3_spread 53 = .ok (.ifCond .ne 6, 3) := by decide +kernel
theorem dX3_spread_56 : decode cX3_spread 56 = .ok (.goto 50, 3) := by decide +kernel
theorem dX3_spread_59 : decode cX3_spread 59 = .ok (.aload_n 0, 1) := by decide +kernel
theorem dX3_spread_60 : decode cX3_spread 60 = .ok (.getfield 9, 3) := by decide +kernel
theorem dX3_spread_63 : decode cX3_spread 63 = .ok (.iload_n 3, 1) := by decide +kernel
theorem dX3_spread_64 : decode cX3_spread 64 = .ok (.iload 5, 2) := by decide +kernel
theorem dX3_spread_66 : decode cX3_spread 66 = .ok (.iastore, 1) := by decide +kernel
theorem dX3_spread_67 : decode cX3_spread 67 = .ok (.aload_n 0, 1) := by decide +kernel
theorem dX3_spread_68 : decode cX3_spread 68 = .ok (.aload_n 1, 1) := by decide +kernel
theorem dX3_spread_69 : decode cX3_spread 69 = .ok (.iload_n 3, 1) := by decide +kernel
theorem dX3_spread_70 : decode cX3_spread 70 = .ok (.iload 5, 2) := by decide +kernel
theorem dX3_spread_72 : decode cX3_spread 72 = .ok (.invokevirtual 46, 3) := by decide +kernel
theorem dX3_spread_75 : decode cX3_spread 75 = .ok (.aload_n 0, 1) := by decide +kernel
theorem dX3_spread_76 : decode cX3_spread 76 = .ok (.aload_n 1, 1) := by decide +kernel
theorem dX3_spread_77 : decode cX3_spread 77 = .ok (.aload_n 2, 1) := by decide +kernel
theorem dX3_spread_78 : decode cX3_spread 78 = .ok (.iload_n 3, 1) := by decide +kernel
theorem dX3_spread_79 : decode cX3_spread 79 = .ok (.iconst 1, 1) := by decide +kernel
theorem dX3_spread_80 : decode cX3_spread 80 = .ok (.iadd, 1) := by decide +kernel
theorem dX3_spread_81 : decode cX3_spread 81 = .ok (.iload 4, 2) := by decide +kernel
theorem dX3_spread_83 : decode cX3_spread 83 = .ok (.iload 5, 2) := by decide +kernel
theorem dX3_spread_85 : decode cX3_spread 85 = .ok (.invokestatic 50, 3) := by decide +kernel
theorem dX3_spread_88 : decode cX3_spread 88 = .ok (.isub, 1) := by decide +kernel
theorem dX3_spread_89 : decode cX3_spread 89 = .ok (.invokevirtual 31, 3) := by decide +kernel
theorem dX3_spread_92 : decode cX3_spread 92 = .ok (.ifCond .eq 5, 3) := by decide +kernel
theorem dX3_spread_95 : decode cX3_spread 95 = .ok (.iconst 1, 1) := by decide +kernel
theorem dX3_spread_96 : decode cX3_spread 96 = .ok (.ireturn, 1) := by decide +kernel
theorem dX3_spread_97 : decode cX3_spread 97 = .ok (.aload_n 0, 1) := by decide +kernel
theorem dX3_spread_98 : decode cX3_spread 98 = .ok (.aload_n 1, 1) := by decide +kernel
theorem dX3_spread_99 : decode cX3_spread 99 = .ok (.iload_n 3, 1) := by decide +kernel
theorem dX3_spread_100 : decode cX3_spread 100 = .ok (.iload 5, 2) := by decide +kernel
theorem dX3_spread_102 : decode cX3_spread 102 = .ok (.ineg, 1) := by decide +kernel
theorem dX3_spread_103 : decode cX3_spread 103 = .ok (.invokevirtual 46, 3) := by decide +kernel
theorem dX3_spread_106 : decode cX3_spread 106 = .ok (.iinc 5 1, 3) := by decide +kernel
theorem dX3_spread_109 : decode cX3_spread 109 = .ok (.goto (-72), 3) := by decide +kernel
theorem dX3_spread_112 : decode cX3_spread 112 = .ok (.iconst 0, 1) := by decide +kernel
theorem dX3_spread_113 : decode cX3_spread 113 = .ok (.ireturn, 1) := by decide +kernel
set_option maxRecDepth 20000 in
theorem ggX3_canHold_X2_missing : GoodIn wsX3_canHold wsX2_missing := goodIn_r _ [8, 9, 10, 11, 12, 13, 14, 15, 16, 17, 18, 19, 20, 21, 22, 23, 24, 25, 26, 27, 28, 29, 30] rfl (by decide +kernel)
set_option maxRecDepth 20000 in
theorem gX3_canHold_X2_missing : GoodIn wsX3_canHold (wsV RX3 56 RX2 yX2_missing wsX2_missing) := goodIn_app (goodIn_of _ (by decide +kernel)) ggX3_canHold_X2_missing
theorem dX3_canHold_0 : decode cX3_canHold 0 = .ok (.iconst 0, 1) := by decide +kernel
theorem dX3_canHold_1 : decode cX3_canHold 1 = .ok (.istore 4, 2) := by decide +kernel
theorem dX3_canHold_3 : decode cX3_canHold 3 = .ok (.iload 4, 2) := by decide +kernel
theorem dX3_canHold_5 : decode cX3_canHold 5 = .ok (.aload_n 1, 1) := by decide +kernel
theorem dX3_canHold_6 : decode cX3_canHold 6 = .ok (.getfield 18, 3) := by decide +kernel
theorem dX3_canHold_9 : decode cX3_canHold 9 = .ok (.if_icmp .ge 48, 3) := by decide +kernel
theorem dX3_canHold_12 : decode cX3_canHold 12 = .ok (.aload_n 1, 1) := by decide +kernel
theorem dX3_canHold_13 : decode cX3_canHold 13 = .ok (.getfield 24, 3) := by decide +kernel
theorem dX3_canHold_16 : decode cX3_canHold 16 = .ok (.iload 4, 2) := by decide +kernel
theorem dX3_canHold_18 : decode cX3_canHold 18 = .ok (.iaload, 1) := by decide +kernel
theorem dX3_canHold_19 : decode cX3_canHold 19 = .ok (.iload_n 2, 1) := by decide +kernel
theorem dX3_canHold_20 : decode cX3_canHold 20 = .ok (.ishr, 1) := by decide +kernel
theorem dX3_canHold_21 : decode cX3_canHold 21 = .ok (.ifCond .ne 7, 3) := by decide +kernel
theorem dX3_canHold_24 : decode cX3_canHold 24 = .ok (.iconst 0, 1) := by decide +kernel
theorem dX3_canHold_25 : decode cX3_canHold 25 = .ok (.goto 4, 3) := by decide +kernel
theorem dX3_canHold_28 : decode cX3_canHold 28 = .ok (.iload_n 3, 1) := by decide +kernel
theorem dX3_canHold_29 : decode cX3_canHold 29 = .ok (.istore 5, 2) := by decide +kernel
theorem dX3_canHold_31 : decode cX3_canHold 31 = .ok (.aload_n 1, 1) := by decide +kernel
theorem dX3_canHold_32 : decode cX3_canHold 32 = .ok (.iload 4, 2) := by decide +kernel
theorem dX3_canHold_34 : decode cX3_canHold 34 = .ok (.aload_n 0, 1) := by decide +kernel
theorem dX3_canHold_35 : decode cX3_canHold 35 = .ok (.getfield 15, 3) := by decide +kernel
theorem dX3_canHold_38 : decode cX3_canHold 38 = .ok (.iload 4, 2) := by decide +kernel
theorem dX3_canHold_40 : decode cX3_canHold 40 = .ok (.iaload, 1) := by decide +kernel
theorem dX3_canHold_41 : decode cX3_canHold 41 = .ok (.invokevirtual 56, 3) := by decide +kernel
theorem dX3_canHold_44 : decode cX3_canHold 44 = .ok (.iload 5, 2) := by decide +kernel
theorem dX3_canHold_46 : decode cX3_canHold 46 = .ok (.if_icmp .le 5, 3) := by decide +kernel
theorem dX3_canHold_49 : decode cX3_canHold 49 = .ok (.iconst 0, 1) := by decide +kernel
theorem dX3_canHold_50 : decode cX3_canHold 50 = .ok (.ireturn, 1) := by decide +kernel
theorem dX3_canHold_51 : decode cX3_canHold 51 = .ok (.iinc 4 1, 3) := by decide +kernel
theorem dX3_canHold_54 : decode cX3_canHold 54 = .ok (.goto (-51), 3) := by decide +kernel
theorem dX3_canHold_57 : decode cX3_canHold 57 = .ok (.iconst 1, 1) := by decide +kernel
theorem dX3_canHold_58 : decode cX3_canHold 58 = .ok (.ireturn, 1) := by decide +kernel
theorem dX3_alter_0 : decode cX3_alter 0 = .ok (.iconst 0, 1) := by decide +kernel
theorem dX3_alter_1 : decode cX3_alter 1 = .ok (.istore 4, 2) := by decide +kernel
theorem dX3_alter_3 : decode cX3_alter 3 = .ok (.iload 4, 2) := by decide +kernel
theorem dX3_alter_5 : decode cX3_alter 5 = .ok (.aload_n 1, 1) := by decide +kernel
theorem dX3_alter_6 : decode cX3_alter 6 = .ok (.getfield 18, 3) := by decide +kernel
theorem dX3_alter_9 : decode cX3_alter 9 = .ok (.if_icmp .ge 34, 3) := by decide +kernel
theorem dX3_alter_12 : decode cX3_alter 12 = .ok (.aload_n 1, 1) := by decide +kernel
theorem dX3_alter_13 : decode cX3_alter 13 = .ok (.getfield 24, 3) := by decide +kernel
theorem dX3_alter_16 : decode cX3_alter 16 = .ok (.iload 4, 2) := by decide +kernel
theorem dX3_alter_18 : decode cX3_alter 18 = .ok (.iaload, 1) := by decide +kernel
theorem dX3_alter_19 : decode cX3_alter 19 = .ok (.iload_n 2, 1) := by decide +kernel
theorem dX3_alter_20 : decode cX3_alter 20 = .ok (.ishr, 1) := by decide +kernel
theorem dX3_alter_21 : decode cX3_alter 21 = .ok (.iconst 1, 1) := by decide +kernel
theorem dX3_alter_22 : decode cX3_alter 22 = .ok (.iand, 1) := by decide +kernel
theorem dX3_alter_23 : decode cX3_alter 23 = .ok (.ifCond .eq 14, 3) := by decide +kernel
theorem dX3_alter_26 : decode cX3_alter 26 = .ok (.aload_n 0, 1) := by decide +kernel
theorem dX3_alter_27 : decode cX3_alter 27 = .ok (.getfield 15, 3) := by decide +kernel
theorem dX3_alter_30 : decode cX3_alter 30 = .ok (.iload 4, 2) := by decide +kernel
theorem dX3_alter_32 : decode cX3_alter 32 = .ok (.dup2, 1) := by decide +kernel
theorem dX3_alter_33 : decode cX3_alter 33 = .ok (.iaload, 1) := by decide +kernel
theorem dX3_alter_34 : decode cX3_alter 34 = .ok (.iload_n 3, 1) := by decide +kernel
theorem dX3_alter_35 : decode cX3_alter 35 = .ok (.iadd, 1) := by decide +kernel
theorem dX3_alter_36 : decode cX3_alter 36 = .ok (.iastore, 1) := by decide +kernel
theorem dX3_alter_37 : decode cX3_alter 37 = .ok (.iinc 4 1, 3) := by decide +kernel
theorem dX3_alter_40 : decode cX3_alter 40 = .ok (.goto (-37), 3) := by decide +kernel
theorem dX3_alter_43 : decode cX3_alter 43 = .ok (.return_, 1) := by decide +kernel
theorem dX4_init_0 : decode cX4_init 0 = .ok (.aload_n 0, 1) := by decide +kernel
theorem dX4_init_1 : decode cX4_init 1 = .ok (.invokespecial 3, 3) := by decide +kernel
theorem dX4_init_4 : decode cX4_init 4 = .ok (.aload_n 0, 1) := by decide +kernel
theorem dX4_init_5 : decode cX4_init 5 = .ok (.iconst 5, 1) := by decide +kernel
theorem dX4_init_6 : decode cX4_init 6 = .ok (.newarray .int, 2) := by decide +kernel
theorem dX4_init_8 : decode cX4_init 8 = .ok (.putfield 9, 3) := by decide +kernel
theorem dX4_init_11 : decode cX4_init 11 = .ok (.aload_n 0, 1) := by decide +kernel
theorem dX4_init_12 : decode cX4_init 12 = .ok (.bipush 9, 2) := by decide +kernel
theorem dX4_init_14 : decode cX4_init 14 = .ok (.newarray .int, 2) := by decide +kernel
theorem dX4_init_16 : decode cX4_init 16 = .ok (.putfield 15, 3) := by decide +kernel
theorem dX4_init_19 : decode cX4_init 19 = .ok (.return_, 1) := by decide +kernel
set_option maxRecDepth 20000 in
theorem ggX4_plan_X2_holding : GoodIn wsX4_plan wsX2_holding := goodIn_r _ [13, 14, 15, 16, 17, 12, 18, 19, 20, 21, 22, 23, 24, 25, 26, 27, 28, 29, 30, 31, 32, 33, 34, 35, 36, 37, 55, 56, 57, 58, 59, 60, 61, 62, 63, 64, 65, 66, 67] rfl (by decide +kernel)
