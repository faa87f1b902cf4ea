theorem dX11_tried_55 : decode cX11_tried 55 = .ok (.aload_n 0, 1) := by decide +kernel
theorem dX11_tried_56 : decode cX11_tried 56 = .ok (.getfield 35, 3) := by decide +kernel
theorem dX11_tried_59 : decode cX11_tried 59 = .ok (.iload_n 2, 1) := by decide +kernel
theorem dX11_tried_60 : decode cX11_tried 60 = .ok (.sipush 200, 3) := by decide +kernel
theorem dX11_tried_63 : decode cX11_tried 63 = .ok (.isub, 1) := by decide +kernel
theorem dX11_tried_64 : decode cX11_tried 64 = .ok (.iconst 4, 1) := by decide +kernel
theorem dX11_tried_65 : decode cX11_tried 65 = .ok (.invokevirtual 186, 3) := by decide +kernel
theorem dX11_tried_68 : decode cX11_tried 68 = .ok (.ireturn, 1) := by decide +kernel
theorem dX11_tried_69 : decode cX11_tried 69 = .ok (.iload_n 2, 1) := by decide +kernel
theorem dX11_tried_70 : decode cX11_tried 70 = .ok (.bipush 100, 2) := by decide +kernel
theorem dX11_tried_72 : decode cX11_tried 72 = .ok (.if_icmp .lt 16, 3) := by decide +kernel
theorem dX11_tried_75 : decode cX11_tried 75 = .ok (.aload_n 0, 1) := by decide +kernel
theorem dX11_tried_76 : decode cX11_tried 76 = .ok (.getfield 35, 3) := by decide +kernel
theorem dX11_tried_79 : decode cX11_tried 79 = .ok (.iload_n 2, 1) := by decide +kernel
theorem dX11_tried_80 : decode cX11_tried 80 = .ok (.bipush 100, 2) := by decide +kernel
theorem dX11_tried_82 : decode cX11_tried 82 = .ok (.isub, 1) := by decide +kernel
theorem dX11_tried_83 : decode cX11_tried 83 = .ok (.iconst 0, 1) := by decide +kernel
theorem dX11_tried_84 : decode cX11_tried 84 = .ok (.invokevirtual 186, 3) := by decide +kernel
theorem dX11_tried_87 : decode cX11_tried 87 = .ok (.ireturn, 1) := by decide +kernel
theorem dX11_tried_88 : decode cX11_tried 88 = .ok (.iload_n 2, 1) := by decide +kernel
theorem dX11_tried_89 : decode cX11_tried 89 = .ok (.tableswitch 66 0 3 #[31, 39, 47, 55], 31) := by decide +kernel
theorem dX11_tried_120 : decode cX11_tried 120 = .ok (.aload_n 0, 1) := by decide +kernel
theorem dX11_tried_121 : decode cX11_tried 121 = .ok (.getfield 41, 3) := by decide +kernel
theorem dX11_tried_124 : decode cX11_tried 124 = .ok (.getfield 177, 3) := by decide +kernel
theorem dX11_tried_127 : decode cX11_tried 127 = .ok (.ireturn, 1) := by decide +kernel
theorem dX11_tried_128 : decode cX11_tried 128 = .ok (.aload_n 0, 1) := by decide +kernel
theorem dX11_tried_129 : decode cX11_tried 129 = .ok (.getfield 41, 3) := by decide +kernel
theorem dX11_tried_132 : decode cX11_tried 132 = .ok (.getfield 190, 3) := by decide +kernel
theorem dX11_tried_135 : decode cX11_tried 135 = .ok (.ireturn, 1) := by decide +kernel
theorem dX11_tried_136 : decode cX11_tried 136 = .ok (.aload_n 0, 1) := by decide +kernel
theorem dX11_tried_137 : decode cX11_tried 137 = .ok (.getfield 41, 3) := by decide +kernel
theorem dX11_tried_140 : decode cX11_tried 140 = .ok (.getfield 193, 3) := by decide +kernel
theorem dX11_tried_143 : decode cX11_tried 143 = .ok (.ireturn, 1) := by decide +kernel
theorem dX11_tried_144 : decode cX11_tried 144 = .ok (.aload_n 0, 1) := by decide +kernel
theorem dX11_tried_145 : decode cX11_tried 145 = .ok (.getfield 35, 3) := by decide +kernel
theorem dX11_tried_148 : decode cX11_tried 148 = .ok (.getfield 196, 3) := by decide +kernel
theorem dX11_tried_151 : decode cX11_tried 151 = .ok (.invokestatic 199, 3) := by decide +kernel
theorem dX11_tried_154 : decode cX11_tried 154 = .ok (.ireturn, 1) := by decide +kernel
theorem dX11_tried_155 : decode cX11_tried 155 = .ok (.aload_n 0, 1) := by decide +kernel
theorem dX11_tried_156 : decode cX11_tried 156 = .ok (.getfield 41, 3) := by decide +kernel
theorem dX11_tried_159 : decode cX11_tried 159 = .ok (.getfield 205, 3) := by decide +kernel
theorem dX11_tried_162 : decode cX11_tried 162 = .ok (.ireturn, 1) := by decide +kernel
set_option maxRecDepth 20000 in
theorem ggX11_canBeTried_X11_isWithin : GoodIn wsX11_canBeTried wsX11_isWithin := goodIn_r _ [5] (by decide +kernel) (by decide +kernel)
set_option maxRecDepth 20000 in
theorem gX11_canBeTried_X11_isWithin : GoodIn wsX11_canBeTried (va_wsS RX11 110 yX11_isWithin wsX11_isWithin) := goodIn_app (goodIn_of _ (by decide +kernel)) ggX11_canBeTried_X11_isWithin
set_option maxRecDepth 20000 in
theorem ggX11_canBeTried_X9_knows : GoodIn wsX11_canBeTried wsX9_knows := goodIn_r _ [10, 11, 12, 4, 13, 2, 3, 5, 14, 15, 32, 33, 34, 35, 36, 37, 38, 39] (by decide +kernel) (by decide +kernel)
set_option maxRecDepth 20000 in
theorem gX11_canBeTried_X9_knows : GoodIn wsX11_canBeTried (wsV RX11 208 RX9 yX9_knows wsX9_knows) := goodIn_app (goodIn_of _ (by decide +kernel)) ggX11_canBeTried_X9_knows
theorem dX11_canBeTried_0 : decode cX11_canBeTried 0 = .ok (.iload_n 1, 1) := by decide +kernel
theorem dX11_canBeTried_1 : decode cX11_canBeTried 1 = .ok (.iconst 0, 1) := by decide +kernel
theorem dX11_canBeTried_2 : decode cX11_canBeTried 2 = .ok (.iconst 4, 1) := by decide +kernel
theorem dX11_canBeTried_3 : decode cX11_canBeTried 3 = .ok (.invokestatic 110, 3) := by decide +kernel
theorem dX11_canBeTried_6 : decode cX11_canBeTried 6 = .ok (.ifCond .ne 32, 3) := by decide +kernel
theorem dX11_canBeTried_9 : decode cX11_canBeTried 9 = .ok (.aload_n 0, 1) := by decide +kernel
theorem dX11_canBeTried_10 : decode cX11_canBeTried 10 = .ok (.getfield 28, 3) := by decide +kernel
theorem dX11_canBeTried_13 : decode cX11_canBeTried 13 = .ok (.iload_n 1, 1) := by decide +kernel
theorem dX11_canBeTried_14 : decode cX11_canBeTried 14 = .ok (.bipush 100, 2) := by decide +kernel
theorem dX11_canBeTried_16 : decode cX11_canBeTried 16 = .ok (.isub, 1) := by decide +kernel
theorem dX11_canBeTried_17 : decode cX11_canBeTried 17 = .ok (.invokevirtual 208, 3) := by decide +kernel
theorem dX11_canBeTried_20 : decode cX11_canBeTried 20 = .ok (.ifCond .ne 18, 3) := by decide +kernel
theorem dX11_canBeTried_23 : decode cX11_canBeTried 23 = .ok (.aload_n 0, 1) := by decide +kernel
theorem dX11_canBeTried_24 : decode cX11_canBeTried 24 = .ok (.getfield 28, 3) := by decide +kernel
theorem dX11_canBeTried_27 : decode cX11_canBeTried 27 = .ok (.iload_n 1, 1) := by decide +kernel
theorem dX11_canBeTried_28 : decode cX11_canBeTried 28 = .ok (.sipush 200, 3) := by decide +kernel
theorem dX11_canBeTried_31 : decode cX11_canBeTried 31 = .ok (.isub, 1) := by decide +kernel
theorem dX11_canBeTried_32 : decode cX11_canBeTried 32 = .ok (.invokevirtual 208, 3) := by decide +kernel
theorem dX11_canBeTried_35 : decode cX11_canBeTried 35 = .ok (.ifCond .eq 7, 3) := by decide +kernel
theorem dX11_canBeTried_38 : decode cX11_canBeTried 38 = .ok (.iconst 1, 1) := by decide +kernel
theorem dX11_canBeTried_39 : decode cX11_canBeTried 39 = .ok (.goto 4, 3) := by decide +kernel
theorem dX11_canBeTried_42 : decode cX11_canBeTried 42 = .ok (.iconst 0, 1) := by decide +kernel
theorem dX11_canBeTried_43 : decode cX11_canBeTried 43 = .ok (.ireturn, 1) := by decide +kernel
set_option maxRecDepth 20000 in
theorem ggX11_walkerIs_X9_factOf : GoodIn wsX11_walkerIs wsX9_factOf := goodIn_r _ [6, 7, 8, 9, 10, 11, 12, 13, 14, 5, 15, 16, 17, 18, 19, 20, 21, 22, 23, 24, 41, 42, 43, 44, 45, 46, 47, 48] (by decide +kernel) (by decide +kernel)
set_option maxRecDepth 20000 in
theorem gX11_walkerIs_X9_factOf : GoodIn wsX11_walkerIs (wsV RX11 186 RX9 yX9_factOf wsX9_factOf) := goodIn_app (goodIn_of _ (by decide +kernel)) ggX11_walkerIs_X9_factOf
theorem dX11_walkerIs_0 : decode cX11_walkerIs 0 = .ok (.aload_n 0, 1) := by decide +kernel
theorem dX11_walkerIs_1 : decode cX11_walkerIs 1 = .ok (.getfield 28, 3) := by decide +kernel
theorem dX11_walkerIs_4 : decode cX11_walkerIs 4 = .ok (.iload_n 1, 1) := by decide +kernel
theorem dX11_walkerIs_5 : decode cX11_walkerIs 5 = .ok (.iload_n 2, 1) := by decide +kernel
theorem dX11_walkerIs_6 : decode cX11_walkerIs 6 = .ok (.invokevirtual 186, 3) := by decide +kernel
theorem dX11_walkerIs_9 : decode cX11_walkerIs 9 = .ok (.ireturn, 1) := by decide +kernel
set_option maxRecDepth 20000 in
theorem ggX11_standsFor_X9_knows : GoodIn wsX11_standsFor wsX9_knows := goodIn_r _ [12, 13, 14, 15, 16, 17, 18, 19, 20, 21, 77, 78, 79, 80, 81, 82, 83, 84] (by decide +kernel) (by decide +kernel)
set_option maxRecDepth 20000 in
theorem gX11_standsFor_X9_knows : GoodIn wsX11_standsFor (wsV RX11 208 RX9 yX9_knows wsX9_knows) := goodIn_app (goodIn_of _ (by decide +kernel)) ggX11_standsFor_X9_knows
set_option maxRecDepth 20000 in
theorem ggX11_standsFor_X11_isWithin : GoodIn wsX11_standsFor wsX11_isWithin := goodIn_r _ [19] (by decide +kernel) (by decide +kernel)
set_option maxRecDepth 20000 in
theorem gX11_standsFor_X11_isWithin : GoodIn wsX11_standsFor (va_wsS RX11 110 yX11_isWithin wsX11_isWithin) := goodIn_app (goodIn_of _ (by decide +kernel)) ggX11_standsFor_X11_isWithin
set_option maxRecDepth 20000 in
theorem ggX11_standsFor_X0_weigh : GoodIn wsX11_standsFor wsX0_weigh := goodIn_r _ [26, 27, 28, 29, 30, 25, 31, 85, 86, 87, 88, 89, 90] (by decide +kernel) (by decide +kernel)
set_option maxRecDepth 20000 in
theorem gX11_standsFor_X0_weigh : GoodIn wsX11_standsFor (wsV RX11 215 RX0 yX0_weigh wsX0_weigh) := goodIn_app (goodIn_of _ (by decide +kernel)) ggX11_standsFor_X0_weigh
set_option maxRecDepth 20000 in
theorem ggX11_standsFor_X9_othersHere : GoodIn wsX11_standsFor wsX9_othersHere := goodIn_r _ [35, 36, 37, 38, 11, 39, 13, 40, 77, 78, 79, 80, 81, 82, 83, 84] (by decide +kernel) (by decide +kernel)
set_option maxRecDepth 20000 in
theorem gX11_standsFor_X9_othersHere : GoodIn wsX11_standsFor (wsV RX11 219 RX9 yX9_othersHere wsX9_othersHere) := goodIn_app (goodIn_of _ (by decide +kernel)) ggX11_standsFor_X9_othersHere
set_option maxRecDepth 20000 in
theorem ggX11_standsFor_X0_nearest : GoodIn wsX11_standsFor wsX0_nearest := goodIn_r _ [44, 45, 5, 6, 7, 46, 47, 48, 49, 50, 51, 52, 53, 54, 55, 25, 56, 27, 28, 57, 58, 59, 85, 86, 87, 88, 89, 90] (by decide +kernel) (by decide +kernel)
set_option maxRecDepth 20000 in
theorem gX11_standsFor_X0_nearest : GoodIn wsX11_standsFor (wsV RX11 222 RX0 yX0_nearest wsX0_nearest) := goodIn_app (goodIn_of _ (by decide +kernel)) ggX11_standsFor_X0_nearest
set_option maxRecDepth 20000 in
theorem ggX11_standsFor_X0_sum : GoodIn wsX11_standsFor wsX0_sum := goodIn_r _ [56, 27, 28, 85, 86, 87, 88, 89, 90] (by decide +kernel) (by decide +kernel)
set_option maxRecDepth 20000 in
theorem gX11_standsFor_X0_sum : GoodIn wsX11_standsFor (wsV RX11 225 RX0 yX0_sum wsX0_sum) := goodIn_app (goodIn_of _ (by decide +kernel)) ggX11_standsFor_X0_sum
theorem dX11_standsFor_0 : decode cX11_standsFor 0 = .ok (.aload_n 0, 1) := by decide +kernel
theorem dX11_standsFor_1 : decode cX11_standsFor 1 = .ok (.getfield 28, 3) := by decide +kernel
theorem dX11_standsFor_4 : decode cX11_standsFor 4 = .ok (.iload_n 1, 1) := by decide +kernel
theorem dX11_standsFor_5 : decode cX11_standsFor 5 = .ok (.invokevirtual 208, 3) := by decide +kernel
theorem dX11_standsFor_8 : decode cX11_standsFor 8 = .ok (.ifCond .eq 12, 3) := by decide +kernel
theorem dX11_standsFor_11 : decode cX11_standsFor 11 = .ok (.iload_n 2, 1) := by decide +kernel
theorem dX11_standsFor_12 : decode cX11_standsFor 12 = .ok (.iconst 0, 1) := by decide +kernel
theorem dX11_standsFor_13 : decode cX11_standsFor 13 = .ok (.iconst 1, 1) := by decide +kernel
theorem dX11_standsFor_14 : decode cX11_standsFor 14 = .ok (.invokestatic 110, 3) := by decide +kernel
theorem dX11_standsFor_17 : decode cX11_standsFor 17 = .ok (.ifCond .ne 5, 3) := by decide +kernel
theorem dX11_standsFor_20 : decode cX11_standsFor 20 = .ok (.iconst (-1), 1) := by decide +kernel
theorem dX11_standsFor_21 : decode cX11_standsFor 21 = .ok (.ireturn, 1) := by decide +kernel
theorem dX11_standsFor_22 : decode cX11_standsFor 22 = .ok (.aload_n 0, 1) := by decide +kernel
theorem dX11_standsFor_23 : decode cX11_standsFor 23 = .ok (.getfield 64, 3) := by decide +kernel
theorem dX11_standsFor_26 : decode cX11_standsFor 26 = .ok (.aload_n 0, 1) := by decide +kernel
theorem dX11_standsFor_27 : decode cX11_standsFor 27 = .ok (.getfield 28, 3) := by decide +kernel
theorem dX11_standsFor_30 : decode cX11_standsFor 30 = .ok (.getfield 211, 3) := by decide +kernel
theorem dX11_standsFor_33 : decode cX11_standsFor 33 = .ok (.invokevirtual 215, 3) := by decide +kernel
theorem dX11_standsFor_36 : decode cX11_standsFor 36 = .ok (.aload_n 0, 1) := by decide +kernel
theorem dX11_standsFor_37 : decode cX11_standsFor 37 = .ok (.getfield 64, 3) := by decide +kernel
theorem dX11_standsFor_40 : decode cX11_standsFor 40 = .ok (.aload_n 0, 1) := by decide +kernel
theorem dX11_standsFor_41 : decode cX11_standsFor 41 = .ok (.getfield 28, 3) := by decide +kernel
theorem dX11_standsFor_44 : decode cX11_standsFor 44 = .ok (.iload_n 1, 1) := by decide +kernel
theorem dX11_standsFor_45 : decode cX11_standsFor 45 = .ok (.invokevirtual 219, 3) := by decide +kernel
theorem dX11_standsFor_48 : decode cX11_standsFor 48 = .ok (.aload_n 0, 1) := by decide +kernel
theorem dX11_standsFor_49 : decode cX11_standsFor 49 = .ok (.getfield 28, 3) := by decide +kernel
theorem dX11_standsFor_52 : decode cX11_standsFor 52 = .ok (.getfield 211, 3) := by decide +kernel
theorem dX11_standsFor_55 : decode cX11_standsFor 55 = .ok (.iload_n 1, 1) := by decide +kernel
theorem dX11_standsFor_56 : decode cX11_standsFor 56 = .ok (.iaload, 1) := by decide +kernel
theorem dX11_standsFor_57 : decode cX11_standsFor 57 = .ok (.invokevirtual 222, 3) := by decide +kernel
theorem dX11_standsFor_60 : decode cX11_standsFor 60 = .ok (.istore_n 3, 1) := by decide +kernel
theorem dX11_standsFor_61 : decode cX11_standsFor 61 = .ok (.iload_n 2, 1) := by decide +kernel
theorem dX11_standsFor_62 : decode cX11_standsFor 62 = .ok (.ifCond .ne 7, 3) := by decide +kernel
theorem dX11_standsFor_65 : decode cX11_standsFor 65 = .ok (.iload_n 3, 1) := by decide +kernel
theorem dX11_standsFor_66 : decode cX11_standsFor 66 = .ok (.goto 24, 3) := by decide +kernel
theorem dX11_standsFor_69 : decode cX11_standsFor 69 = .ok (.aload_n 0, 1) := by decide +kernel
theorem dX11_standsFor_70 : decode cX11_standsFor 70 = .ok (.getfield 64, 3) := by decide +kernel
theorem dX11_standsFor_73 : decode cX11_standsFor 73 = .ok (.iload_n 3, 1) := by decide +kernel
theorem dX11_standsFor_74 : decode cX11_standsFor 74 = .ok (.invokevirtual 225, 3) := by decide +kernel
theorem dX11_standsFor_77 : decode cX11_standsFor 77 = .ok (.aload_n 0, 1) := by decide +kernel
theorem dX11_standsFor_78 : decode cX11_standsFor 78 = .ok (.getfield 28, 3) := by decide +kernel
theorem dX11_standsFor_81 : decode cX11_standsFor 81 = .ok (.getfield 211, 3) := by decide +kernel
theorem dX11_standsFor_84 : decode cX11_standsFor 84 = .ok (.iload_n 1, 1) := by decide +kernel
theorem dX11_standsFor_85 : decode cX11_standsFor 85 = .ok (.iaload, 1) := by decide +kernel
theorem dX11_standsFor_86 : decode cX11_standsFor 86 = .ok (.isub, 1) := by decide +kernel
theorem dX11_standsFor_87 : decode cX11_standsFor 87 = .ok (.invokestatic 228, 3) := by decide +kernel
theorem dX11_standsFor_90 : decode cX11_standsFor 90 = .ok (.ireturn, 1) := by decide +kernel
set_option maxRecDepth 20000 in
theorem ggX11_colonel_X9_knows : GoodIn wsX11_colonel wsX9_knows := goodIn_r _ [10, 11, 12, 13, 14, 15, 16, 17, 18, 19, 77, 78, 79, 80, 81, 82, 83, 84] (by decide +kernel) (by decide +kernel)
set_option maxRecDepth 20000 in
theorem gX11_colonel_X9_knows : GoodIn wsX11_colonel (wsV RX11 208 RX9 yX9_knows wsX9_knows) := goodIn_app (goodIn_of _ (by decide +kernel)) ggX11_colonel_X9_knows
set_option maxRecDepth 20000 in
theorem ggX11_colonel_X11_isWithin : GoodIn wsX11_colonel wsX11_isWithin := goodIn_r _ [17] (by decide +kernel) (by decide +kernel)
set_option maxRecDepth 20000 in
theorem gX11_colonel_X11_isWithin : GoodIn wsX11_colonel (va_wsS RX11 110 yX11_isWithin wsX11_isWithin) := goodIn_app (goodIn_of _ (by decide +kernel)) ggX11_colonel_X11_isWithin
set_option maxRecDepth 20000 in
theorem ggX11_colonel_X0_weigh : GoodIn wsX11_colonel wsX0_weigh := goodIn_r _ [24, 25, 26, 27, 28, 23, 29, 91, 92, 93, 94, 95, 96] (by decide +kernel) (by decide +kernel)
set_option maxRecDepth 20000 in
theorem gX11_colonel_X0_weigh : GoodIn wsX11_colonel (wsV RX11 215 RX0 yX0_weigh wsX0_weigh) := goodIn_app (goodIn_of _ (by decide +kernel)) ggX11_colonel_X0_weigh
set_option maxRecDepth 20000 in
theorem ggX11_colonel_X9_othersHere : GoodIn wsX11_colonel wsX9_othersHere := goodIn_r _ [33, 34, 35, 36, 9, 37, 11, 38, 77, 78, 79, 80, 81, 82, 83, 84] (by decide +kernel) (by decide +kernel)
set_option maxRecDepth 20000 in
theorem gX11_colonel_X9_othersHere : GoodIn wsX11_colonel (wsV RX11 219 RX9 yX9_othersHere wsX9_othersHere) := goodIn_app (goodIn_of _ (by decide +kernel)) ggX11_colonel_X9_othersHere
set_option maxRecDepth 20000 in
theorem ggX11_colonel_X0_ways : GoodIn wsX11_colonel wsX0_ways := goodIn_r _ [42, 43, 44, 45, 46, 47, 48, 49, 50, 51, 52, 53, 54, 55, 56, 23, 57, 25, 26, 58, 59, 60, 91, 92, 93, 94, 95, 96] (by decide +kernel) (by decide +kernel)
set_option maxRecDepth 20000 in
theorem gX11_colonel_X0_ways : GoodIn wsX11_colonel (wsV RX11 233 RX0 yX0_ways wsX0_ways) := goodIn_app (goodIn_of _ (by decide +kernel)) ggX11_colonel_X0_ways
theorem dX11_colonel_0 : decode cX11_colonel 0 = .ok (.aload_n 0, 1) := by decide +kernel
theorem dX11_colonel_1 : decode cX11_colonel 1 = .ok (.getfield 28, 3) := by decide +kernel
theorem dX11_colonel_4 : decode cX11_colonel 4 = .ok (.iload_n 1, 1) := by decide +kernel
theorem dX11_colonel_5 : decode cX11_colonel 5 = .ok (.invokevirtual 208, 3) := by decide +kernel
theorem dX11_colonel_8 : decode cX11_colonel 8 = .ok (.ifCond .eq 13, 3) := by decide +kernel
theorem dX11_colonel_11 : decode cX11_colonel 11 = .ok (.iload_n 2, 1) := by decide +kernel
theorem dX11_colonel_12 : decode cX11_colonel 12 = .ok (.iconst 1, 1) := by decide +kernel
theorem dX11_colonel_13 : decode cX11_colonel 13 = .ok (.bipush 15, 2) := by decide +kernel
theorem dX11_colonel_15 : decode cX11_colonel 15 = .ok (.invokestatic 110, 3) := by decide +kernel
theorem dX11_colonel_18 : decode cX11_colonel 18 = .ok (.ifCond .ne 5, 3) := by decide +kernel
theorem dX11_colonel_21 : decode cX11_colonel 21 = .ok (.iconst (-1), 1) := by decide +kernel
theorem dX11_colonel_22 : decode cX11_colonel 22 = .ok (.ireturn, 1) := by decide +kernel
theorem dX11_colonel_23 : decode cX11_colonel 23 = .ok (.aload_n 0, 1) := by decide +kernel
theorem dX11_colonel_24 : decode cX11_colonel 24 = .ok (.getfield 64, 3) := by decide +kernel
theorem dX11_colonel_27 : decode cX11_colonel 27 = .ok (.aload_n 0, 1) := by decide +kernel
theorem dX11_colonel_28 : decode cX11_colonel 28 = .ok (.getfield 28, 3) := by decide +kernel
theorem dX11_colonel_31 : decode cX11_colonel 31 = .ok (.getfield 211, 3) := by decide +kernel
theorem dX11_colonel_34 : decode cX11_colonel 34 = .ok (.invokevirtual 215, 3) := by decide +kernel
theorem dX11_colonel_37 : decode cX11_colonel 37 = .ok (.aload_n 0, 1) := by decide +kernel
theorem dX11_colonel_38 : decode cX11_colonel 38 = .ok (.getfield 64, 3) := by decide +kernel
theorem dX11_colonel_41 : decode cX11_colonel 41 = .ok (.aload_n 0, 1) := by decide +kernel
theorem dX11_colonel_42 : decode cX11_colonel 42 = .ok (.getfield 28, 3) := by decide +kernel
theorem dX11_colonel_45 : decode cX11_colonel 45 = .ok (.iload_n 1, 1) := by decide +kernel
theorem dX11_colonel_46 : decode cX11_colonel 46 = .ok (.invokevirtual 219, 3) := by decide +kernel
theorem dX11_colonel_49 : decode cX11_colonel 49 = .ok (.iload_n 2, 1) := by decide +kernel
theorem dX11_colonel_50 : decode cX11_colonel 50 = .ok (.aload_n 0, 1) := by decide +kernel
theorem dX11_colonel_51 : decode cX11_colonel 51 = .ok (.getfield 28, 3) := by decide +kernel
theorem dX11_colonel_54 : decode cX11_colonel 54 = .ok (.getfield 211, 3) := by decide +kernel
theorem dX11_colonel_57 : decode cX11_colonel 57 = .ok (.iload_n 1, 1) := by decide +kernel
theorem dX11_colonel_58 : decode cX11_colonel 58 = .ok (.iaload, 1) := by decide +kernel
theorem dX11_colonel_59 : decode cX11_colonel 59 = .ok (.aload_n 0, 1) := by decide +kernel
theorem dX11_colonel_60 : decode cX11_colonel 60 = .ok (.getfield 41, 3) := by decide +kernel
theorem dX11_colonel_63 : decode cX11_colonel 63 = .ok (.getfield 118, 3) := by decide +kernel
theorem dX11_colonel_66 : decode cX11_colonel 66 = .ok (.invokevirtual 233, 3) := by decide +kernel
theorem dX11_colonel_69 : decode cX11_colonel 69 = .ok (.ireturn, 1) := by decide +kernel
set_option maxRecDepth 20000 in
theorem ggX11_party_J6_bitCount_0f7a4 : GoodIn wsX11_party wsJ6_bitCount_0f7a4 := goodIn_r _ [10, 11, 12, 13] (by decide +kernel) (by decide +kernel)
set_option maxRecDepth 20000 in
theorem gX11_party_J6_bitCount_0f7a4 : GoodIn wsX11_party (va_wsS RX11 199 yJ6_bitCount_0f7a4 wsJ6_bitCount_0f7a4) := goodIn_app (goodIn_of _ (by decide +kernel)) ggX11_party_J6_bitCount_0f7a4
set_option maxRecDepth 20000 in
theorem ggX11_party_X11_isWithin : GoodIn wsX11_party wsX11_isWithin := goodIn_r _ [17] (by decide +kernel) (by decide +kernel)
set_option maxRecDepth 20000 in
theorem gX11_party_X11_isWithin : GoodIn wsX11_party (va_wsS RX11 110 yX11_isWithin wsX11_isWithin) := goodIn_app (goodIn_of _ (by decide +kernel)) ggX11_party_X11_isWithin
set_option maxRecDepth 20000 in
theorem ggX11_party_X9_here : GoodIn wsX11_party wsX9_here := goodIn_r _ [22, 23, 24, 87, 88, 89, 90, 91, 92, 93, 94] (by decide +kernel) (by decide +kernel)
set_option maxRecDepth 20000 in
theorem gX11_party_X9_here : GoodIn wsX11_party (wsV RX11 238 RX9 yX9_here wsX9_here) := goodIn_app (goodIn_of _ (by decide +kernel)) ggX11_party_X9_here
set_option maxRecDepth 20000 in
theorem ggX11_party_X0_lead : GoodIn wsX11_party wsX0_lead := goodIn_r _ [29, 30, 31, 32, 33, 34, 35, 36, 37, 38, 39, 28, 40, 41, 42, 43, 44, 45, 46, 16, 47, 48, 49, 50, 51, 52, 53, 54, 55, 56, 57, 58, 8, 9, 10, 11, 12, 13, 59, 60, 61, 62, 63, 64, 65, 66, 101, 102, 103, 104, 105, 106] (by decide +kernel) (by decide +kernel)
set_option maxRecDepth 20000 in
theorem gX11_party_X0_lead : GoodIn wsX11_party (wsV RX11 242 RX0 yX0_lead wsX0_lead) := goodIn_app (goodIn_of _ (by decide +kernel)) ggX11_party_X0_lead
set_option maxRecDepth 20000 in
theorem ggX11_party_X0_whoGoesAt : GoodIn wsX11_party wsX0_whoGoesAt := goodIn_r _ [70, 66, 15, 16, 17, 101, 102, 103, 104, 105, 106] (by decide +kernel) (by decide +kernel)
set_option maxRecDepth 20000 in
theorem gX11_party_X0_whoGoesAt : GoodIn wsX11_party (wsV RX11 246 RX0 yX0_whoGoesAt wsX0_whoGoesAt) := goodIn_app (goodIn_of _ (by decide +kernel)) ggX11_party_X0_whoGoesAt
theorem dX11_party_0 : decode cX11_party 0 = .ok (.iload_n 1, 1) := by decide +kernel
theorem dX11_party_1 : decode cX11_party 1 = .ok (.invokestatic 199, 3) := by decide +kernel
theorem dX11_party_4 : decode cX11_party 4 = .ok (.istore 4, 2) := by decide +kernel
theorem dX11_party_6 : decode cX11_party 6 = .ok (.iload_n 3, 1) := by decide +kernel
theorem dX11_party_7 : decode cX11_party 7 = .ok (.iconst 0, 1) := by decide +kernel
theorem dX11_party_8 : decode cX11_party 8 = .ok (.bipush 7, 2) := by decide +kernel
theorem dX11_party_10 : decode cX11_party 10 = .ok (.invokestatic 110, 3) := by decide +kernel
theorem dX11_party_13 : decode cX11_party 13 = .ok (.istore 5, 2) := by decide +kernel
theorem dX11_party_15 : decode cX11_party 15 = .ok (.iload_n 1, 1) := by decide +kernel
theorem dX11_party_16 : decode cX11_party 16 = .ok (.iconst 1, 1) := by decide +kernel
theorem dX11_party_17 : decode cX11_party 17 = .ok (.ldc 237, 2) := by decide +kernel
theorem dX11_party_19 : decode cX11_party 19 = .ok (.invokestatic 110, 3) := by decide +kernel
theorem dX11_party_22 : decode cX11_party 22 = .ok (.ifCond .eq 32, 3) := by decide +kernel
theorem dX11_party_25 : decode cX11_party 25 = .ok (.iload 4, 2) := by decide +kernel
theorem dX11_party_27 : decode cX11_party 27 = .ok (.bipush 8, 2) := by decide +kernel
theorem dX11_party_29 : decode cX11_party 29 = .ok (.if_icmp .gt 25, 3) := by decide +kernel
theorem dX11_party_32 : decode cX11_party 32 = .ok (.iload_n 2, 1) := by decide +kernel
theorem dX11_party_33 : decode cX11_party 33 = .ok (.iconst 0, 1) := by decide +kernel
theorem dX11_party_34 : decode cX11_party 34 = .ok (.sipush 999, 3) := by decide +kernel
theorem dX11_party_37 : decode cX11_party 37 = .ok (.invokestatic 110, 3) := by decide +kernel
theorem dX11_party_40 : decode cX11_party 40 = .ok (.ifCond .eq 14, 3) := by decide +kernel
theorem dX11_party_43 : decode cX11_party 43 = .ok (.iload 5, 2) := by decide +kernel
theorem dX11_party_45 : decode cX11_party 45 = .ok (.ifCond .ne 11, 3) := by decide +kernel
theorem dX11_party_48 : decode cX11_party 48 = .ok (.iload_n 3, 1) := by decide +kernel
theorem dX11_party_49 : decode cX11_party 49 = .ok (.bipush 100, 2) := by decide +kernel
theorem dX11_party_51 : decode cX11_party 51 = .ok (.if_icmp .eq 5, 3) := by decide +kernel
theorem dX11_party_54 : decode cX11_party 54 = .ok (.iconst (-1), 1) := by decide +kernel
theorem dX11_party_55 : decode cX11_party 55 = .ok (.ireturn, 1) := by decide +kernel
theorem dX11_party_56 : decode cX11_party 56 = .ok (.iload_n 1, 1) := by decide +kernel
theorem dX11_party_57 : decode cX11_party 57 = .ok (.aload_n 0, 1) := by decide +kernel
theorem dX11_party_58 : decode cX11_party 58 = .ok (.getfield 28, 3) := by decide +kernel
theorem dX11_party_61 : decode cX11_party 61 = .ok (.invokevirtual 238, 3) := by decide +kernel
theorem dX11_party_64 : decode cX11_party 64 = .ok (.iand, 1) := by decide +kernel
theorem dX11_party_65 : decode cX11_party 65 = .ok (.iload_n 1, 1) := by decide +kernel
theorem dX11_party_66 : decode cX11_party 66 = .ok (.if_icmp .eq 6, 3) := by decide +kernel
theorem dX11_party_69 : decode cX11_party 69 = .ok (.bipush (-2), 2) := by decide +kernel
theorem dX11_party_71 : decode cX11_party 71 = .ok (.ireturn, 1) := by decide +kernel
theorem dX11_party_72 : decode cX11_party 72 = .ok (.aload_n 0, 1) := by decide +kernel
theorem dX11_party_73 : decode cX11_party 73 = .ok (.getfield 64, 3) := by decide +kernel
theorem dX11_party_76 : decode cX11_party 76 = .ok (.iload_n 1, 1) := by decide +kernel
theorem dX11_party_77 : decode cX11_party 77 = .ok (.aload_n 0, 1) := by decide +kernel
theorem dX11_party_78 : decode cX11_party 78 = .ok (.getfield 28, 3) := by decide +kernel
theorem dX11_party_81 : decode cX11_party 81 = .ok (.getfield 211, 3) := by decide +kernel
theorem dX11_party_84 : decode cX11_party 84 = .ok (.iload_n 2, 1) := by decide +kernel
theorem dX11_party_85 : decode cX11_party 85 = .ok (.aload_n 0, 1) := by decide +kernel
theorem dX11_party_86 : decode cX11_party 86 = .ok (.getfield 41, 3) := by decide +kernel
theorem dX11_party_89 : decode cX11_party 89 = .ok (.getfield 118, 3) := by decide +kernel
theorem dX11_party_92 : decode cX11_party 92 = .ok (.invokevirtual 242, 3) := by decide +kernel
theorem dX11_party_95 : decode cX11_party 95 = .ok (.istore 6, 2) := by decide +kernel
theorem dX11_party_97 : decode cX11_party 97 = .ok (.iload_n 3, 1) := by decide +kernel
theorem dX11_party_98 : decode cX11_party 98 = .ok (.bipush 100, 2) := by decide +kernel
theorem dX11_party_100 : decode cX11_party 100 = .ok (.if_icmp .ne 6, 3) := by decide +kernel
theorem dX11_party_103 : decode cX11_party 103 = .ok (.iload 6, 2) := by decide +kernel
theorem dX11_party_105 : decode cX11_party 105 = .ok (.ireturn, 1) := by decide +kernel
theorem dX11_party_106 : decode cX11_party 106 = .ok (.iload_n 3, 1) := by decide +kernel
theorem dX11_party_107 : decode cX11_party 107 = .ok (.iload 6, 2) := by decide +kernel
theorem dX11_party_109 : decode cX11_party 109 = .ok (.if_icmp .ge 14, 3) := by decide +kernel
theorem dX11_party_112 : decode cX11_party 112 = .ok (.aload_n 0, 1) := by decide +kernel
theorem dX11_party_113 : decode cX11_party 113 = .ok (.getfield 64, 3) := by decide +kernel
theorem dX11_party_116 : decode cX11_party 116 = .ok (.iload_n 3, 1) := by decide +kernel
theorem dX11_party_117 : decode cX11_party 117 = .ok (.invokevirtual 246, 3) := by decide +kernel
theorem dX11_party_120 : decode cX11_party 120 = .ok (.goto 5, 3) := by decide +kernel
theorem dX11_party_123 : decode cX11_party 123 = .ok (.bipush (-4), 2) := by decide +kernel
theorem dX11_party_125 : decode cX11_party 125 = .ok (.ireturn, 1) := by decide +kernel
set_option maxRecDepth 20000 in
theorem ggX11_areTrue_X11_isWithin : GoodIn wsX11_areTrue wsX11_isWithin := goodIn_r _ [10] (by decide +kernel) (by decide +kernel)
set_option maxRecDepth 20000 in
theorem gX11_areTrue_X11_isWithin : GoodIn wsX11_areTrue (va_wsS RX11 110 yX11_isWithin wsX11_isWithin) := goodIn_app (goodIn_of _ (by decide +kernel)) ggX11_areTrue_X11_isWithin
set_option maxRecDepth 20000 in
theorem ggX11_areTrue_X0_weigh : GoodIn wsX11_areTrue wsX0_weigh := goodIn_r _ [15, 16, 17, 18, 19, 14, 20, 73, 74, 75, 76, 77, 78] (by decide +kernel) (by decide +kernel)
set_option maxRecDepth 20000 in
theorem gX11_areTrue_X0_weigh : GoodIn wsX11_areTrue (wsV RX11 215 RX0 yX0_weigh wsX0_weigh) := goodIn_app (goodIn_of _ (by decide +kernel)) ggX11_areTrue_X0_weigh
set_option maxRecDepth 20000 in
theorem ggX11_areTrue_X10_howManySo : GoodIn wsX11_areTrue wsX10_howManySo := goodIn_r _ [25, 26, 27, 28, 29, 24, 30, 31, 32, 33, 34, 35, 36, 37, 38, 39, 40, 14, 41, 16, 17, 42, 43, 44, 79, 80, 81, 82, 73, 74, 75, 76, 77, 78] (by decide +kernel) (by decide +kernel)
set_option maxRecDepth 20000 in
theorem gX11_areTrue_X10_howManySo : GoodIn wsX11_areTrue (wsV RX11 252 RX10 yX10_howManySo wsX10_howManySo) := goodIn_app (goodIn_of _ (by decide +kernel)) ggX11_areTrue_X10_howManySo
set_option maxRecDepth 20000 in
theorem ggX11_areTrue_X10_firstNotSo : GoodIn wsX11_areTrue wsX10_firstNotSo := goodIn_r _ [48, 26, 27, 28, 29, 24, 30, 31, 32, 33, 34, 35, 36, 37, 38, 39, 40, 14, 41, 16, 17, 42, 43, 44, 79, 80, 81, 82, 73, 74, 75, 76, 77, 78] (by decide +kernel) (by decide +kernel)
set_option maxRecDepth 20000 in
theorem gX11_areTrue_X10_firstNotSo : GoodIn wsX11_areTrue (wsV RX11 256 RX10 yX10_firstNotSo wsX10_firstNotSo) := goodIn_app (goodIn_of _ (by decide +kernel)) ggX11_areTrue_X10_firstNotSo
theorem dX11_areTrue_0 : decode cX11_areTrue 0 = .ok (.iload_n 1, 1) := by decide +kernel
theorem dX11_areTrue_1 : decode cX11_areTrue 1 = .ok (.iconst 0, 1) := by decide +kernel
theorem dX11_areTrue_2 : decode cX11_areTrue 2 = .ok (.iconst 3, 1) := by decide +kernel
theorem dX11_areTrue_3 : decode cX11_areTrue 3 = .ok (.invokestatic 110, 3) := by decide +kernel
theorem dX11_areTrue_6 : decode cX11_areTrue 6 = .ok (.ifCond .ne 5, 3) := by decide +kernel
theorem dX11_areTrue_9 : decode cX11_areTrue 9 = .ok (.iconst (-1), 1) := by decide +kernel
theorem dX11_areTrue_10 : decode cX11_areTrue 10 = .ok (.ireturn, 1) := by decide +kernel
theorem dX11_areTrue_11 : decode cX11_areTrue 11 = .ok (.iload_n 1, 1) := by decide +kernel
theorem dX11_areTrue_12 : decode cX11_areTrue 12 = .ok (.iconst 1, 1) := by decide +kernel
theorem dX11_areTrue_13 : decode cX11_areTrue 13 = .ok (.iand, 1) := by decide +kernel
theorem dX11_areTrue_14 : decode cX11_areTrue 14 = .ok (.ifCond .ne 13, 3) := by decide +kernel
theorem dX11_areTrue_17 : decode cX11_areTrue 17 = .ok (.aload_n 0, 1) := by decide +kernel
theorem dX11_areTrue_18 : decode cX11_areTrue 18 = .ok (.getfield 28, 3) := by decide +kernel
theorem dX11_areTrue_21 : decode cX11_areTrue 21 = .ok (.getfield 211, 3) := by decide +kernel
theorem dX11_areTrue_24 : decode cX11_areTrue 24 = .ok (.goto 10, 3) := by decide +kernel
theorem dX11_areTrue_27 : decode cX11_areTrue 27 = .ok (.aload_n 0, 1) := by decide +kernel
theorem dX11_areTrue_28 : decode cX11_areTrue 28 = .ok (.getfield 28, 3) := by decide +kernel
theorem dX11_areTrue_31 : decode cX11_areTrue 31 = .ok (.getfield 249, 3) := by decide +kernel
theorem dX11_areTrue_34 : decode cX11_areTrue 34 = .ok (.astore_n 2, 1) := by decide +kernel
theorem dX11_areTrue_35 : decode cX11_areTrue 35 = .ok (.aload_n 0, 1) := by decide +kernel
theorem dX11_areTrue_36 : decode cX11_areTrue 36 = .ok (.getfield 64, 3) := by decide +kernel
theorem dX11_areTrue_39 : decode cX11_areTrue 39 = .ok (.aload_n 2, 1) := by decide +kernel
theorem dX11_areTrue_40 : decode cX11_areTrue 40 = .ok (.invokevirtual 215, 3) := by decide +kernel
theorem dX11_areTrue_43 : decode cX11_areTrue 43 = .ok (.iload_n 1, 1) := by decide +kernel
theorem dX11_areTrue_44 : decode cX11_areTrue 44 = .ok (.iconst 2, 1) := by decide +kernel
theorem dX11_areTrue_45 : decode cX11_areTrue 45 = .ok (.if_icmp .ge 24, 3) := by decide +kernel
theorem dX11_areTrue_48 : decode cX11_areTrue 48 = .ok (.aload_n 0, 1) := by decide +kernel
theorem dX11_areTrue_49 : decode cX11_areTrue 49 = .ok (.getfield 95, 3) := by decide +kernel
theorem dX11_areTrue_52 : decode cX11_areTrue 52 = .ok (.aload_n 0, 1) := by decide +kernel
theorem dX11_areTrue_53 : decode cX11_areTrue 53 = .ok (.getfield 64, 3) := by decide +kernel
theorem dX11_areTrue_56 : decode cX11_areTrue 56 = .ok (.aload_n 0, 1) := by decide +kernel
theorem dX11_areTrue_57 : decode cX11_areTrue 57 = .ok (.getfield 28, 3) := by decide +kernel
theorem dX11_areTrue_60 : decode cX11_areTrue 60 = .ok (.getfield 158, 3) := by decide +kernel
theorem dX11_areTrue_63 : decode cX11_areTrue 63 = .ok (.invokevirtual 252, 3) := by decide +kernel
theorem dX11_areTrue_66 : decode cX11_areTrue 66 = .ok (.goto 21, 3) := by decide +kernel
theorem dX11_areTrue_69 : decode cX11_areTrue 69 = .ok (.aload_n 0, 1) := by decide +kernel
theorem dX11_areTrue_70 : decode cX11_areTrue 70 = .ok (.getfield 95, 3) := by decide +kernel
theorem dX11_areTrue_73 : decode cX11_areTrue 73 = .ok (.aload_n 0, 1) := by decide +kernel
theorem dX11_areTrue_74 : decode cX11_areTrue 74 = .ok (.getfield 64, 3) := by decide +kernel
theorem dX11_areTrue_77 : decode cX11_areTrue 77 = .ok (.aload_n 0, 1) := by decide +kernel
theorem dX11_areTrue_78 : decode cX11_areTrue 78 = .ok (.getfield 28, 3) := by decide +kernel
theorem dX11_areTrue_81 : decode cX11_areTrue 81 = .ok (.getfield 158, 3) := by decide +kernel
theorem dX11_areTrue_84 : decode cX11_areTrue 84 = .ok (.invokevirtual 256, 3) := by decide +kernel
theorem dX11_areTrue_87 : decode cX11_areTrue 87 = .ok (.ireturn, 1) := by decide +kernel
set_option maxRecDepth 20000 in
theorem ggX11_odd_X10_couldBeOdd : GoodIn wsX11_odd wsX10_couldBeOdd := goodIn_r _ [6, 7, 8, 9, 5, 10, 11, 12, 13, 14, 15, 16, 17, 18, 19, 20, 21, 22, 23, 24, 25, 26, 27, 28, 29, 30, 31, 32, 33, 34, 35, 56, 57, 58, 59] (by decide +kernel) (by decide +kernel)
set_option maxRecDepth 20000 in
theorem gX11_odd_X10_couldBeOdd : GoodIn wsX11_odd (wsV RX11 259 RX10 yX10_couldBeOdd wsX10_couldBeOdd) := goodIn_app (goodIn_of _ (by decide +kernel)) ggX11_odd_X10_couldBeOdd
set_option maxRecDepth 20000 in
theorem ggX11_odd_X10_couldBeAlike : GoodIn wsX11_odd wsX10_couldBeAlike := goodIn_r _ [39, 17, 18, 19, 5, 20, 11, 12, 13, 21, 22, 23, 24, 25, 26, 27, 28, 29, 30, 31, 32, 33, 34, 35, 56, 57, 58, 59] (by decide +kernel) (by decide +kernel)
set_option maxRecDepth 20000 in
theorem gX11_odd_X10_couldBeAlike : GoodIn wsX11_odd (wsV RX11 263 RX10 yX10_couldBeAlike wsX10_couldBeAlike) := goodIn_app (goodIn_of _ (by decide +kernel)) ggX11_odd_X10_couldBeAlike
theorem dX11_odd_0 : decode cX11_odd 0 = .ok (.iload_n 1, 1) := by decide +kernel
theorem dX11_odd_1 : decode cX11_odd 1 = .ok (.tableswitch 61 0 2 #[27, 36, 45], 27) := by decide +kernel
theorem dX11_odd_28 : decode cX11_odd 28 = .ok (.aload_n 0, 1) := by decide +kernel
theorem dX11_odd_29 : decode cX11_odd 29 = .ok (.getfield 95, 3) := by decide +kernel
theorem dX11_odd_32 : decode cX11_odd 32 = .ok (.iconst 1, 1) := by decide +kernel
theorem dX11_odd_33 : decode cX11_odd 33 = .ok (.invokevirtual 259, 3) := by decide +kernel
theorem dX11_odd_36 : decode cX11_odd 36 = .ok (.ireturn, 1) := by decide +kernel
theorem dX11_odd_37 : decode cX11_odd 37 = .ok (.aload_n 0, 1) := by decide +kernel
theorem dX11_odd_38 : decode cX11_odd 38 = .ok (.getfield 95, 3) := by decide +kernel
theorem dX11_odd_41 : decode cX11_odd 41 = .ok (.iconst 0, 1) := by decide +kernel
theorem dX11_odd_42 : decode cX11_odd 42 = .ok (.invokevirtual 259, 3) := by decide +kernel
theorem dX11_odd_45 : decode cX11_odd 45 = .ok (.ireturn, 1) := by decide +kernel
theorem dX11_odd_46 : decode cX11_odd 46 = .ok (.aload_n 0, 1) := by decide +kernel
theorem dX11_odd_47 : decode cX11_odd 47 = .ok (.getfield 95, 3) := by decide +kernel
theorem dX11_odd_50 : decode cX11_odd 50 = .ok (.invokevirtual 263, 3) := by decide +kernel
theorem dX11_odd_53 : decode cX11_odd 53 = .ok (.ifCond .eq 7, 3) := by decide +kernel
theorem dX11_odd_56 : decode cX11_odd 56 = .ok (.iconst 1, 1) := by decide +kernel
theorem dX11_odd_57 : decode cX11_odd 57 = .ok (.goto 4, 3) := by decide +kernel
theorem dX11_odd_60 : decode cX11_odd 60 = .ok (.iconst 0, 1) := by decide +kernel
theorem dX11_odd_61 : decode cX11_odd 61 = .ok (.ireturn, 1) := by decide +kernel
theorem dX11_odd_62 : decode cX11_odd 62 = .ok (.iconst (-1), 1) := by decide +kernel
theorem dX11_odd_63 : decode cX11_odd 63 = .ok (.ireturn, 1) := by decide +kernel
set_option maxRecDepth 20000 in
theorem ggX11_heavier_X11_isWalker : GoodIn wsX11_heavier wsX11_isWalker := goodIn_r _ [8, 9, 10, 7, 11] (by decide +kernel) (by decide +kernel)
set_option maxRecDepth 20000 in
theorem gX11_heavier_X11_isWalker : GoodIn wsX11_heavier (va_wsS RX11 106 yX11_isWalker wsX11_isWalker) := goodIn_app (goodIn_of _ (by decide +kernel)) ggX11_heavier_X11_isWalker
set_option maxRecDepth 20000 in
theorem ggX11_heavier_X11_isWithin : GoodIn wsX11_heavier wsX11_isWithin := goodIn_r _ [11] (by decide +kernel) (by decide +kernel)
set_option maxRecDepth 20000 in
theorem gX11_heavier_X11_isWithin : GoodIn wsX11_heavier (va_wsS RX11 110 yX11_isWithin wsX11_isWithin) := goodIn_app (goodIn_of _ (by decide +kernel)) ggX11_heavier_X11_isWithin
set_option maxRecDepth 20000 in
theorem ggX11_heavier_X6_find : GoodIn wsX11_heavier wsX6_find := goodIn_r _ [16, 17, 18, 19, 20, 21, 22, 23, 24, 15, 25, 26, 27, 28, 29, 30, 31, 32, 33, 34, 35, 36, 7, 37, 38, 39, 40, 41, 42, 43, 44, 65, 66, 67, 68, 69, 70] (by decide +kernel) (by decide +kernel)
set_option maxRecDepth 20000 in
theorem gX11_heavier_X6_find : GoodIn wsX11_heavier (wsV RX11 266 RX6 yX6_find wsX6_find) := goodIn_app (goodIn_of _ (by decide +kernel)) ggX11_heavier_X6_find
set_option maxRecDepth 20000 in
theorem ggX11_heavier_X6_contradictsItself : GoodIn wsX11_heavier wsX6_contradictsItself := goodIn_r _ [48, 18, 36, 7, 37, 65, 66] (by decide +kernel) (by decide +kernel)
set_option maxRecDepth 20000 in
theorem gX11_heavier_X6_contradictsItself : GoodIn wsX11_heavier (wsV RX11 270 RX6 yX6_contradictsItself wsX6_contradictsItself) := goodIn_app (goodIn_of _ (by decide +kernel)) ggX11_heavier_X6_contradictsItself
theorem dX11_heavier_0 : decode cX11_heavier 0 = .ok (.iload_n 1, 1) := by decide +kernel
theorem dX11_heavier_1 : decode cX11_heavier 1 = .ok (.invokestatic 106, 3) := by decide +kernel
theorem dX11_heavier_4 : decode cX11_heavier 4 = .ok (.ifCond .eq 12, 3) := by decide +kernel
theorem dX11_heavier_7 : decode cX11_heavier 7 = .ok (.iload_n 2, 1) := by decide +kernel
theorem dX11_heavier_8 : decode cX11_heavier 8 = .ok (.iconst 0, 1) := by decide +kernel
theorem dX11_heavier_9 : decode cX11_heavier 9 = .ok (.iconst 1, 1) := by decide +kernel
theorem dX11_heavier_10 : decode cX11_heavier 10 = .ok (.invokestatic 110, 3) := by decide +kernel
theorem dX11_heavier_13 : decode cX11_heavier 13 = .ok (.ifCond .ne 5, 3) := by decide +kernel
theorem dX11_heavier_16 : decode cX11_heavier 16 = .ok (.iconst (-1), 1) := by decide +kernel
theorem dX11_heavier_17 : decode cX11_heavier 17 = .ok (.ireturn, 1) := by decide +kernel
theorem dX11_heavier_18 : decode cX11_heavier 18 = .ok (.aload_n 0, 1) := by decide +kernel
theorem dX11_heavier_19 : decode cX11_heavier 19 = .ok (.getfield 71, 3) := by decide +kernel
theorem dX11_heavier_22 : decode cX11_heavier 22 = .ok (.aload_n 0, 1) := by decide +kernel
theorem dX11_heavier_23 : decode cX11_heavier 23 = .ok (.getfield 95, 3) := by decide +kernel
theorem dX11_heavier_26 : decode cX11_heavier 26 = .ok (.invokevirtual 266, 3) := by decide +kernel
theorem dX11_heavier_29 : decode cX11_heavier 29 = .ok (.aload_n 0, 1) := by decide +kernel
theorem dX11_heavier_30 : decode cX11_heavier 30 = .ok (.getfield 71, 3) := by decide +kernel
theorem dX11_heavier_33 : decode cX11_heavier 33 = .ok (.invokevirtual 270, 3) := by decide +kernel
theorem dX11_heavier_36 : decode cX11_heavier 36 = .ok (.ifCond .eq 6, 3) := by decide +kernel
theorem dX11_heavier_39 : decode cX11_heavier 39 = .ok (.bipush (-3), 2) := by decide +kernel
theorem dX11_heavier_41 : decode cX11_heavier 41 = .ok (.ireturn, 1) := by decide +kernel
theorem dX11_heavier_42 : decode cX11_heavier 42 = .ok (.iload_n 2, 1) := by decide +kernel
theorem dX11_heavier_43 : decode cX11_heavier 43 = .ok (.ifCond .ne 15, 3) := by decide +kernel
theorem dX11_heavier_46 : decode cX11_heavier 46 = .ok (.aload_n 0, 1) := by decide +kernel
theorem dX11_heavier_47 : decode cX11_heavier 47 = .ok (.getfield 71, 3) := by decide +kernel
theorem dX11_heavier_50 : decode cX11_heavier 50 = .ok (.getfield 273, 3) := by decide +kernel
theorem dX11_heavier_53 : decode cX11_heavier 53 = .ok (.iload_n 1, 1) := by decide +kernel
theorem dX11_heavier_54 : decode cX11_heavier 54 = .ok (.iaload, 1) := by decide +kernel
theorem dX11_heavier_55 : decode cX11_heavier 55 = .ok (.goto 12, 3) := by decide +kernel
theorem dX11_heavier_58 : decode cX11_heavier 58 = .ok (.aload_n 0, 1) := by decide +kernel
theorem dX11_heavier_59 : decode cX11_heavier 59 = .ok (.getfield 71, 3) := by decide +kernel
theorem dX11_heavier_62 : decode cX11_heavier 62 = .ok (.getfield 276, 3) := by decide +kernel
theorem dX11_heavier_65 : decode cX11_heavier 65 = .ok (.iload_n 1, 1) := by decide +kernel
theorem dX11_heavier_66 : decode cX11_heavier 66 = .ok (.iaload, 1) := by decide +kernel
theorem dX11_heavier_67 : decode cX11_heavier 67 = .ok (.ireturn, 1) := by decide +kernel
set_option maxRecDepth 20000 in
theorem ggX11_pairs_X11_isWithin : GoodIn wsX11_pairs wsX11_isWithin := goodIn_r _ [6] (by decide +kernel) (by decide +kernel)
set_option maxRecDepth 20000 in
theorem gX11_pairs_X11_isWithin : GoodIn wsX11_pairs (va_wsS RX11 110 yX11_isWithin wsX11_isWithin) := goodIn_app (goodIn_of _ (by decide +kernel)) ggX11_pairs_X11_isWithin
set_option maxRecDepth 20000 in
theorem ggX11_pairs_X0_mostTwos : GoodIn wsX11_pairs wsX0_mostTwos := goodIn_r _ [11, 12, 13, 14, 15, 10, 16, 17, 18, 19, 5, 20, 37, 38, 39, 40, 41, 42, 43, 44, 45, 46, 47, 48, 49, 50] (by decide +kernel) (by decide +kernel)
set_option maxRecDepth 20000 in
theorem gX11_pairs_X0_mostTwos : GoodIn wsX11_pairs (wsV RX11 279 RX0 yX0_mostTwos wsX0_mostTwos) := goodIn_app (goodIn_of _ (by decide +kernel)) ggX11_pairs_X0_mostTwos
theorem dX11_pairs_0 : decode cX11_pairs 0 = .ok (.iload_n 1, 1) := by decide +kernel
theorem dX11_pairs_1 : decode cX11_pairs 1 = .ok (.iconst 0, 1) := by decide +kernel
theorem dX11_pairs_2 : decode cX11_pairs 2 = .ok (.sipush 999, 3) := by decide +kernel
theorem dX11_pairs_5 : decode cX11_pairs 5 = .ok (.invokestatic 110, 3) := by decide +kernel
theorem dX11_pairs_8 : decode cX11_pairs 8 = .ok (.ifCond .eq 18, 3) := by decide +kernel
theorem dX11_pairs_11 : decode cX11_pairs 11 = .ok (.aload_n 0, 1) := by decide +kernel
theorem dX11_pairs_12 : decode cX11_pairs 12 = .ok (.getfield 64, 3) := by decide +kernel
theorem dX11_pairs_15 : decode cX11_pairs 15 = .ok (.aload_n 0, 1) := by decide +kernel
theorem dX11_pairs_16 : decode cX11_pairs 16 = .ok (.getfield 28, 3) := by decide +kernel
theorem dX11_pairs_19 : decode cX11_pairs 19 = .ok (.iload_n 1, 1) := by decide +kernel
theorem dX11_pairs_20 : decode cX11_pairs 20 = .ok (.invokevirtual 279, 3) := by decide +kernel
theorem dX11_pairs_23 : decode cX11_pairs 23 = .ok (.goto 4, 3) := by decide +kernel
theorem dX11_pairs_26 : decode cX11_pairs 26 = .ok (.iconst (-1), 1) := by decide +kernel
theorem dX11_pairs_27 : decode cX11_pairs 27 = .ok (.ireturn, 1) := by decide +kernel
set_option maxRecDepth 20000 in
theorem ggX11_liars_X9_whoLies : GoodIn wsX11_liars wsX9_whoLies := goodIn_r _ [6, 7, 8, 9, 5, 10, 11, 12, 13, 14, 15, 16, 17, 18, 19, 20, 42, 43, 44, 45, 46, 47, 48, 49] (by decide +kernel) (by decide +kernel)
set_option maxRecDepth 20000 in
theorem gX11_liars_X9_whoLies : GoodIn wsX11_liars (wsV RX11 283 RX9 yX9_whoLies wsX9_whoLies) := goodIn_app (goodIn_of _ (by decide +kernel)) ggX11_liars_X9_whoLies
set_option maxRecDepth 20000 in
theorem ggX11_liars_X9_greatestLiar : GoodIn wsX11_liars wsX9_greatestLiar := goodIn_r _ [24, 7, 8, 9, 5, 10, 11, 12, 13, 14, 15, 16, 17, 18, 19, 20, 42, 43, 44, 45, 46, 47, 48, 49] (by decide +kernel) (by decide +kernel)
set_option maxRecDepth 20000 in
theorem gX11_liars_X9_greatestLiar : GoodIn wsX11_liars (wsV RX11 286 RX9 yX9_greatestLiar wsX9_greatestLiar) := goodIn_app (goodIn_of _ (by decide +kernel)) ggX11_liars_X9_greatestLiar
set_option maxRecDepth 20000 in
theorem ggX11_liars_X9_lieOf : GoodIn wsX11_liars wsX9_lieOf := goodIn_r _ [10, 11, 12, 13, 14, 15, 16, 17, 18, 19, 20, 42, 43, 44, 45, 46, 47, 48, 49] (by decide +kernel) (by decide +kernel)
set_option maxRecDepth 20000 in
theorem gX11_liars_X9_lieOf : GoodIn wsX11_liars (wsV RX11 289 RX9 yX9_lieOf wsX9_lieOf) := goodIn_app (goodIn_of _ (by decide +kernel)) ggX11_liars_X9_lieOf
theorem dX11_liars_0 : decode cX11_liars 0 = .ok (.iload_n 1, 1) := by decide +kernel
theorem dX11_liars_1 : decode cX11_liars 1 = .ok (.tableswitch 89 0 2 #[27, 35, 65], 27) := by decide +kernel
theorem dX11_liars_28 : decode cX11_liars 28 = .ok (.aload_n 0, 1) := by decide +kernel
theorem dX11_liars_29 : decode cX11_liars 29 = .ok (.getfield 28, 3) := by decide +kernel
theorem dX11_liars_32 : decode cX11_liars 32 = .ok (.invokevirtual 283, 3) := by decide +kernel
theorem dX11_liars_35 : decode cX11_liars 35 = .ok (.ireturn, 1) := by decide +kernel
theorem dX11_liars_36 : decode cX11_liars 36 = .ok (.aload_n 0, 1) := by decide +kernel
theorem dX11_liars_37 : decode cX11_liars 37 = .ok (.getfield 28, 3) := by decide +kernel
theorem dX11_liars_40 : decode cX11_liars 40 = .ok (.invokevirtual 286, 3) := by decide +kernel
theorem dX11_liars_43 : decode cX11_liars 43 = .ok (.iconst (-1), 1) := by decide +kernel
theorem dX11_liars_44 : decode cX11_liars 44 = .ok (.if_icmp .ne 7, 3) := by decide +kernel
theorem dX11_liars_47 : decode cX11_liars 47 = .ok (.iconst 0, 1) := by decide +kernel
theorem dX11_liars_48 : decode cX11_liars 48 = .ok (.goto 17, 3) := by decide +kernel
theorem dX11_liars_51 : decode cX11_liars 51 = .ok (.aload_n 0, 1) := by decide +kernel
theorem dX11_liars_52 : decode cX11_liars 52 = .ok (.getfield 28, 3) := by decide +kernel
theorem dX11_liars_55 : decode cX11_liars 55 = .ok (.aload_n 0, 1) := by decide +kernel
theorem dX11_liars_56 : decode cX11_liars 56 = .ok (.getfield 28, 3) := by decide +kernel
theorem dX11_liars_59 : decode cX11_liars 59 = .ok (.invokevirtual 286, 3) := by decide +kernel
theorem dX11_liars_62 : decode cX11_liars 62 = .ok (.invokevirtual 289, 3) := by decide +kernel
theorem dX11_liars_65 : decode cX11_liars 65 = .ok (.ireturn, 1) := by decide +kernel
theorem dX11_liars_66 : decode cX11_liars 66 = .ok (.aload_n 0, 1) := by decide +kernel
theorem dX11_liars_67 : decode cX11_liars 67 = .ok (.getfield 28, 3) := by decide +kernel
theorem dX11_liars_70 : decode cX11_liars 70 = .ok (.invokevirtual 286, 3) := by decide +kernel
theorem dX11_liars_73 : decode cX11_liars 73 = .ok (.iconst (-1), 1) := by decide +kernel
theorem dX11_liars_74 : decode cX11_liars 74 = .ok (.if_icmp .ne 8, 3) := by decide +kernel
theorem dX11_liars_77 : decode cX11_liars 77 = .ok (.bipush (-2), 2) := by decide +kernel
theorem dX11_liars_79 : decode cX11_liars 79 = .ok (.goto 10, 3) := by decide +kernel
theorem dX11_liars_82 : decode cX11_liars 82 = .ok (.aload_n 0, 1) := by decide +kernel
theorem dX11_liars_83 : decode cX11_liars 83 = .ok (.getfield 28, 3) := by decide +kernel
theorem dX11_liars_86 : decode cX11_liars 86 = .ok (.invokevirtual 286, 3) := by decide +kernel
theorem dX11_liars_89 : decode cX11_liars 89 = .ok (.ireturn, 1) := by decide +kernel
theorem dX11_liars_90 : decode cX11_liars 90 = .ok (.iconst (-1), 1) := by decide +kernel
theorem dX11_liars_91 : decode cX11_liars 91 = .ok (.ireturn, 1) := by decide +kernel
set_option maxRecDepth 20000 in
theorem ggX11_teams_X11_isWithin : GoodIn wsX11_teams wsX11_isWithin := goodIn_r _ [8] (by decide +kernel) (by decide +kernel)
set_option maxRecDepth 20000 in
theorem gX11_teams_X11_isWithin : GoodIn wsX11_teams (va_wsS RX11 110 yX11_isWithin wsX11_isWithin) := goodIn_app (goodIn_of _ (by decide +kernel)) ggX11_teams_X11_isWithin
set_option maxRecDepth 20000 in
theorem ggX11_teams_X0_weigh : GoodIn wsX11_teams wsX0_weigh := goodIn_r _ [13, 14, 15, 16, 17, 12, 18, 70, 71, 72, 73, 74, 75] (by decide +kernel) (by decide +kernel)
set_option maxRecDepth 20000 in
theorem gX11_teams_X0_weigh : GoodIn wsX11_teams (wsV RX11 215 RX0 yX0_weigh wsX0_weigh) := goodIn_app (goodIn_of _ (by decide +kernel)) ggX11_teams_X0_weigh
set_option maxRecDepth 20000 in
theorem ggX11_teams_X0_evenTeam : GoodIn wsX11_teams wsX0_evenTeam := goodIn_r _ [22, 23, 24, 25, 12, 26, 14, 15, 27, 28, 29, 30, 31, 32, 33, 34, 35, 36, 37, 38, 39, 40, 41, 42, 43, 44, 70, 71, 72, 73, 74, 75] (by decide +kernel) (by decide +kernel)
set_option maxRecDepth 20000 in
theorem gX11_teams_X0_evenTeam : GoodIn wsX11_teams (wsV RX11 292 RX0 yX0_evenTeam wsX0_evenTeam) := goodIn_app (goodIn_of _ (by decide +kernel)) ggX11_teams_X0_evenTeam
set_option maxRecDepth 20000 in
theorem ggX11_teams_X0_unevenness : GoodIn wsX11_teams wsX0_unevenness := goodIn_r _ [37, 38, 39, 40, 41, 23, 24, 25, 12, 26, 14, 15, 70, 71, 72, 73, 74, 75] (by decide +kernel) (by decide +kernel)
set_option maxRecDepth 20000 in
theorem gX11_teams_X0_unevenness : GoodIn wsX11_teams (wsV RX11 295 RX0 yX0_unevenness wsX0_unevenness) := goodIn_app (goodIn_of _ (by decide +kernel)) ggX11_teams_X0_unevenness
theorem dX11_teams_0 : decode cX11_teams 0 = .ok (.iload_n 1, 1) := by decide +kernel
theorem dX11_teams_1 : decode cX11_teams 1 = .ok (.iconst 0, 1) := by decide +kernel
theorem dX11_teams_2 : decode cX11_teams 2 = .ok (.iconst 1, 1) := by decide +kernel
theorem dX11_teams_3 : decode cX11_teams 3 = .ok (.invokestatic 110, 3) := by decide +kernel
theorem dX11_teams_6 : decode cX11_teams 6 = .ok (.ifCond .ne 5, 3) := by decide +kernel
theorem dX11_teams_9 : decode cX11_teams 9 = .ok (.iconst (-1), 1) := by decide +kernel
theorem dX11_teams_10 : decode cX11_teams 10 = .ok (.ireturn, 1) := by decide +kernel
theorem dX11_teams_11 : decode cX11_teams 11 = .ok (.aload_n 0, 1) := by decide +kernel
theorem dX11_teams_12 : decode cX11_teams 12 = .ok (.getfield 64, 3) := by decide +kernel
theorem dX11_teams_15 : decode cX11_teams 15 = .ok (.aload_n 0, 1) := by decide +kernel
theorem dX11_teams_16 : decode cX11_teams 16 = .ok (.getfield 28, 3) := by decide +kernel
theorem dX11_teams_19 : decode cX11_teams 19 = .ok (.getfield 211, 3) := by decide +kernel
theorem dX11_teams_22 : decode cX11_teams 22 = .ok (.invokevirtual 215, 3) := by decide +kernel
theorem dX11_teams_25 : decode cX11_teams 25 = .ok (.aload_n 0, 1) := by decide +kernel
theorem dX11_teams_26 : decode cX11_teams 26 = .ok (.getfield 64, 3) := by decide +kernel
theorem dX11_teams_29 : decode cX11_teams 29 = .ok (.aload_n 0, 1) := by decide +kernel
theorem dX11_teams_30 : decode cX11_teams 30 = .ok (.getfield 28, 3) := by decide +kernel
theorem dX11_teams_33 : decode cX11_teams 33 = .ok (.getfield 158, 3) := by decide +kernel
theorem dX11_teams_36 : decode cX11_teams 36 = .ok (.invokevirtual 292, 3) := by decide +kernel
theorem dX11_teams_39 : decode cX11_teams 39 = .ok (.istore_n 2, 1) := by decide +kernel
theorem dX11_teams_40 : decode cX11_teams 40 = .ok (.iload_n 1, 1) := by decide +kernel
theorem dX11_teams_41 : decode cX11_teams 41 = .ok (.iconst 1, 1) := by decide +kernel
theorem dX11_teams_42 : decode cX11_teams 42 = .ok (.if_icmp .ne 7, 3) := by decide +kernel
theorem dX11_teams_45 : decode cX11_teams 45 = .ok (.iload_n 2, 1) := by decide +kernel
theorem dX11_teams_46 : decode cX11_teams 46 = .ok (.goto 18, 3) := by decide +kernel
theorem dX11_teams_49 : decode cX11_teams 49 = .ok (.aload_n 0, 1) := by decide +kernel
theorem dX11_teams_50 : decode cX11_teams 50 = .ok (.getfield 64, 3) := by decide +kernel
theorem dX11_teams_53 : decode cX11_teams 53 = .ok (.iload_n 2, 1) := by decide +kernel
theorem dX11_teams_54 : decode cX11_teams 54 = .ok (.aload_n 0, 1) := by decide +kernel
theorem dX11_teams_55 : decode cX11_teams 55 = .ok (.getfield 28, 3) := by decide +kernel
theorem dX11_teams_58 : decode cX11_teams 58 = .ok (.getfield 158, 3) := by decide +kernel
theorem dX11_teams_61 : decode cX11_teams 61 = .ok (.invokevirtual 295, 3) := by decide +kernel
theorem dX11_teams_64 : decode cX11_teams 64 = .ok (.ireturn, 1) := by decide +kernel
set_option maxRecDepth 20000 in
theorem ggX11_share_X9_knows : GoodIn wsX11_share wsX9_knows := goodIn_r _ [7, 8, 9, 10, 11, 12, 13, 14, 15, 16, 42, 43, 44, 45, 46, 47, 48, 49] (by decide +kernel) (by decide +kernel)
set_option maxRecDepth 20000 in
theorem gX11_share_X9_knows : GoodIn wsX11_share (wsV RX11 208 RX9 yX9_knows wsX9_knows) := goodIn_app (goodIn_of _ (by decide +kernel)) ggX11_share_X9_knows
set_option maxRecDepth 20000 in
theorem ggX11_share_X11_isWithin : GoodIn wsX11_share wsX11_isWithin := goodIn_r _ [14] (by decide +kernel) (by decide +kernel)
set_option maxRecDepth 20000 in
theorem gX11_share_X11_isWithin : GoodIn wsX11_share (va_wsS RX11 110 yX11_isWithin wsX11_isWithin) := goodIn_app (goodIn_of _ (by decide +kernel)) ggX11_share_X11_isWithin
set_option maxRecDepth 20000 in
theorem ggX11_share_X9_partOf : GoodIn wsX11_share wsX9_partOf := goodIn_r _ [20, 21, 8, 22, 23, 24, 6, 25, 15, 10, 16, 42, 43, 44, 45, 46, 47, 48, 49] (by decide +kernel) (by decide +kernel)
set_option maxRecDepth 20000 in
theorem gX11_share_X9_partOf : GoodIn wsX11_share (wsV RX11 299 RX9 yX9_partOf wsX9_partOf) := goodIn_app (goodIn_of _ (by decide +kernel)) ggX11_share_X9_partOf
theorem dX11_share_0 : decode cX11_share 0 = .ok (.aload_n 0, 1) := by decide +kernel
theorem dX11_share_1 : decode cX11_share 1 = .ok (.getfield 28, 3) := by decide +kernel
theorem dX11_share_4 : decode cX11_share 4 = .ok (.iload_n 2, 1) := by decide +kernel
theorem dX11_share_5 : decode cX11_share 5 = .ok (.invokevirtual 208, 3) := by decide +kernel
theorem dX11_share_8 : decode cX11_share 8 = .ok (.ifCond .eq 26, 3) := by decide +kernel
theorem dX11_share_11 : decode cX11_share 11 = .ok (.iload_n 1, 1) := by decide +kernel
theorem dX11_share_12 : decode cX11_share 12 = .ok (.iconst 0, 1) := by decide +kernel
theorem dX11_share_13 : decode cX11_share 13 = .ok (.ldc_w 298, 3) := by decide +kernel
theorem dX11_share_16 : decode cX11_share 16 = .ok (.invokestatic 110, 3) := by decide +kernel
theorem dX11_share_19 : decode cX11_share 19 = .ok (.ifCond .eq 15, 3) := by decide +kernel
theorem dX11_share_22 : decode cX11_share 22 = .ok (.aload_n 0, 1) := by decide +kernel
theorem dX11_share_23 : decode cX11_share 23 = .ok (.getfield 28, 3) := by decide +kernel
theorem dX11_share_26 : decode cX11_share 26 = .ok (.iload_n 1, 1) := by decide +kernel
theorem dX11_share_27 : decode cX11_share 27 = .ok (.iload_n 2, 1) := by decide +kernel
theorem dX11_share_28 : decode cX11_share 28 = .ok (.invokevirtual 299, 3) := by decide +kernel
theorem dX11_share_31 : decode cX11_share 31 = .ok (.goto 4, 3) := by decide +kernel
theorem dX11_share_34 : decode cX11_share 34 = .ok (.iconst (-1), 1) := by decide +kernel
theorem dX11_share_35 : decode cX11_share 35 = .ok (.ireturn, 1) := by decide +kernel
set_option maxRecDepth 20000 in
theorem ggX11_stones_X8_offers : GoodIn wsX11_stones wsX8_offers := goodIn_r _ [7, 8, 9, 10, 11, 68, 69] (by decide +kernel) (by decide +kernel)
set_option maxRecDepth 20000 in
theorem gX11_stones_X8_offers : GoodIn wsX11_stones (wsV RX11 136 RX8 yX8_offers wsX8_offers) := goodIn_app (goodIn_of _ (by decide +kernel)) ggX11_stones_X8_offers
set_option maxRecDepth 20000 in
theorem ggX11_stones_X5_take : GoodIn wsX11_stones wsX5_take := goodIn_r _ [16, 17, 18, 19, 20, 21, 22, 23, 24, 25, 6, 26, 8, 27, 28, 29, 30, 31, 70, 71, 72, 73, 74, 68, 69] (by decide +kernel) (by decide +kernel)
set_option maxRecDepth 20000 in
theorem gX11_stones_X5_take : GoodIn wsX11_stones (wsV RX11 302 RX5 yX5_take wsX5_take) := goodIn_app (goodIn_of _ (by decide +kernel)) ggX11_stones_X5_take
set_option maxRecDepth 20000 in
theorem ggX11_stones_X5_hasZero : GoodIn wsX11_stones wsX5_hasZero := goodIn_r _ [35, 21, 22, 70, 71, 72, 73, 74] (by decide +kernel) (by decide +kernel)
set_option maxRecDepth 20000 in
theorem gX11_stones_X5_hasZero : GoodIn wsX11_stones (wsV RX11 306 RX5 yX5_hasZero wsX5_hasZero) := goodIn_app (goodIn_of _ (by decide +kernel)) ggX11_stones_X5_hasZero
set_option maxRecDepth 20000 in
theorem ggX11_stones_X5_weighsUpTo : GoodIn wsX11_stones wsX5_weighsUpTo := goodIn_r _ [39, 40, 41, 42, 43, 44, 45, 46, 47, 15, 48, 21, 49, 50, 19, 51, 17, 18, 20, 22, 70, 71, 72, 73, 74] (by decide +kernel) (by decide +kernel)
set_option maxRecDepth 20000 in
theorem gX11_stones_X5_weighsUpTo : GoodIn wsX11_stones (wsV RX11 309 RX5 yX5_weighsUpTo wsX5_weighsUpTo) := goodIn_app (goodIn_of _ (by decide +kernel)) ggX11_stones_X5_weighsUpTo
theorem dX11_stones_0 : decode cX11_stones 0 = .ok (.aload_n 0, 1) := by decide +kernel
theorem dX11_stones_1 : decode cX11_stones 1 = .ok (.getfield 10, 3) := by decide +kernel
theorem dX11_stones_4 : decode cX11_stones 4 = .ok (.iload_n 1, 1) := by decide +kernel
theorem dX11_stones_5 : decode cX11_stones 5 = .ok (.iconst 1, 1) := by decide +kernel
theorem dX11_stones_6 : decode cX11_stones 6 = .ok (.bipush 8, 2) := by decide +kernel
theorem dX11_stones_8 : decode cX11_stones 8 = .ok (.invokevirtual 136, 3) := by decide +kernel
theorem dX11_stones_11 : decode cX11_stones 11 = .ok (.ifCond .ne 5, 3) := by decide +kernel
theorem dX11_stones_14 : decode cX11_stones 14 = .ok (.iconst (-1), 1) := by decide +kernel
theorem dX11_stones_15 : decode cX11_stones 15 = .ok (.ireturn, 1) := by decide +kernel
theorem dX11_stones_16 : decode cX11_stones 16 = .ok (.aload_n 0, 1) := by decide +kernel
theorem dX11_stones_17 : decode cX11_stones 17 = .ok (.getfield 78, 3) := by decide +kernel
theorem dX11_stones_20 : decode cX11_stones 20 = .ok (.aload_n 0, 1) := by decide +kernel
theorem dX11_stones_21 : decode cX11_stones 21 = .ok (.getfield 10, 3) := by decide +kernel
theorem dX11_stones_24 : decode cX11_stones 24 = .ok (.iload_n 1, 1) := by decide +kernel
theorem dX11_stones_25 : decode cX11_stones 25 = .ok (.invokevirtual 302, 3) := by decide +kernel
theorem dX11_stones_28 : decode cX11_stones 28 = .ok (.aload_n 0, 1) := by decide +kernel
theorem dX11_stones_29 : decode cX11_stones 29 = .ok (.getfield 78, 3) := by decide +kernel
theorem dX11_stones_32 : decode cX11_stones 32 = .ok (.invokevirtual 306, 3) := by decide +kernel
theorem dX11_stones_35 : decode cX11_stones 35 = .ok (.ifCond .eq 8, 3) := by decide +kernel
theorem dX11_stones_38 : decode cX11_stones 38 = .ok (.bipush (-2), 2) := by decide +kernel
theorem dX11_stones_40 : decode cX11_stones 40 = .ok (.goto 11, 3) := by decide +kernel
theorem dX11_stones_43 : decode cX11_stones 43 = .ok (.aload_n 0, 1) := by decide +kernel
theorem dX11_stones_44 : decode cX11_stones 44 = .ok (.getfield 78, 3) := by decide +kernel
theorem dX11_stones_47 : decode cX11_stones 47 = .ok (.iload_n 2, 1) := by decide +kernel
theorem dX11_stones_48 : decode cX11_stones 48 = .ok (.invokevirtual 309, 3) := by decide +kernel
theorem dX11_stones_51 : decode cX11_stones 51 = .ok (.ireturn, 1) := by decide +kernel
set_option maxRecDepth 20000 in
theorem ggX11_fewest_X11_isWithin : GoodIn wsX11_fewest wsX11_isWithin := goodIn_r _ [6] (by decide +kernel) (by decide +kernel)
set_option maxRecDepth 20000 in
theorem gX11_fewest_X11_isWithin : GoodIn wsX11_fewest (va_wsS RX11 110 yX11_isWithin wsX11_isWithin) := goodIn_app (goodIn_of _ (by decide +kernel)) ggX11_fewest_X11_isWithin
set_option maxRecDepth 20000 in
theorem ggX11_fewest_X8_offers : GoodIn wsX11_fewest wsX8_offers := goodIn_r _ [11, 12, 4, 5, 6, 62, 63] (by decide +kernel) (by decide +kernel)
set_option maxRecDepth 20000 in
theorem gX11_fewest_X8_offers : GoodIn wsX11_fewest (wsV RX11 136 RX8 yX8_offers wsX8_offers) := goodIn_app (goodIn_of _ (by decide +kernel)) ggX11_fewest_X8_offers
set_option maxRecDepth 20000 in
theorem ggX11_fewest_X5_take : GoodIn wsX11_fewest wsX5_take := goodIn_r _ [17, 18, 19, 20, 21, 22, 23, 24, 25, 26, 10, 27, 12, 28, 29, 30, 31, 32, 64, 65, 66, 67, 68, 62, 63] (by decide +kernel) (by decide +kernel)
set_option maxRecDepth 20000 in
theorem gX11_fewest_X5_take : GoodIn wsX11_fewest (wsV RX11 302 RX5 yX5_take wsX5_take) := goodIn_app (goodIn_of _ (by decide +kernel)) ggX11_fewest_X5_take
set_option maxRecDepth 20000 in
theorem ggX11_fewest_X5_hasZero : GoodIn wsX11_fewest wsX5_hasZero := goodIn_r _ [36, 22, 23, 64, 65, 66, 67, 68] (by decide +kernel) (by decide +kernel)
set_option maxRecDepth 20000 in
theorem gX11_fewest_X5_hasZero : GoodIn wsX11_fewest (wsV RX11 306 RX5 yX5_hasZero wsX5_hasZero) := goodIn_app (goodIn_of _ (by decide +kernel)) ggX11_fewest_X5_hasZero
set_option maxRecDepth 20000 in
theorem ggX11_fewest_X5_fewestFor : GoodIn wsX11_fewest wsX5_fewestFor := goodIn_r _ [40, 41, 42, 43, 44, 16, 45, 18, 19, 20, 21, 22, 23, 64, 65, 66, 67, 68] (by decide +kernel) (by decide +kernel)
set_option maxRecDepth 20000 in
theorem gX11_fewest_X5_fewestFor : GoodIn wsX11_fewest (wsV RX11 312 RX5 yX5_fewestFor wsX5_fewestFor) := goodIn_app (goodIn_of _ (by decide +kernel)) ggX11_fewest_X5_fewestFor
theorem dX11_fewest_0 : decode cX11_fewest 0 = .ok (.iload_n 2, 1) := by decide +kernel
theorem dX11_fewest_1 : decode cX11_fewest 1 = .ok (.iconst 1, 1) := by decide +kernel
theorem dX11_fewest_2 : decode cX11_fewest 2 = .ok (.sipush 2040, 3) := by decide +kernel
theorem dX11_fewest_5 : decode cX11_fewest 5 = .ok (.invokestatic 110, 3) := by decide +kernel
theorem dX11_fewest_8 : decode cX11_fewest 8 = .ok (.ifCond .eq 17, 3) := by decide +kernel
theorem dX11_fewest_11 : decode cX11_fewest 11 = .ok (.aload_n 0, 1) := by decide +kernel
theorem dX11_fewest_12 : decode cX11_fewest 12 = .ok (.getfield 10, 3) := by decide +kernel
theorem dX11_fewest_15 : decode cX11_fewest 15 = .ok (.iload_n 1, 1) := by decide +kernel
theorem dX11_fewest_16 : decode cX11_fewest 16 = .ok (.iconst 1, 1) := by decide +kernel
theorem dX11_fewest_17 : decode cX11_fewest 17 = .ok (.bipush 8, 2) := by decide +kernel
theorem dX11_fewest_19 : decode cX11_fewest 19 = .ok (.invokevirtual 136, 3) := by decide +kernel
theorem dX11_fewest_22 : decode cX11_fewest 22 = .ok (.ifCond .ne 5, 3) := by decide +kernel
theorem dX11_fewest_25 : decode cX11_fewest 25 = .ok (.iconst (-1), 1) := by decide +kernel
theorem dX11_fewest_26 : decode cX11_fewest 26 = .ok (.ireturn, 1) := by decide +kernel
theorem dX11_fewest_27 : decode cX11_fewest 27 = .ok (.aload_n 0, 1) := by decide +kernel
theorem dX11_fewest_28 : decode cX11_fewest 28 = .ok (.getfield 78, 3) := by decide +kernel
theorem dX11_fewest_31 : decode cX11_fewest 31 = .ok (.aload_n 0, 1) := by decide +kernel
theorem dX11_fewest_32 : decode cX11_fewest 32 = .ok (.getfield 10, 3) := by decide +kernel
theorem dX11_fewest_35 : decode cX11_fewest 35 = .ok (.iload_n 1, 1) := by decide +kernel
theorem dX11_fewest_36 : decode cX11_fewest 36 = .ok (.invokevirtual 302, 3) := by decide +kernel
theorem dX11_fewest_39 : decode cX11_fewest 39 = .ok (.aload_n 0, 1) := by decide +kernel
theorem dX11_fewest_40 : decode cX11_fewest 40 = .ok (.getfield 78, 3) := by decide +kernel
theorem dX11_fewest_43 : decode cX11_fewest 43 = .ok (.invokevirtual 306, 3) := by decide +kernel
theorem dX11_fewest_46 : decode cX11_fewest 46 = .ok (.ifCond .eq 6, 3) := by decide +kernel
theorem dX11_fewest_49 : decode cX11_fewest 49 = .ok (.bipush (-3), 2) := by decide +kernel
theorem dX11_fewest_51 : decode cX11_fewest 51 = .ok (.ireturn, 1) := by decide +kernel
theorem dX11_fewest_52 : decode cX11_fewest 52 = .ok (.aload_n 0, 1) := by decide +kernel
theorem dX11_fewest_53 : decode cX11_fewest 53 = .ok (.getfield 78, 3) := by decide +kernel
theorem dX11_fewest_56 : decode cX11_fewest 56 = .ok (.iload_n 2, 1) := by decide +kernel
theorem dX11_fewest_57 : decode cX11_fewest 57 = .ok (.invokevirtual 312, 3) := by decide +kernel
theorem dX11_fewest_60 : decode cX11_fewest 60 = .ok (.istore_n 3, 1) := by decide +kernel
theorem dX11_fewest_61 : decode cX11_fewest 61 = .ok (.iload_n 3, 1) := by decide +kernel
theorem dX11_fewest_62 : decode cX11_fewest 62 = .ok (.iconst (-1), 1) := by decide +kernel
theorem dX11_fewest_63 : decode cX11_fewest 63 = .ok (.if_icmp .ne 8, 3) := by decide +kernel
theorem dX11_fewest_66 : decode cX11_fewest 66 = .ok (.bipush (-2), 2) := by decide +kernel
theorem dX11_fewest_68 : decode cX11_fewest 68 = .ok (.goto 4, 3) := by decide +kernel
theorem dX11_fewest_71 : decode cX11_fewest 71 = .ok (.iload_n 3, 1) := by decide +kernel
theorem dX11_fewest_72 : decode cX11_fewest 72 = .ok (.ireturn, 1) := by decide +kernel
set_option maxRecDepth 20000 in
theorem ggX11_seesaw_X8_offers : GoodIn wsX11_seesaw wsX8_offers := goodIn_r _ [7, 8, 9, 10, 11, 66, 67] (by decide +kernel) (by decide +kernel)
set_option maxRecDepth 20000 in
theorem gX11_seesaw_X8_offers : GoodIn wsX11_seesaw (wsV RX11 136 RX8 yX8_offers wsX8_offers) := goodIn_app (goodIn_of _ (by decide +kernel)) ggX11_seesaw_X8_offers
set_option maxRecDepth 20000 in
theorem ggX11_seesaw_X5_take : GoodIn wsX11_seesaw wsX5_take := goodIn_r _ [16, 17, 18, 19, 20, 21, 22, 23, 24, 25, 6, 26, 8, 27, 28, 29, 30, 31, 68, 69, 70, 71, 72, 66, 67] (by decide +kernel) (by decide +kernel)
set_option maxRecDepth 20000 in
theorem gX11_seesaw_X5_take : GoodIn wsX11_seesaw (wsV RX11 302 RX5 yX5_take wsX5_take) := goodIn_app (goodIn_of _ (by decide +kernel)) ggX11_seesaw_X5_take
set_option maxRecDepth 20000 in
theorem ggX11_seesaw_X5_hasZero : GoodIn wsX11_seesaw wsX5_hasZero := goodIn_r _ [35, 21, 22, 68, 69, 70, 71, 72] (by decide +kernel) (by decide +kernel)
set_option maxRecDepth 20000 in
theorem gX11_seesaw_X5_hasZero : GoodIn wsX11_seesaw (wsV RX11 306 RX5 yX5_hasZero wsX5_hasZero) := goodIn_app (goodIn_of _ (by decide +kernel)) ggX11_seesaw_X5_hasZero
set_option maxRecDepth 20000 in
theorem ggX11_seesaw_X5_evenAtBest : GoodIn wsX11_seesaw wsX5_evenAtBest := goodIn_r _ [39, 40, 41, 42, 43, 15, 44, 21, 45, 46, 19, 47, 17, 18, 20, 22, 48, 10, 49, 68, 69, 70, 71, 72] (by decide +kernel) (by decide +kernel)
set_option maxRecDepth 20000 in
theorem gX11_seesaw_X5_evenAtBest : GoodIn wsX11_seesaw (wsV RX11 315 RX5 yX5_evenAtBest wsX5_evenAtBest) := goodIn_app (goodIn_of _ (by decide +kernel)) ggX11_seesaw_X5_evenAtBest
theorem dX11_seesaw_0 : decode cX11_seesaw 0 = .ok (.aload_n 0, 1) := by decide +kernel
theorem dX11_seesaw_1 : decode cX11_seesaw 1 = .ok (.getfield 10, 3) := by decide +kernel
theorem dX11_seesaw_4 : decode cX11_seesaw 4 = .ok (.iload_n 1, 1) := by decide +kernel
theorem dX11_seesaw_5 : decode cX11_seesaw 5 = .ok (.iconst 1, 1) := by decide +kernel
theorem dX11_seesaw_6 : decode cX11_seesaw 6 = .ok (.iconst 5, 1) := by decide +kernel
theorem dX11_seesaw_7 : decode cX11_seesaw 7 = .ok (.invokevirtual 136, 3) := by decide +kernel
theorem dX11_seesaw_10 : decode cX11_seesaw 10 = .ok (.ifCond .ne 5, 3) := by decide +kernel
theorem dX11_seesaw_13 : decode cX11_seesaw 13 = .ok (.iconst (-1), 1) := by decide +kernel
theorem dX11_seesaw_14 : decode cX11_seesaw 14 = .ok (.ireturn, 1) := by decide +kernel
theorem dX11_seesaw_15 : decode cX11_seesaw 15 = .ok (.aload_n 0, 1) := by decide +kernel
theorem dX11_seesaw_16 : decode cX11_seesaw 16 = .ok (.getfield 78, 3) := by decide +kernel
theorem dX11_seesaw_19 : decode cX11_seesaw 19 = .ok (.aload_n 0, 1) := by decide +kernel
theorem dX11_seesaw_20 : decode cX11_seesaw 20 = .ok (.getfield 10, 3) := by decide +kernel
theorem dX11_seesaw_23 : decode cX11_seesaw 23 = .ok (.iload_n 1, 1) := by decide +kernel
theorem dX11_seesaw_24 : decode cX11_seesaw 24 = .ok (.invokevirtual 302, 3) := by decide +kernel
theorem dX11_seesaw_27 : decode cX11_seesaw 27 = .ok (.aload_n 0, 1) := by decide +kernel
theorem dX11_seesaw_28 : decode cX11_seesaw 28 = .ok (.getfield 78, 3) := by decide +kernel
theorem dX11_seesaw_31 : decode cX11_seesaw 31 = .ok (.invokevirtual 306, 3) := by decide +kernel
theorem dX11_seesaw_34 : decode cX11_seesaw 34 = .ok (.ifCond .eq 8, 3) := by decide +kernel
theorem dX11_seesaw_37 : decode cX11_seesaw 37 = .ok (.bipush (-2), 2) := by decide +kernel
theorem dX11_seesaw_39 : decode cX11_seesaw 39 = .ok (.goto 10, 3) := by decide +kernel
theorem dX11_seesaw_42 : decode cX11_seesaw 42 = .ok (.aload_n 0, 1) := by decide +kernel
theorem dX11_seesaw_43 : decode cX11_seesaw 43 = .ok (.getfield 78, 3) := by decide +kernel
theorem dX11_seesaw_46 : decode cX11_seesaw 46 = .ok (.invokevirtual 315, 3) := by decide +kernel
theorem dX11_seesaw_49 : decode cX11_seesaw 49 = .ok (.ireturn, 1) := by decide +kernel
set_option maxRecDepth 20000 in
theorem ggX11_row_X11_isWithin : GoodIn wsX11_row wsX11_isWithin := goodIn_r _ [6] (by decide +kernel) (by decide +kernel)
set_option maxRecDepth 20000 in
theorem gX11_row_X11_isWithin : GoodIn wsX11_row (va_wsS RX11 110 yX11_isWithin wsX11_isWithin) := goodIn_app (goodIn_of _ (by decide +kernel)) ggX11_row_X11_isWithin
set_option maxRecDepth 20000 in
theorem ggX11_row_X8_offers : GoodIn wsX11_row wsX8_offers := goodIn_r _ [11, 12, 4, 5, 6, 57, 58] (by decide +kernel) (by decide +kernel)
set_option maxRecDepth 20000 in
theorem gX11_row_X8_offers : GoodIn wsX11_row (wsV RX11 136 RX8 yX8_offers wsX8_offers) := goodIn_app (goodIn_of _ (by decide +kernel)) ggX11_row_X8_offers
set_option maxRecDepth 20000 in
theorem ggX11_row_X5_take : GoodIn wsX11_row wsX5_take := goodIn_r _ [17, 18, 19, 20, 21, 22, 23, 24, 25, 26, 10, 27, 12, 28, 29, 30, 31, 32, 59, 60, 61, 62, 63, 57, 58] (by decide +kernel) (by decide +kernel)
set_option maxRecDepth 20000 in
theorem gX11_row_X5_take : GoodIn wsX11_row (wsV RX11 302 RX5 yX5_take wsX5_take) := goodIn_app (goodIn_of _ (by decide +kernel)) ggX11_row_X5_take
set_option maxRecDepth 20000 in
theorem ggX11_row_X5_mostThatRise : GoodIn wsX11_row wsX5_mostThatRise := goodIn_r _ [36, 22, 37, 38, 39, 20, 40, 23, 59, 60, 61, 62, 63] (by decide +kernel) (by decide +kernel)
set_option maxRecDepth 20000 in
theorem gX11_row_X5_mostThatRise : GoodIn wsX11_row (wsV RX11 318 RX5 yX5_mostThatRise wsX5_mostThatRise) := goodIn_app (goodIn_of _ (by decide +kernel)) ggX11_row_X5_mostThatRise
theorem dX11_row_0 : decode cX11_row 0 = .ok (.iload_n 2, 1) := by decide +kernel
theorem dX11_row_1 : decode cX11_row 1 = .ok (.iconst 0, 1) := by decide +kernel
theorem dX11_row_2 : decode cX11_row 2 = .ok (.iconst 1, 1) := by decide +kernel
theorem dX11_row_3 : decode cX11_row 3 = .ok (.invokestatic 110, 3) := by decide +kernel
theorem dX11_row_6 : decode cX11_row 6 = .ok (.ifCond .eq 17, 3) := by decide +kernel
theorem dX11_row_9 : decode cX11_row 9 = .ok (.aload_n 0, 1) := by decide +kernel
theorem dX11_row_10 : decode cX11_row 10 = .ok (.getfield 10, 3) := by decide +kernel
theorem dX11_row_13 : decode cX11_row 13 = .ok (.iload_n 1, 1) := by decide +kernel
theorem dX11_row_14 : decode cX11_row 14 = .ok (.iconst 1, 1) := by decide +kernel
theorem dX11_row_15 : decode cX11_row 15 = .ok (.bipush 16, 2) := by decide +kernel
theorem dX11_row_17 : decode cX11_row 17 = .ok (.invokevirtual 136, 3) := by decide +kernel
theorem dX11_row_20 : decode cX11_row 20 = .ok (.ifCond .ne 5, 3) := by decide +kernel
theorem dX11_row_23 : decode cX11_row 23 = .ok (.iconst (-1), 1) := by decide +kernel
theorem dX11_row_24 : decode cX11_row 24 = .ok (.ireturn, 1) := by decide +kernel
theorem dX11_row_25 : decode cX11_row 25 = .ok (.aload_n 0, 1) := by decide +kernel
theorem dX11_row_26 : decode cX11_row 26 = .ok (.getfield 78, 3) := by decide +kernel
theorem dX11_row_29 : decode cX11_row 29 = .ok (.aload_n 0, 1) := by decide +kernel
theorem dX11_row_30 : decode cX11_row 30 = .ok (.getfield 10, 3) := by decide +kernel
theorem dX11_row_33 : decode cX11_row 33 = .ok (.iload_n 1, 1) := by decide +kernel
theorem dX11_row_34 : decode cX11_row 34 = .ok (.invokevirtual 302, 3) := by decide +kernel
theorem dX11_row_37 : decode cX11_row 37 = .ok (.iload_n 2, 1) := by decide +kernel
theorem dX11_row_38 : decode cX11_row 38 = .ok (.ifCond .ne 16, 3) := by decide +kernel
theorem dX11_row_41 : decode cX11_row 41 = .ok (.iload_n 1, 1) := by decide +kernel
theorem dX11_row_42 : decode cX11_row 42 = .ok (.aload_n 0, 1) := by decide +kernel
theorem dX11_row_43 : decode cX11_row 43 = .ok (.getfield 78, 3) := by decide +kernel
theorem dX11_row_46 : decode cX11_row 46 = .ok (.iconst 0, 1) := by decide +kernel
theorem dX11_row_47 : decode cX11_row 47 = .ok (.invokevirtual 318, 3) := by decide +kernel
theorem dX11_row_50 : decode cX11_row 50 = .ok (.isub, 1) := by decide +kernel
theorem dX11_row_51 : decode cX11_row 51 = .ok (.goto 11, 3) := by decide +kernel
theorem dX11_row_54 : decode cX11_row 54 = .ok (.aload_n 0, 1) := by decide +kernel
theorem dX11_row_55 : decode cX11_row 55 = .ok (.getfield 78, 3) := by decide +kernel
theorem dX11_row_58 : decode cX11_row 58 = .ok (.iconst 1, 1) := by decide +kernel
theorem dX11_row_59 : decode cX11_row 59 = .ok (.invokevirtual 318, 3) := by decide +kernel
theorem dX11_row_62 : decode cX11_row 62 = .ok (.ireturn, 1) := by decide +kernel
set_option maxRecDepth 20000 in
theorem ggX11_falseOne_X11_isWithin : GoodIn wsX11_falseOne wsX11_isWithin := goodIn_r _ [4] (by decide +kernel) (by decide +kernel)
set_option maxRecDepth 20000 in
theorem gX11_falseOne_X11_isWithin : GoodIn wsX11_falseOne (va_wsS RX11 110 yX11_isWithin wsX11_isWithin) := goodIn_app (goodIn_of _ (by decide +kernel)) ggX11_falseOne_X11_isWithin
theorem dX11_falseOne_0 : decode cX11_falseOne 0 = .ok (.iload_n 1, 1) := by decide +kernel
theorem dX11_falseOne_1 : decode cX11_falseOne 1 = .ok (.iconst 1, 1) := by decide +kernel
theorem dX11_falseOne_2 : decode cX11_falseOne 2 = .ok (.sipush 9999, 3) := by decide +kernel
theorem dX11_falseOne_5 : decode cX11_falseOne 5 = .ok (.invokestatic 110, 3) := by decide +kernel
theorem dX11_falseOne_8 : decode cX11_falseOne 8 = .ok (.ifCond .ne 5, 3) := by decide +kernel
theorem dX11_falseOne_11 : decode cX11_falseOne 11 = .ok (.iconst (-1), 1) := by decide +kernel
theorem dX11_falseOne_12 : decode cX11_falseOne 12 = .ok (.ireturn, 1) := by decide +kernel
theorem dX11_falseOne_13 : decode cX11_falseOne 13 = .ok (.iload_n 2, 1) := by decide +kernel
theorem dX11_falseOne_14 : decode cX11_falseOne 14 = .ok (.ifCond .ne 11, 3) := by decide +kernel
theorem dX11_falseOne_17 : decode cX11_falseOne 17 = .ok (.iload_n 1, 1) := by decide +kernel
theorem dX11_falseOne_18 : decode cX11_falseOne 18 = .ok (.iconst 3, 1) := by decide +kernel
theorem dX11_falseOne_19 : decode cX11_falseOne 19 = .ok (.if_icmp .ge 6, 3) := by decide +kernel
theorem dX11_falseOne_22 : decode cX11_falseOne 22 = .ok (.bipush (-2), 2) := by decide +kernel
theorem dX11_falseOne_24 : decode cX11_falseOne 24 = .ok (.ireturn, 1) := by decide +kernel
theorem dX11_falseOne_25 : decode cX11_falseOne 25 = .ok (.iload_n 2, 1) := by decide +kernel
theorem dX11_falseOne_26 : decode cX11_falseOne 26 = .ok (.ifCond .eq 7, 3) := by decide +kernel
theorem dX11_falseOne_29 : decode cX11_falseOne 29 = .ok (.iload_n 1, 1) := by decide +kernel
theorem dX11_falseOne_30 : decode cX11_falseOne 30 = .ok (.goto 8, 3) := by decide +kernel
theorem dX11_falseOne_33 : decode cX11_falseOne 33 = .ok (.iconst 2, 1) := by decide +kernel
theorem dX11_falseOne_34 : decode cX11_falseOne 34 = .ok (.iload_n 1, 1) := by decide +kernel
theorem dX11_falseOne_35 : decode cX11_falseOne 35 = .ok (.imul, 1) := by decide +kernel
theorem dX11_falseOne_36 : decode cX11_falseOne 36 = .ok (.iconst 3, 1) := by decide +kernel
theorem dX11_falseOne_37 : decode cX11_falseOne 37 = .ok (.iadd, 1) := by decide +kernel
theorem dX11_falseOne_38 : decode cX11_falseOne 38 = .ok (.istore_n 3, 1) := by decide +kernel
theorem dX11_falseOne_39 : decode cX11_falseOne 39 = .ok (.iconst 0, 1) := by decide +kernel
theorem dX11_falseOne_40 : decode cX11_falseOne 40 = .ok (.istore 4, 2) := by decide +kernel
theorem dX11_falseOne_42 : decode cX11_falseOne 42 = .ok (.iconst 1, 1) := by decide +kernel
theorem dX11_falseOne_43 : decode cX11_falseOne 43 = .ok (.istore 5, 2) := by decide +kernel
theorem dX11_falseOne_45 : decode cX11_falseOne 45 = .ok (.iload 5, 2) := by decide +kernel
theorem dX11_falseOne_47 : decode cX11_falseOne 47 = .ok (.iload_n 3, 1) := by decide +kernel
theorem dX11_falseOne_48 : decode cX11_falseOne 48 = .ok (.if_icmp .ge 22, 3) := by decide +kernel
theorem dX11_falseOne_51 : decode cX11_falseOne 51 = .ok (.iload 4, 2) := by decide +kernel
theorem dX11_falseOne_53 : decode cX11_falseOne 53 = .ok (.bipush 12, 2) := by decide +kernel
theorem dX11_falseOne_55 : decode cX11_falseOne 55 = .ok (.if_icmp .ge 15, 3) := by decide +kernel
theorem dX11_falseOne_58 : decode cX11_falseOne 58 = .ok (.iinc 4 1, 3) := by decide +kernel
theorem dX11_falseOne_61 : decode cX11_falseOne 61 = .ok (.iload 5, 2) := by decide +kernel
theorem dX11_falseOne_63 : decode cX11_falseOne 63 = .ok (.iconst 3, 1) := by decide +kernel
theorem dX11_falseOne_64 : decode cX11_falseOne 64 = .ok (.imul, 1) := by decide +kernel
theorem dX11_falseOne_65 : decode cX11_falseOne 65 = .ok (.istore 5, 2) := by decide +kernel
theorem dX11_falseOne_67 : decode cX11_falseOne 67 = .ok (.goto (-22), 3) := by decide +kernel
theorem dX11_falseOne_70 : decode cX11_falseOne 70 = .ok (.iload 4, 2) := by decide +kernel
theorem dX11_falseOne_72 : decode cX11_falseOne 72 = .ok (.ireturn, 1) := by decide +kernel
set_option maxRecDepth 20000 in
theorem ggX11_scales_X11_isWithin : GoodIn wsX11_scales wsX11_isWithin := goodIn_r _ [6] (by decide +kernel) (by decide +kernel)
set_option maxRecDepth 20000 in
theorem gX11_scales_X11_isWithin : GoodIn wsX11_scales (va_wsS RX11 110 yX11_isWithin wsX11_isWithin) := goodIn_app (goodIn_of _ (by decide +kernel)) ggX11_scales_X11_isWithin
set_option maxRecDepth 20000 in
theorem ggX11_scales_X8_offers : GoodIn wsX11_scales wsX8_offers := goodIn_r _ [11, 12, 4, 5, 6, 62, 63] (by decide +kernel) (by decide +kernel)
set_option maxRecDepth 20000 in
theorem gX11_scales_X8_offers : GoodIn wsX11_scales (wsV RX11 136 RX8 yX8_offers wsX8_offers) := goodIn_app (goodIn_of _ (by decide +kernel)) ggX11_scales_X8_offers
set_option maxRecDepth 20000 in
theorem ggX11_scales_X5_take : GoodIn wsX11_scales wsX5_take := goodIn_r _ [17, 18, 19, 20, 21, 22, 23, 24, 25, 26, 10, 27, 12, 28, 29, 30, 31, 32, 64, 65, 66, 67, 68, 62, 63] (by decide +kernel) (by decide +kernel)
set_option maxRecDepth 20000 in
theorem gX11_scales_X5_take : GoodIn wsX11_scales (wsV RX11 302 RX5 yX5_take wsX5_take) := goodIn_app (goodIn_of _ (by decide +kernel)) ggX11_scales_X5_take
set_option maxRecDepth 20000 in
theorem ggX11_scales_X5_timesLeftHeavier : GoodIn wsX11_scales wsX5_timesLeftHeavier := goodIn_r _ [36, 22, 23, 37, 5, 38, 64, 65, 66, 67, 68] (by decide +kernel) (by decide +kernel)
set_option maxRecDepth 20000 in
theorem gX11_scales_X5_timesLeftHeavier : GoodIn wsX11_scales (wsV RX11 321 RX5 yX5_timesLeftHeavier wsX5_timesLeftHeavier) := goodIn_app (goodIn_of _ (by decide +kernel)) ggX11_scales_X5_timesLeftHeavier
set_option maxRecDepth 20000 in
theorem ggX11_scales_X5_mostLeftHeavier : GoodIn wsX11_scales wsX5_mostLeftHeavier := goodIn_r _ [42, 22, 23, 43, 44, 20, 45, 37, 5, 38, 64, 65, 66, 67, 68] (by decide +kernel) (by decide +kernel)
set_option maxRecDepth 20000 in
theorem gX11_scales_X5_mostLeftHeavier : GoodIn wsX11_scales (wsV RX11 324 RX5 yX5_mostLeftHeavier wsX5_mostLeftHeavier) := goodIn_app (goodIn_of _ (by decide +kernel)) ggX11_scales_X5_mostLeftHeavier
theorem dX11_scales_0 : decode cX11_scales 0 = .ok (.iload_n 2, 1) := by decide +kernel
theorem dX11_scales_1 : decode cX11_scales 1 = .ok (.iconst 0, 1) := by decide +kernel
theorem dX11_scales_2 : decode cX11_scales 2 = .ok (.sipush 1023, 3) := by decide +kernel
theorem dX11_scales_5 : decode cX11_scales 5 = .ok (.invokestatic 110, 3) := by decide +kernel
theorem dX11_scales_8 : decode cX11_scales 8 = .ok (.ifCond .eq 26, 3) := by decide +kernel
theorem dX11_scales_11 : decode cX11_scales 11 = .ok (.iload_n 3, 1) := by decide +kernel
theorem dX11_scales_12 : decode cX11_scales 12 = .ok (.iconst 0, 1) := by decide +kernel
theorem dX11_scales_13 : decode cX11_scales 13 = .ok (.iconst 1, 1) := by decide +kernel
theorem dX11_scales_14 : decode cX11_scales 14 = .ok (.invokestatic 110, 3) := by decide +kernel
theorem dX11_scales_17 : decode cX11_scales 17 = .ok (.ifCond .eq 17, 3) := by decide +kernel
theorem dX11_scales_20 : decode cX11_scales 20 = .ok (.aload_n 0, 1) := by decide +kernel
theorem dX11_scales_21 : decode cX11_scales 21 = .ok (.getfield 10, 3) := by decide +kernel
theorem dX11_scales_24 : decode cX11_scales 24 = .ok (.iload_n 1, 1) := by decide +kernel
theorem dX11_scales_25 : decode cX11_scales 25 = .ok (.iconst 1, 1) := by decide +kernel
theorem dX11_scales_26 : decode cX11_scales 26 = .ok (.bipush 10, 2) := by decide +kernel
theorem dX11_scales_28 : decode cX11_scales 28 = .ok (.invokevirtual 136, 3) := by decide +kernel
theorem dX11_scales_31 : decode cX11_scales 31 = .ok (.ifCond .ne 5, 3) := by decide +kernel
theorem dX11_scales_34 : decode cX11_scales 34 = .ok (.iconst (-1), 1) := by decide +kernel
theorem dX11_scales_35 : decode cX11_scales 35 = .ok (.ireturn, 1) := by decide +kernel
theorem dX11_scales_36 : decode cX11_scales 36 = .ok (.aload_n 0, 1) := by decide +kernel
theorem dX11_scales_37 : decode cX11_scales 37 = .ok (.getfield 78, 3) := by decide +kernel
theorem dX11_scales_40 : decode cX11_scales 40 = .ok (.aload_n 0, 1) := by decide +kernel
theorem dX11_scales_41 : decode cX11_scales 41 = .ok (.getfield 10, 3) := by decide +kernel
theorem dX11_scales_44 : decode cX11_scales 44 = .ok (.iload_n 1, 1) := by decide +kernel
theorem dX11_scales_45 : decode cX11_scales 45 = .ok (.invokevirtual 302, 3) := by decide +kernel
theorem dX11_scales_48 : decode cX11_scales 48 = .ok (.iload_n 3, 1) := by decide +kernel
theorem dX11_scales_49 : decode cX11_scales 49 = .ok (.ifCond .ne 14, 3) := by decide +kernel
theorem dX11_scales_52 : decode cX11_scales 52 = .ok (.aload_n 0, 1) := by decide +kernel
theorem dX11_scales_53 : decode cX11_scales 53 = .ok (.getfield 78, 3) := by decide +kernel
theorem dX11_scales_56 : decode cX11_scales 56 = .ok (.iload_n 2, 1) := by decide +kernel
theorem dX11_scales_57 : decode cX11_scales 57 = .ok (.invokevirtual 321, 3) := by decide +kernel
theorem dX11_scales_60 : decode cX11_scales 60 = .ok (.goto 11, 3) := by decide +kernel
theorem dX11_scales_63 : decode cX11_scales 63 = .ok (.aload_n 0, 1) := by decide +kernel
theorem dX11_scales_64 : decode cX11_scales 64 = .ok (.getfield 78, 3) := by decide +kernel
theorem dX11_scales_67 : decode cX11_scales 67 = .ok (.iload_n 2, 1) := by decide +kernel
theorem dX11_scales_68 : decode cX11_scales 68 = .ok (.invokevirtual 324, 3) := by decide +kernel
theorem dX11_scales_71 : decode cX11_scales 71 = .ok (.ireturn, 1) := by decide +kernel
set_option maxRecDepth 20000 in
theorem ggX11_seed_X11_isWithin : GoodIn wsX11_seed wsX11_isWithin := goodIn_r _ [7] (by decide +kernel) (by decide +kernel)
set_option maxRecDepth 20000 in
theorem gX11_seed_X11_isWithin : GoodIn wsX11_seed (va_wsS RX11 110 yX11_isWithin wsX11_isWithin) := goodIn_app (goodIn_of _ (by decide +kernel)) ggX11_seed_X11_isWithin
theorem dX11_seed_0 : decode cX11_seed 0 = .ok (.iload_n 1, 1) := by decide +kernel
theorem dX11_seed_1 : decode cX11_seed 1 = .ok (.iconst 0, 1) := by decide +kernel
theorem dX11_seed_2 : decode cX11_seed 2 = .ok (.ldc 237, 2) := by decide +kernel
theorem dX11_seed_4 : decode cX11_seed 4 = .ok (.invokestatic 110, 3) := by decide +kernel
theorem dX11_seed_7 : decode cX11_seed 7 = .ok (.ifCond .ne 5, 3) := by decide +kernel
theorem dX11_seed_10 : decode cX11_seed 10 = .ok (.iconst 0, 1) := by decide +kernel
theorem dX11_seed_11 : decode cX11_seed 11 = .ok (.ireturn, 1) := by decide +kernel
theorem dX11_seed_12 : decode cX11_seed 12 = .ok (.aload_n 0, 1) := by decide +kernel
theorem dX11_seed_13 : decode cX11_seed 13 = .ok (.getfield 28, 3) := by decide +kernel
theorem dX11_seed_16 : decode cX11_seed 16 = .ok (.iload_n 1, 1) := by decide +kernel
theorem dX11_seed_17 : decode cX11_seed 17 = .ok (.putfield 327, 3) := by decide +kernel
theorem dX11_seed_20 : decode cX11_seed 20 = .ok (.iconst 1, 1) := by decide +kernel
theorem dX11_seed_21 : decode cX11_seed 21 = .ok (.ireturn, 1) := by decide +kernel
set_option maxRecDepth 20000 in
theorem ggX11_keep_X9_copyFrom : GoodIn wsX11_keep wsX9_copyFrom := goodIn_r _ [9, 10, 11, 12, 13, 14, 15, 16, 17, 18, 19, 20, 21, 38, 39, 40, 41, 42, 43, 44, 45] (by decide +kernel) (by decide +kernel)
set_option maxRecDepth 20000 in
theorem gX11_keep_X9_copyFrom : GoodIn wsX11_keep (wsV RX11 183 RX9 yX9_copyFrom wsX9_copyFrom) := goodIn_app (goodIn_of _ (by decide +kernel)) ggX11_keep_X9_copyFrom
theorem dX11_keep_0 : decode cX11_keep 0 = .ok (.aload_n 0, 1) := by decide +kernel
theorem dX11_keep_1 : decode cX11_keep 1 = .ok (.getfield 32, 3) := by decide +kernel
theorem dX11_keep_4 : decode cX11_keep 4 = .ok (.aload_n 0, 1) := by decide +kernel
theorem dX11_keep_5 : decode cX11_keep 5 = .ok (.getfield 28, 3) := by decide +kernel
theorem dX11_keep_8 : decode cX11_keep 8 = .ok (.invokevirtual 183, 3) := by decide +kernel
theorem dX11_keep_11 : decode cX11_keep 11 = .ok (.aload_n 0, 1) := by decide +kernel
theorem dX11_keep_12 : decode cX11_keep 12 = .ok (.iconst 1, 1) := by decide +kernel
theorem dX11_keep_13 : decode cX11_keep 13 = .ok (.putfield 102, 3) := by decide +kernel
theorem dX11_keep_16 : decode cX11_keep 16 = .ok (.aload_n 0, 1) := by decide +kernel
theorem dX11_keep_17 : decode cX11_keep 17 = .ok (.getfield 28, 3) := by decide +kernel
theorem dX11_keep_20 : decode cX11_keep 20 = .ok (.getfield 330, 3) := by decide +kernel
theorem dX11_keep_23 : decode cX11_keep 23 = .ok (.ireturn, 1) := by decide +kernel
set_option maxRecDepth 20000 in
theorem ggX11_undo_X9_copyFrom : GoodIn wsX11_undo wsX9_copyFrom := goodIn_r _ [8, 9, 10, 11, 12, 13, 14, 15, 16, 17, 18, 19, 20, 37, 38, 39, 40, 41, 42, 43, 44] (by decide +kernel) (by decide +kernel)
set_option maxRecDepth 20000 in
theorem gX11_undo_X9_copyFrom : GoodIn wsX11_undo (wsV RX11 183 RX9 yX9_copyFrom wsX9_copyFrom) := goodIn_app (goodIn_of _ (by decide +kernel)) ggX11_undo_X9_copyFrom
theorem dX11_undo_0 : decode cX11_undo 0 = .ok (.aload_n 0, 1) := by decide +kernel
theorem dX11_undo_1 : decode cX11_undo 1 = .ok (.getfield 102, 3) := by decide +kernel
theorem dX11_undo_4 : decode cX11_undo 4 = .ok (.ifCond .eq 14, 3) := by decide +kernel
theorem dX11_undo_7 : decode cX11_undo 7 = .ok (.aload_n 0, 1) := by decide +kernel
theorem dX11_undo_8 : decode cX11_undo 8 = .ok (.getfield 28, 3) := by decide +kernel
theorem dX11_undo_11 : decode cX11_undo 11 = .ok (.aload_n 0, 1) := by decide +kernel
theorem dX11_undo_12 : decode cX11_undo 12 = .ok (.getfield 32, 3) := by decide +kernel
theorem dX11_undo_15 : decode cX11_undo 15 = .ok (.invokevirtual 183, 3) := by decide +kernel
theorem dX11_undo_18 : decode cX11_undo 18 = .ok (.aload_n 0, 1) := by decide +kernel
theorem dX11_undo_19 : decode cX11_undo 19 = .ok (.getfield 102, 3) := by decide +kernel
theorem dX11_undo_22 : decode cX11_undo 22 = .ok (.ireturn, 1) := by decide +kernel
set_option maxRecDepth 20000 in
theorem ggX11_check_X8_offers : GoodIn wsX11_check wsX8_offers := goodIn_r _ [8, 9, 10, 11, 12, 57, 58] (by decide +kernel) (by decide +kernel)
set_option maxRecDepth 20000 in
theorem gX11_check_X8_offers : GoodIn wsX11_check (wsV RX11 136 RX8 yX8_offers wsX8_offers) := goodIn_app (goodIn_of _ (by decide +kernel)) ggX11_check_X8_offers
set_option maxRecDepth 20000 in
theorem ggX11_check_X9_knows : GoodIn wsX11_check wsX9_knows := goodIn_r _ [17, 18, 19, 11, 20, 21, 10, 12, 22, 23, 49, 50, 51, 52, 53, 54, 55, 56] (by decide +kernel) (by decide +kernel)
set_option maxRecDepth 20000 in
theorem gX11_check_X9_knows : GoodIn wsX11_check (wsV RX11 208 RX9 yX9_knows wsX9_knows) := goodIn_app (goodIn_of _ (by decide +kernel)) ggX11_check_X9_knows
set_option maxRecDepth 20000 in
theorem ggX11_check_X8_at : GoodIn wsX11_check wsX8_at := goodIn_r _ [27, 9, 28, 57, 58] (by decide +kernel) (by decide +kernel)
set_option maxRecDepth 20000 in
theorem gX11_check_X8_at : GoodIn wsX11_check (wsV RX11 333 RX8 yX8_at wsX8_at) := goodIn_app (goodIn_of _ (by decide +kernel)) ggX11_check_X8_at
set_option maxRecDepth 20000 in
theorem ggX11_check_X8_clear : GoodIn wsX11_check wsX8_clear := goodIn_r _ [32, 9, 57, 58] (by decide +kernel) (by decide +kernel)
set_option maxRecDepth 20000 in
theorem gX11_check_X8_clear : GoodIn wsX11_check (wsV RX11 146 RX8 yX8_clear wsX8_clear) := goodIn_app (goodIn_of _ (by decide +kernel)) ggX11_check_X8_clear
theorem dX11_check_0 : decode cX11_check 0 = .ok (.aload_n 0, 1) := by decide +kernel
theorem dX11_check_1 : decode cX11_check 1 = .ok (.getfield 10, 3) := by decide +kernel
theorem dX11_check_4 : decode cX11_check 4 = .ok (.iload_n 1, 1) := by decide +kernel
theorem dX11_check_5 : decode cX11_check 5 = .ok (.iconst 0, 1) := by decide +kernel
theorem dX11_check_6 : decode cX11_check 6 = .ok (.bipush 16, 2) := by decide +kernel
theorem dX11_check_8 : decode cX11_check 8 = .ok (.invokevirtual 136, 3) := by decide +kernel
theorem dX11_check_11 : decode cX11_check 11 = .ok (.ifCond .ne 6, 3) := by decide +kernel
theorem dX11_check_14 : decode cX11_check 14 = .ok (.bipush (-2), 2) := by decide +kernel
theorem dX11_check_16 : decode cX11_check 16 = .ok (.ireturn, 1) := by decide +kernel
theorem dX11_check_17 : decode cX11_check 17 = .ok (.iconst (-1), 1) := by decide +kernel
theorem dX11_check_18 : decode cX11_check 18 = .ok (.istore_n 2, 1) := by decide +kernel
theorem dX11_check_19 : decode cX11_check 19 = .ok (.iload_n 1, 1) := by decide +kernel
theorem dX11_check_20 : decode cX11_check 20 = .ok (.iconst 1, 1) := by decide +kernel
theorem dX11_check_21 : decode cX11_check 21 = .ok (.isub, 1) := by decide +kernel
theorem dX11_check_22 : decode cX11_check 22 = .ok (.istore_n 3, 1) := by decide +kernel
theorem dX11_check_23 : decode cX11_check 23 = .ok (.iload_n 3, 1) := by decide +kernel
theorem dX11_check_24 : decode cX11_check 24 = .ok (.ifCond .lt 54, 3) := by decide +kernel
theorem dX11_check_27 : decode cX11_check 27 = .ok (.aload_n 0, 1) := by decide +kernel
theorem dX11_check_28 : decode cX11_check 28 = .ok (.getfield 28, 3) := by decide +kernel
theorem dX11_check_31 : decode cX11_check 31 = .ok (.iload_n 3, 1) := by decide +kernel
theorem dX11_check_32 : decode cX11_check 32 = .ok (.invokevirtual 208, 3) := by decide +kernel
theorem dX11_check_35 : decode cX11_check 35 = .ok (.ifCond .eq 19, 3) := by decide +kernel
theorem dX11_check_38 : decode cX11_check 38 = .ok (.aload_n 0, 1) := by decide +kernel
theorem dX11_check_39 : decode cX11_check 39 = .ok (.getfield 28, 3) := by decide +kernel
theorem dX11_check_42 : decode cX11_check 42 = .ok (.getfield 211, 3) := by decide +kernel
theorem dX11_check_45 : decode cX11_check 45 = .ok (.iload_n 3, 1) := by decide +kernel
theorem dX11_check_46 : decode cX11_check 46 = .ok (.iaload, 1) := by decide +kernel
theorem dX11_check_47 : decode cX11_check 47 = .ok (.sipush 256, 3) := by decide +kernel
theorem dX11_check_50 : decode cX11_check 50 = .ok (.irem, 1) := by decide +kernel
theorem dX11_check_51 : decode cX11_check 51 = .ok (.goto 4, 3) := by decide +kernel
theorem dX11_check_54 : decode cX11_check 54 = .ok (.iconst 0, 1) := by decide +kernel
theorem dX11_check_55 : decode cX11_check 55 = .ok (.istore 4, 2) := by decide +kernel
theorem dX11_check_57 : decode cX11_check 57 = .ok (.aload_n 0, 1) := by decide +kernel
theorem dX11_check_58 : decode cX11_check 58 = .ok (.getfield 10, 3) := by decide +kernel
theorem dX11_check_61 : decode cX11_check 61 = .ok (.iload_n 3, 1) := by decide +kernel
theorem dX11_check_62 : decode cX11_check 62 = .ok (.invokevirtual 333, 3) := by decide +kernel
theorem dX11_check_65 : decode cX11_check 65 = .ok (.iload 4, 2) := by decide +kernel
theorem dX11_check_67 : decode cX11_check 67 = .ok (.if_icmp .eq 5, 3) := by decide +kernel
theorem dX11_check_70 : decode cX11_check 70 = .ok (.iload_n 3, 1) := by decide +kernel
theorem dX11_check_71 : decode cX11_check 71 = .ok (.istore_n 2, 1) := by decide +kernel
theorem dX11_check_72 : decode cX11_check 72 = .ok (.iinc 3 (-1), 3) := by decide +kernel
theorem dX11_check_75 : decode cX11_check 75 = .ok (.goto (-52), 3) := by decide +kernel
theorem dX11_check_78 : decode cX11_check 78 = .ok (.aload_n 0, 1) := by decide +kernel
theorem dX11_check_79 : decode cX11_check 79 = .ok (.getfield 10, 3) := by decide +kernel
theorem dX11_check_82 : decode cX11_check 82 = .ok (.invokevirtual 146, 3) := by decide +kernel
theorem dX11_check_85 : decode cX11_check 85 = .ok (.iload_n 2, 1) := by decide +kernel
theorem dX11_check_86 : decode cX11_check 86 = .ok (.ireturn, 1) := by decide +kernel
set_option maxRecDepth 20000 in
theorem ggX11_count_X10_letters : GoodIn wsX11_count wsX10_letters := goodIn_r _ [21, 22, 23, 24, 58, 59, 60, 61] (by decide +kernel) (by decide +kernel)
set_option maxRecDepth 20000 in
theorem gX11_count_X10_letters : GoodIn wsX11_count (wsV RX11 336 RX10 yX10_letters wsX10_letters) := goodIn_app (goodIn_of _ (by decide +kernel)) ggX11_count_X10_letters
set_option maxRecDepth 20000 in
theorem ggX11_count_X9_total : GoodIn wsX11_count wsX9_total := goodIn_r _ [29, 30, 31, 32, 33, 50, 51, 52, 53, 54, 55, 56, 57] (by decide +kernel) (by decide +kernel)
set_option maxRecDepth 20000 in
theorem gX11_count_X9_total : GoodIn wsX11_count (wsV RX11 341 RX9 yX9_total wsX9_total) := goodIn_app (goodIn_of _ (by decide +kernel)) ggX11_count_X9_total
theorem dX11_count_0 : decode cX11_count 0 = .ok (.iload_n 1, 1) := by decide +kernel
theorem dX11_count_1 : decode cX11_count 1 = .ok (.tableswitch 173 0 11 #[63, 71, 79, 87, 95, 103, 111, 119, 127, 135, 143, 158], 63) := by decide +kernel
theorem dX11_count_64 : decode cX11_count 64 = .ok (.aload_n 0, 1) := by decide +kernel
theorem dX11_count_65 : decode cX11_count 65 = .ok (.getfield 28, 3) := by decide +kernel
theorem dX11_count_68 : decode cX11_count 68 = .ok (.getfield 330, 3) := by decide +kernel
theorem dX11_count_71 : decode cX11_count 71 = .ok (.ireturn, 1) := by decide +kernel
theorem dX11_count_72 : decode cX11_count 72 = .ok (.aload_n 0, 1) := by decide +kernel
theorem dX11_count_73 : decode cX11_count 73 = .ok (.getfield 28, 3) := by decide +kernel
theorem dX11_count_76 : decode cX11_count 76 = .ok (.getfield 158, 3) := by decide +kernel
theorem dX11_count_79 : decode cX11_count 79 = .ok (.ireturn, 1) := by decide +kernel
theorem dX11_count_80 : decode cX11_count 80 = .ok (.aload_n 0, 1) := by decide +kernel
theorem dX11_count_81 : decode cX11_count 81 = .ok (.getfield 28, 3) := by decide +kernel
theorem dX11_count_84 : decode cX11_count 84 = .ok (.getfield 196, 3) := by decide +kernel
theorem dX11_count_87 : decode cX11_count 87 = .ok (.ireturn, 1) := by decide +kernel
theorem dX11_count_88 : decode cX11_count 88 = .ok (.aload_n 0, 1) := by decide +kernel
theorem dX11_count_89 : decode cX11_count 89 = .ok (.getfield 95, 3) := by decide +kernel
theorem dX11_count_92 : decode cX11_count 92 = .ok (.getfield 172, 3) := by decide +kernel
theorem dX11_count_95 : decode cX11_count 95 = .ok (.ireturn, 1) := by decide +kernel
theorem dX11_count_96 : decode cX11_count 96 = .ok (.aload_n 0, 1) := by decide +kernel
theorem dX11_count_97 : decode cX11_count 97 = .ok (.getfield 85, 3) := by decide +kernel
theorem dX11_count_100 : decode cX11_count 100 = .ok (.getfield 155, 3) := by decide +kernel
theorem dX11_count_103 : decode cX11_count 103 = .ok (.ireturn, 1) := by decide +kernel
theorem dX11_count_104 : decode cX11_count 104 = .ok (.aload_n 0, 1) := by decide +kernel
theorem dX11_count_105 : decode cX11_count 105 = .ok (.getfield 10, 3) := by decide +kernel
theorem dX11_count_108 : decode cX11_count 108 = .ok (.getfield 133, 3) := by decide +kernel
theorem dX11_count_111 : decode cX11_count 111 = .ok (.ireturn, 1) := by decide +kernel
theorem dX11_count_112 : decode cX11_count 112 = .ok (.aload_n 0, 1) := by decide +kernel
theorem dX11_count_113 : decode cX11_count 113 = .ok (.getfield 28, 3) := by decide +kernel
theorem dX11_count_116 : decode cX11_count 116 = .ok (.getfield 327, 3) := by decide +kernel
theorem dX11_count_119 : decode cX11_count 119 = .ok (.ireturn, 1) := by decide +kernel
theorem dX11_count_120 : decode cX11_count 120 = .ok (.aload_n 0, 1) := by decide +kernel
theorem dX11_count_121 : decode cX11_count 121 = .ok (.getfield 41, 3) := by decide +kernel
theorem dX11_count_124 : decode cX11_count 124 = .ok (.getfield 118, 3) := by decide +kernel
theorem dX11_count_127 : decode cX11_count 127 = .ok (.ireturn, 1) := by decide +kernel
theorem dX11_count_128 : decode cX11_count 128 = .ok (.aload_n 0, 1) := by decide +kernel
theorem dX11_count_129 : decode cX11_count 129 = .ok (.getfield 41, 3) := by decide +kernel
theorem dX11_count_132 : decode cX11_count 132 = .ok (.getfield 122, 3) := by decide +kernel
theorem dX11_count_135 : decode cX11_count 135 = .ok (.ireturn, 1) := by decide +kernel
theorem dX11_count_136 : decode cX11_count 136 = .ok (.aload_n 0, 1) := by decide +kernel
theorem dX11_count_137 : decode cX11_count 137 = .ok (.getfield 95, 3) := by decide +kernel
theorem dX11_count_140 : decode cX11_count 140 = .ok (.invokevirtual 336, 3) := by decide +kernel
theorem dX11_count_143 : decode cX11_count 143 = .ok (.ireturn, 1) := by decide +kernel
theorem dX11_count_144 : decode cX11_count 144 = .ok (.aload_n 0, 1) := by decide +kernel
theorem dX11_count_145 : decode cX11_count 145 = .ok (.getfield 28, 3) := by decide +kernel
theorem dX11_count_148 : decode cX11_count 148 = .ok (.aload_n 0, 1) := by decide +kernel
theorem dX11_count_149 : decode cX11_count 149 = .ok (.getfield 28, 3) := by decide +kernel
theorem dX11_count_152 : decode cX11_count 152 = .ok (.getfield 339, 3) := by decide +kernel
theorem dX11_count_155 : decode cX11_count 155 = .ok (.invokevirtual 341, 3) := by decide +kernel
theorem dX11_count_158 : decode cX11_count 158 = .ok (.ireturn, 1) := by decide +kernel
theorem dX11_count_159 : decode cX11_count 159 = .ok (.aload_n 0, 1) := by decide +kernel
theorem dX11_count_160 : decode cX11_count 160 = .ok (.getfield 28, 3) := by decide +kernel
theorem dX11_count_163 : decode cX11_count 163 = .ok (.aload_n 0, 1) := by decide +kernel
theorem dX11_count_164 : decode cX11_count 164 = .ok (.getfield 28, 3) := by decide +kernel
theorem dX11_count_167 : decode cX11_count 167 = .ok (.getfield 211, 3) := by decide +kernel
theorem dX11_count_170 : decode cX11_count 170 = .ok (.invokevirtual 341, 3) := by decide +kernel
theorem dX11_count_173 : decode cX11_count 173 = .ok (.ireturn, 1) := by decide +kernel
theorem dX11_count_174 : decode cX11_count 174 = .ok (.iconst (-1), 1) := by decide +kernel
theorem dX11_count_175 : decode cX11_count 175 = .ok (.ireturn, 1) := by decide +kernel
theorem dX11_isWithin_0 : decode cX11_isWithin 0 = .ok (.iload_n 0, 1) := by decide +kernel
theorem dX11_isWithin_1 : decode cX11_isWithin 1 = .ok (.iload_n 1, 1) := by decide +kernel
theorem dX11_isWithin_2 : decode cX11_isWithin 2 = .ok (.if_icmp .lt 12, 3) := by decide +kernel
theorem dX11_isWithin_5 : decode cX11_isWithin 5 = .ok (.iload_n 0, 1) := by decide +kernel
theorem dX11_isWithin_6 : decode cX11_isWithin 6 = .ok (.iload_n 2, 1) := by decide +kernel
theorem dX11_isWithin_7 : decode cX11_isWithin 7 = .ok (.if_icmp .gt 7, 3) := by decide +kernel
theorem dX11_isWithin_10 : decode cX11_isWithin 10 = .ok (.iconst 1, 1) := by decide +kernel
theorem dX11_isWithin_11 : decode cX11_isWithin 11 = .ok (.goto 4, 3) := by decide +kernel
theorem dX11_isWithin_14 : decode cX11_isWithin 14 = .ok (.iconst 0, 1) := by decide +kernel
theorem dX11_isWithin_15 : decode cX11_isWithin 15 = .ok (.ireturn, 1) := by decide +kernel
set_option maxRecDepth 20000 in
theorem ggX11_isWalker_X11_isWithin : GoodIn wsX11_isWalker wsX11_isWithin := goodIn_r _ [4] (by decide +kernel) (by decide +kernel)
set_option maxRecDepth 20000 in
theorem gX11_isWalker_X11_isWithin : GoodIn wsX11_isWalker (va_wsS RX11 110 yX11_isWithin wsX11_isWithin) := goodIn_app (goodIn_of _ (by decide +kernel)) ggX11_isWalker_X11_isWithin
theorem dX11_isWalker_0 : decode cX11_isWalker 0 = .ok (.iload_n 0, 1) := by decide +kernel
theorem dX11_isWalker_1 : decode cX11_isWalker 1 = .ok (.iconst 0, 1) := by decide +kernel
theorem dX11_isWalker_2 : decode cX11_isWalker 2 = .ok (.bipush 15, 2) := by decide +kernel
theorem dX11_isWalker_4 : decode cX11_isWalker 4 = .ok (.invokestatic 110, 3) := by decide +kernel
theorem dX11_isWalker_7 : decode cX11_isWalker 7 = .ok (.ireturn, 1) := by decide +kernel
theorem dX11_has_0 : decode cX11_has 0 = .ok (.iload_n 0, 1) := by decide +kernel
theorem dX11_has_1 : decode cX11_has 1 = .ok (.iload_n 1, 1) := by decide +kernel
theorem dX11_has_2 : decode cX11_has 2 = .ok (.ishr, 1) := by decide +kernel
theorem dX11_has_3 : decode cX11_has 3 = .ok (.iconst 1, 1) := by decide +kernel
theorem dX11_has_4 : decode cX11_has 4 = .ok (.iand, 1) := by decide +kernel
theorem dX11_has_5 : decode cX11_has 5 = .ok (.ifCond .eq 7, 3) := by decide +kernel
theorem dX11_has_8 : decode cX11_has 8 = .ok (.iconst 1, 1) := by decide +kernel
theorem dX11_has_9 : decode cX11_has 9 = .ok (.goto 4, 3) := by decide +kernel
theorem dX11_has_12 : decode cX11_has 12 = .ok (.iconst 0, 1) := by decide +kernel
theorem dX11_has_13 : decode cX11_has 13 = .ok (.ireturn, 1) := by decide +kernel
theorem dX11_bounded_0 : decode cX11_bounded 0 = .ok (.iload_n 1, 1) := by decide +kernel
theorem dX11_bounded_1 : decode cX11_bounded 1 = .ok (.iload_n 2, 1) := by decide +kernel
theorem dX11_bounded_2 : decode cX11_bounded 2 = .ok (.iload_n 0, 1) := by decide +kernel
theorem dX11_bounded_3 : decode cX11_bounded 3 = .ok (.invokestatic 345, 3) := by decide +kernel
theorem dX11_bounded_6 : decode cX11_bounded 6 = .ok (.invokestatic 348, 3) := by decide +kernel
theorem dX11_bounded_9 : decode cX11_bounded 9 = .ok (.ireturn, 1) := by decide +kernel
theorem dX12_init_0 : decode cX12_init 0 = .ok (.aload_n 0, 1) := by decide +kernel
theorem dX12_init_1 : decode cX12_init 1 = .ok (.invokespecial 1, 3) := by decide +kernel
theorem dX12_init_4 : decode cX12_init 4 = .ok (.aload_n 0, 1) := by decide +kernel
theorem dX12_init_5 : decode cX12_init 5 = .ok (.bipush 98, 2) := by decide +kernel
theorem dX12_init_7 : decode cX12_init 7 = .ok (.newarray .int, 2) := by decide +kernel
theorem dX12_init_9 : decode cX12_init 9 = .ok (.putfield 7, 3) := by decide +kernel
theorem dX12_init_12 : decode cX12_init 12 = .ok (.aload_n 0, 1) := by decide +kernel
theorem dX12_init_13 : decode cX12_init 13 = .ok (.bipush 98, 2) := by decide +kernel
theorem dX12_init_15 : decode cX12_init 15 = .ok (.newarray .int, 2) := by decide +kernel
theorem dX12_init_17 : decode cX12_init 17 = .ok (.putfield 13, 3) := by decide +kernel
theorem dX12_init_20 : decode cX12_init 20 = .ok (.aload_n 0, 1) := by decide +kernel
theorem dX12_init_21 : decode cX12_init 21 = .ok (.bipush 98, 2) := by decide +kernel
theorem dX12_init_23 : decode cX12_init 23 = .ok (.newarray .int, 2) := by decide +kernel
theorem dX12_init_25 : decode cX12_init 25 = .ok (.putfield 16, 3) := by decide +kernel
theorem dX12_init_28 : decode cX12_init 28 = .ok (.aload_n 0, 1) := by decide +kernel
theorem dX12_init_29 : decode cX12_init 29 = .ok (.sipush 260, 3) := by decide +kernel
theorem dX12_init_32 : decode cX12_init 32 = .ok (.newarray .byte, 2) := by decide +kernel
theorem dX12_init_34 : decode cX12_init 34 = .ok (.putfield 19, 3) := by decide +kernel
theorem dX12_init_37 : decode cX12_init 37 = .ok (.aload_n 0, 1) := by decide +kernel
theorem dX12_init_38 : decode cX12_init 38 = .ok (.sipush 260, 3) := by decide +kernel
theorem dX12_init_41 : decode cX12_init 41 = .ok (.newarray .int, 2) := by decide +kernel
theorem dX12_init_43 : decode cX12_init 43 = .ok (.putfield 23, 3) := by decide +kernel
theorem dX12_init_46 : decode cX12_init 46 = .ok (.aload_n 0, 1) := by decide +kernel
theorem dX12_init_47 : decode cX12_init 47 = .ok (.sipush 260, 3) := by decide +kernel
theorem dX12_init_50 : decode cX12_init 50 = .ok (.newarray .int, 2) := by decide +kernel
theorem dX12_init_52 : decode cX12_init 52 = .ok (.putfield 26, 3) := by decide +kernel
theorem dX12_init_55 : decode cX12_init 55 = .ok (.aload_n 0, 1) := by decide +kernel
theorem dX12_init_56 : decode cX12_init 56 = .ok (.bipush 16, 2) := by decide +kernel
theorem dX12_init_58 : decode cX12_init 58 = .ok (.newarray .int, 2) := by decide +kernel
theorem dX12_init_60 : decode cX12_init 60 = .ok (.putfield 29, 3) := by decide +kernel
theorem dX12_init_63 : decode cX12_init 63 = .ok (.aload_n 0, 1) := by decide +kernel
theorem dX12_init_64 : decode cX12_init 64 = .ok (.bipush 16, 2) := by decide +kernel
theorem dX12_init_66 : decode cX12_init 66 = .ok (.newarray .int, 2) := by decide +kernel
theorem dX12_init_68 : decode cX12_init 68 = .ok (.putfield 32, 3) := by decide +kernel
theorem dX12_init_71 : decode cX12_init 71 = .ok (.aload_n 0, 1) := by decide +kernel
theorem dX12_init_72 : decode cX12_init 72 = .ok (.bipush 16, 2) := by decide +kernel
theorem dX12_init_74 : decode cX12_init 74 = .ok (.newarray .int, 2) := by decide +kernel
theorem dX12_init_76 : decode cX12_init 76 = .ok (.putfield 35, 3) := by decide +kernel
theorem dX12_init_79 : decode cX12_init 79 = .ok (.aload_n 0, 1) := by decide +kernel
theorem dX12_init_80 : decode cX12_init 80 = .ok (.bipush 16, 2) := by decide +kernel
theorem dX12_init_82 : decode cX12_init 82 = .ok (.newarray .int, 2) := by decide +kernel
theorem dX12_init_84 : decode cX12_init 84 = .ok (.putfield 38, 3) := by decide +kernel
theorem dX12_init_87 : decode cX12_init 87 = .ok (.aload_n 0, 1) := by decide +kernel
theorem dX12_init_88 : decode cX12_init 88 = .ok (.sipush 260, 3) := by decide +kernel
theorem dX12_init_91 : decode cX12_init 91 = .ok (.newarray .int, 2) := by decide +kernel
theorem dX12_init_93 : decode cX12_init 93 = .ok (.putfield 41, 3) := by decide +kernel
theorem dX12_init_96 : decode cX12_init 96 = .ok (.aload_n 0, 1) := by decide +kernel
theorem dX12_init_97 : decode cX12_init 97 = .ok (.bipush 16, 2) := by decide +kernel
theorem dX12_init_99 : decode cX12_init 99 = .ok (.newarray .int, 2) := by decide +kernel
theorem dX12_init_101 : decode cX12_init 101 = .ok (.putfield 44, 3) := by decide +kernel
theorem dX12_init_104 : decode cX12_init 104 = .ok (.aload_n 0, 1) := by decide +kernel
theorem dX12_init_105 : decode cX12_init 105 = .ok (.bipush 16, 2) := by decide +kernel
theorem dX12_init_107 : decode cX12_init 107 = .ok (.newarray .int, 2) := by decide +kernel
theorem dX12_init_109 : decode cX12_init 109 = .ok (.putfield 47, 3) := by decide +kernel
theorem dX12_init_112 : decode cX12_init 112 = .ok (.aload_n 0, 1) := by decide +kernel
theorem dX12_init_113 : decode cX12_init 113 = .ok (.bipush 16, 2) := by decide +kernel
theorem dX12_init_115 : decode cX12_init 115 = .ok (.newarray .int, 2) := by decide +kernel
theorem dX12_init_117 : decode cX12_init 117 = .ok (.putfield 50, 3) := by decide +kernel
theorem dX12_init_120 : decode cX12_init 120 = .ok (.aload_n 0, 1) := by decide +kernel
theorem dX12_init_121 : decode cX12_init 121 = .ok (.bipush 16, 2) := by decide +kernel
theorem dX12_init_123 : decode cX12_init 123 = .ok (.newarray .int, 2) := by decide +kernel
theorem dX12_init_125 : decode cX12_init 125 = .ok (.putfield 53, 3) := by decide +kernel
theorem dX12_init_128 : decode cX12_init 128 = .ok (.aload_n 0, 1) := by decide +kernel
theorem dX12_init_129 : decode cX12_init 129 = .ok (.sipush 260, 3) := by decide +kernel
theorem dX12_init_132 : decode cX12_init 132 = .ok (.newarray .int, 2) := by decide +kernel
theorem dX12_init_134 : decode cX12_init 134 = .ok (.putfield 56, 3) := by decide +kernel
theorem dX12_init_137 : decode cX12_init 137 = .ok (.aload_n 0, 1) := by decide +kernel
theorem dX12_init_138 : decode cX12_init 138 = .ok (.bipush 8, 2) := by decide +kernel
theorem dX12_init_140 : decode cX12_init 140 = .ok (.newarray .int, 2) := by decide +kernel
theorem dX12_init_142 : decode cX12_init 142 = .ok (.putfield 59, 3) := by decide +kernel
theorem dX12_init_145 : decode cX12_init 145 = .ok (.aload_n 0, 1) := by decide +kernel
theorem dX12_init_146 : decode cX12_init 146 = .ok (.bipush 16, 2) := by decide +kernel
theorem dX12_init_148 : decode cX12_init 148 = .ok (.newarray .int, 2) := by decide +kernel
theorem dX12_init_150 : decode cX12_init 150 = .ok (.putfield 62, 3) := by decide +kernel
theorem dX12_init_153 : decode cX12_init 153 = .ok (.aload_n 0, 1) := by decide +kernel
theorem dX12_init_154 : decode cX12_init 154 = .ok (.bipush 16, 2) := by decide +kernel
theorem dX12_init_156 : decode cX12_init 156 = .ok (.newarray .int, 2) := by decide +kernel
theorem dX12_init_158 : decode cX12_init 158 = .ok (.putfield 65, 3) := by decide +kernel
theorem dX12_init_161 : decode cX12_init 161 = .ok (.aload_n 0, 1) := by decide +kernel
theorem dX12_init_162 : decode cX12_init 162 = .ok (.bipush 16, 2) := by decide +kernel
theorem dX12_init_164 : decode cX12_init 164 = .ok (.newarray .int, 2) := by decide +kernel
theorem dX12_init_166 : decode cX12_init 166 = .ok (.putfield 68, 3) := by decide +kernel
theorem dX12_init_169 : decode cX12_init 169 = .ok (.aload_n 0, 1) := by decide +kernel
theorem dX12_init_170 : decode cX12_init 170 = .ok (.bipush 16, 2) := by decide +kernel
theorem dX12_init_172 : decode cX12_init 172 = .ok (.newarray .int, 2) := by decide +kernel
theorem dX12_init_174 : decode cX12_init 174 = .ok (.putfield 71, 3) := by decide +kernel
theorem dX12_init_177 : decode cX12_init 177 = .ok (.aload_n 0, 1) := by decide +kernel
theorem dX12_init_178 : decode cX12_init 178 = .ok (.bipush 16, 2) := by decide +kernel
theorem dX12_init_180 : decode cX12_init 180 = .ok (.newarray .int, 2) := by decide +kernel
theorem dX12_init_182 : decode cX12_init 182 = .ok (.putfield 74, 3) := by decide +kernel
theorem dX12_init_185 : decode cX12_init 185 = .ok (.aload_n 0, 1) := by decide +kernel
theorem dX12_init_186 : decode cX12_init 186 = .ok (.bipush 16, 2) := by decide +kernel
theorem dX12_init_188 : decode cX12_init 188 = .ok (.newarray .int, 2) := by decide +kernel
theorem dX12_init_190 : decode cX12_init 190 = .ok (.putfield 77, 3) := by decide +kernel
theorem dX12_init_193 : decode cX12_init 193 = .ok (.aload_n 0, 1) := by decide +kernel
theorem dX12_init_194 : decode cX12_init 194 = .ok (.bipush 8, 2) := by decide +kernel
theorem dX12_init_196 : decode cX12_init 196 = .ok (.newarray .int, 2) := by decide +kernel
theorem dX12_init_198 : decode cX12_init 198 = .ok (.putfield 80, 3) := by decide +kernel
theorem dX12_init_201 : decode cX12_init 201 = .ok (.aload_n 0, 1) := by decide +kernel
theorem dX12_init_202 : decode cX12_init 202 = .ok (.sipush 256, 3) := by decide +kernel
theorem dX12_init_205 : decode cX12_init 205 = .ok (.newarray .int, 2) := by decide +kernel
theorem dX12_init_207 : decode cX12_init 207 = .ok (.putfield 83, 3) := by decide +kernel
theorem dX12_init_210 : decode cX12_init 210 = .ok (.aload_n 0, 1) := by decide +kernel
theorem dX12_init_211 : decode cX12_init 211 = .ok (.bipush 16, 2) := by decide +kernel
theorem dX12_init_213 : decode cX12_init 213 = .ok (.newarray .int, 2) := by decide +kernel
theorem dX12_init_215 : decode cX12_init 215 = .ok (.putfield 86, 3) := by decide +kernel
theorem dX12_init_218 : decode cX12_init 218 = .ok (.aload_n 0, 1) := by decide +kernel
theorem dX12_init_219 : decode cX12_init 219 = .ok (.sipush 4081, 3) := by decide +kernel
theorem dX12_init_222 : decode cX12_init 222 = .ok (.newarray .int, 2) := by decide +kernel
theorem dX12_init_224 : decode cX12_init 224 = .ok (.putfield 89, 3) := by decide +kernel
theorem dX12_init_227 : decode cX12_init 227 = .ok (.aload_n 0, 1) := by decide +kernel
theorem dX12_init_228 : decode cX12_init 228 = .ok (.sipush 4081, 3) := by decide +kernel
theorem dX12_init_231 : decode cX12_init 231 = .ok (.newarray .int, 2) := by decide +kernel
theorem dX12_init_233 : decode cX12_init 233 = .ok (.putfield 92, 3) := by decide +kernel
theorem dX12_init_236 : decode cX12_init 236 = .ok (.aload_n 0, 1) := by decide +kernel
theorem dX12_init_237 : decode cX12_init 237 = .ok (.iconst 5, 1) := by decide +kernel
theorem dX12_init_238 : decode cX12_init 238 = .ok (.newarray .int, 2) := by decide +kernel
theorem dX12_init_240 : decode cX12_init 240 = .ok (.putfield 95, 3) := by decide +kernel
theorem dX12_init_243 : decode cX12_init 243 = .ok (.aload_n 0, 1) := by decide +kernel
theorem dX12_init_244 : decode cX12_init 244 = .ok (.bipush 16, 2) := by decide +kernel
theorem dX12_init_246 : decode cX12_init 246 = .ok (.newarray .int, 2) := by decide +kernel
theorem dX12_init_248 : decode cX12_init 248 = .ok (.putfield 98, 3) := by decide +kernel
theorem dX12_init_251 : decode cX12_init 251 = .ok (.aload_n 0, 1) := by decide +kernel
theorem dX12_init_252 : decode cX12_init 252 = .ok (.getfield 7, 3) := by decide +kernel
theorem dX12_init_255 : decode cX12_init 255 = .ok (.bipush 97, 2) := by decide +kernel
theorem dX12_init_257 : decode cX12_init 257 = .ok (.iconst 1, 1) := by decide +kernel
theorem dX12_init_258 : decode cX12_init 258 = .ok (.iastore, 1) := by decide +kernel
theorem dX12_init_259 : decode cX12_init 259 = .ok (.aload_n 0, 1) := by decide +kernel
theorem dX12_init_260 : decode cX12_init 260 = .ok (.iconst 5, 1) := by decide +kernel
theorem dX12_init_261 : decode cX12_init 261 = .ok (.putfield 101, 3) := by decide +kernel
theorem dX12_init_264 : decode cX12_init 264 = .ok (.return_, 1) := by decide +kernel
theorem dX12_in_0 : decode cX12_in 0 = .ok (.iload_n 0, 1) := by decide +kernel
theorem dX12_in_1 : decode cX12_in 1 = .ok (.iload_n 1, 1) := by decide +kernel
theorem dX12_in_2 : decode cX12_in 2 = .ok (.if_icmp .lt 12, 3) := by decide +kernel
theorem dX12_in_5 : decode cX12_in 5 = .ok (.iload_n 0, 1) := by decide +kernel
theorem dX12_in_6 : decode cX12_in 6 = .ok (.iload_n 2, 1) := by decide +kernel
theorem dX12_in_7 : decode cX12_in 7 = .ok (.if_icmp .gt 7, 3) := by decide +kernel
theorem dX12_in_10 : decode cX12_in 10 = .ok (.iconst 1, 1) := by decide +kernel
theorem dX12_in_11 : decode cX12_in 11 = .ok (.goto 4, 3) := by decide +kernel
theorem dX12_in_14 : decode cX12_in 14 = .ok (.iconst 0, 1) := by decide +kernel
theorem dX12_in_15 : decode cX12_in 15 = .ok (.ireturn, 1) := by decide +kernel
theorem dX12_min_0 : decode cX12_min 0 = .ok (.iload_n 0, 1) := by decide +kernel
theorem dX12_min_1 : decode cX12_min 1 = .ok (.iload_n 1, 1) := by decide +kernel
theorem dX12_min_2 : decode cX12_min 2 = .ok (.if_icmp .ge 7, 3) := by decide +kernel
theorem dX12_min_5 : decode cX12_min 5 = .ok (.iload_n 0, 1) := by decide +kernel
theorem dX12_min_6 : decode cX12_min 6 = .ok (.goto 4, 3) := by decide +kernel
theorem dX12_min_9 : decode cX12_min 9 = .ok (.iload_n 1, 1) := by decide +kernel
theorem dX12_min_10 : decode cX12_min 10 = .ok (.ireturn, 1) := by decide +kernel
theorem dX12_max_0 : decode cX12_max 0 = .ok (.iload_n 0, 1) := by decide +kernel
theorem dX12_max_1 : decode cX12_max 1 = .ok (.iload_n 1, 1) := by decide +kernel
theorem dX12_max_2 : decode cX12_max 2 = .ok (.if_icmp .le 7, 3) := by decide +kernel
theorem dX12_max_5 : decode cX12_max 5 = .ok (.iload_n 0, 1) := by decide +kernel
theorem dX12_max_6 : decode cX12_max 6 = .ok (.goto 4, 3) := by decide +kernel
theorem dX12_max_9 : decode cX12_max 9 = .ok (.iload_n 1, 1) := by decide +kernel
theorem dX12_max_10 : decode cX12_max 10 = .ok (.ireturn, 1) := by decide +kernel
theorem dX12_size_0 : decode cX12_size 0 = .ok (.iload_n 0, 1) := by decide +kernel
theorem dX12_size_1 : decode cX12_size 1 = .ok (.ifCond .ge 8, 3) := by decide +kernel
theorem dX12_size_4 : decode cX12_size 4 = .ok (.iload_n 0, 1) := by decide +kernel
theorem dX12_size_5 : decode cX12_size 5 = .ok (.ineg, 1) := by decide +kernel
theorem dX12_size_6 : decode cX12_size 6 = .ok (.goto 4, 3) := by decide +kernel
theorem dX12_size_9 : decode cX12_size 9 = .ok (.iload_n 0, 1) := by decide +kernel
theorem dX12_size_10 : decode cX12_size 10 = .ok (.ireturn, 1) := by decide +kernel
theorem dX12_has_0 : decode cX12_has 0 = .ok (.iload_n 0, 1) := by decide +kernel
theorem dX12_has_1 : decode cX12_has 1 = .ok (.iload_n 1, 1) := by decide +kernel
theorem dX12_has_2 : decode cX12_has 2 = .ok (.ishr, 1) := by decide +kernel
theorem dX12_has_3 : decode cX12_has 3 = .ok (.iconst 1, 1) := by decide +kernel
theorem dX12_has_4 : decode cX12_has 4 = .ok (.iand, 1) := by decide +kernel
theorem dX12_has_5 : decode cX12_has 5 = .ok (.iconst 1, 1) := by decide +kernel
theorem dX12_has_6 : decode cX12_has 6 = .ok (.if_icmp .ne 7, 3) := by decide +kernel
theorem dX12_has_9 : decode cX12_has 9 = .ok (.iconst 1, 1) := by decide +kernel
theorem dX12_has_10 : decode cX12_has 10 = .ok (.goto 4, 3) := by decide +kernel
theorem dX12_has_13 : decode cX12_has 13 = .ok (.iconst 0, 1) := by decide +kernel
theorem dX12_has_14 : decode cX12_has 14 = .ok (.ireturn, 1) := by decide +kernel
theorem dX12_bits_0 : decode cX12_bits 0 = .ok (.iconst 0, 1) := by decide +kernel
theorem dX12_bits_1 : decode cX12_bits 1 = .ok (.istore_n 1, 1) := by decide +kernel
theorem dX12_bits_2 : decode cX12_bits 2 = .ok (.iconst 0, 1) := by decide +kernel
theorem dX12_bits_3 : decode cX12_bits 3 = .ok (.istore_n 2, 1) := by decide +kernel
theorem dX12_bits_4 : decode cX12_bits 4 = .ok (.iload_n 2, 1) := by decide +kernel
theorem dX12_bits_5 : decode cX12_bits 5 = .ok (.bipush 16, 2) := by decide +kernel
theorem dX12_bits_7 : decode cX12_bits 7 = .ok (.if_icmp .ge 17, 3) := by decide +kernel
theorem dX12_bits_10 : decode cX12_bits 10 = .ok (.iload_n 1, 1) := by decide +kernel
theorem dX12_bits_11 : decode cX12_bits 11 = .ok (.iload_n 0, 1) := by decide +kernel
theorem dX12_bits_12 : decode cX12_bits 12 = .ok (.iload_n 2, 1) := by decide +kernel
theorem dX12_bits_13 : decode cX12_bits 13 = .ok (.ishr, 1) := by decide +kernel
theorem dX12_bits_14 : decode cX12_bits 14 = .ok (.iconst 1, 1) := by decide +kernel
theorem dX12_bits_15 : decode cX12_bits 15 = .ok (.iand, 1) := by decide +kernel
theorem dX12_bits_16 : decode cX12_bits 16 = .ok (.iadd, 1) := by decide +kernel
theorem dX12_bits_17 : decode cX12_bits 17 = .ok (.istore_n 1, 1) := by decide +kernel
theorem dX12_bits_18 : decode cX12_bits 18 = .ok (.iinc 2 1, 3) := by decide +kernel
theorem dX12_bits_21 : decode cX12_bits 21 = .ok (.goto (-17), 3) := by decide +kernel
theorem dX12_bits_24 : decode cX12_bits 24 = .ok (.iload_n 1, 1) := by decide +kernel
theorem dX12_bits_25 : decode cX12_bits 25 = .ok (.ireturn, 1) := by decide +kernel
theorem dX12_copies_0 : decode cX12_copies 0 = .ok (.iconst 0, 1) := by decide +kernel
theorem dX12_copies_1 : decode cX12_copies 1 = .ok (.istore_n 2, 1) := by decide +kernel
theorem dX12_copies_2 : decode cX12_copies 2 = .ok (.iload_n 2, 1) := by decide +kernel
theorem dX12_copies_3 : decode cX12_copies 3 = .ok (.bipush 98, 2) := by decide +kernel
theorem dX12_copies_5 : decode cX12_copies 5 = .ok (.if_icmp .ge 15, 3) := by decide +kernel
theorem dX12_copies_8 : decode cX12_copies 8 = .ok (.aload_n 1, 1) := by decide +kernel
theorem dX12_copies_9 : decode cX12_copies 9 = .ok (.iload_n 2, 1) := by decide +kernel
theorem dX12_copies_10 : decode cX12_copies 10 = .ok (.aload_n 0, 1) := by decide +kernel
theorem dX12_copies_11 : decode cX12_copies 11 = .ok (.iload_n 2, 1) := by decide +kernel
theorem dX12_copies_12 : decode cX12_copies 12 = .ok (.iaload, 1) := by decide +kernel
theorem dX12_copies_13 : decode cX12_copies 13 = .ok (.iastore, 1) := by decide +kernel
theorem dX12_copies_14 : decode cX12_copies 14 = .ok (.iinc 2 1, 3) := by decide +kernel
theorem dX12_copies_17 : decode cX12_copies 17 = .ok (.goto (-15), 3) := by decide +kernel
theorem dX12_copies_20 : decode cX12_copies 20 = .ok (.return_, 1) := by decide +kernel
set_option maxRecDepth 20000 in
theorem ggX12_isTold_X12_in : GoodIn wsX12_isTold wsX12_in := goodIn_r _ [5] (by decide +kernel) (by decide +kernel)
set_option maxRecDepth 20000 in
theorem gX12_isTold_X12_in : GoodIn wsX12_isTold (va_wsS RX12 105 yX12_in wsX12_in) := goodIn_app (goodIn_of _ (by decide +kernel)) ggX12_isTold_X12_in
theorem dX12_isTold_0 : decode cX12_isTold 0 = .ok (.iload_n 1, 1) := by decide +kernel
theorem dX12_isTold_1 : decode cX12_isTold 1 = .ok (.iconst 0, 1) := by decide +kernel
theorem dX12_isTold_2 : decode cX12_isTold 2 = .ok (.bipush 15, 2) := by decide +kernel
theorem dX12_isTold_4 : decode cX12_isTold 4 = .ok (.invokestatic 105, 3) := by decide +kernel
theorem dX12_isTold_7 : decode cX12_isTold 7 = .ok (.ifCond .eq 19, 3) := by decide +kernel
theorem dX12_isTold_10 : decode cX12_isTold 10 = .ok (.aload_n 0, 1) := by decide +kernel
theorem dX12_isTold_11 : decode cX12_isTold 11 = .ok (.getfield 7, 3) := by decide +kernel
theorem dX12_isTold_14 : decode cX12_isTold 14 = .ok (.iconst 0, 1) := by decide +kernel
theorem dX12_isTold_15 : decode cX12_isTold 15 = .ok (.iload_n 1, 1) := by decide +kernel
theorem dX12_isTold_16 : decode cX12_isTold 16 = .ok (.iadd, 1) := by decide +kernel
theorem dX12_isTold_17 : decode cX12_isTold 17 = .ok (.iaload, 1) := by decide +kernel
theorem dX12_isTold_18 : decode cX12_isTold 18 = .ok (.iconst 1, 1) := by decide +kernel
theorem dX12_isTold_19 : decode cX12_isTold 19 = .ok (.if_icmp .ne 7, 3) := by decide +kernel
theorem dX12_isTold_22 : decode cX12_isTold 22 = .ok (.iconst 1, 1) := by decide +kernel
theorem dX12_isTold_23 : decode cX12_isTold 23 = .ok (.goto 4, 3) := by decide +kernel
theorem dX12_isTold_26 : decode cX12_isTold 26 = .ok (.iconst 0, 1) := by decide +kernel
theorem dX12_isTold_27 : decode cX12_isTold 27 = .ok (.ireturn, 1) := by decide +kernel
set_option maxRecDepth 20000 in
theorem ggX12_isHere_X12_isTold : GoodIn wsX12_isHere wsX12_isTold := goodIn_r _ [6, 1, 7, 8, 5, 9, 10, 11, 12, 13, 14, 15, 16, 17, 18, 19, 20, 21, 22, 23, 24, 25, 26, 27, 28, 29, 30, 31, 32, 33, 34, 35, 36, 37, 38, 39, 40, 41, 42, 43, 44, 45, 46, 47, 48, 49, 50, 51, 52, 53, 54, 55, 56, 57, 58, 59, 60, 61] (by decide +kernel) (by decide +kernel)
set_option maxRecDepth 20000 in
theorem gX12_isHere_X12_isTold : GoodIn wsX12_isHere (wsV RX12 109 RX12 yX12_isTold wsX12_isTold) := goodIn_app (goodIn_of _ (by decide +kernel)) ggX12_isHere_X12_isTold
theorem dX12_isHere_0 : decode cX12_isHere 0 = .ok (.aload_n 0, 1) := by decide +kernel
theorem dX12_isHere_1 : decode cX12_isHere 1 = .ok (.iload_n 1, 1) := by decide +kernel
theorem dX12_isHere_2 : decode cX12_isHere 2 = .ok (.invokevirtual 109, 3) := by decide +kernel
theorem dX12_isHere_5 : decode cX12_isHere 5 = .ok (.ifCond .eq 19, 3) := by decide +kernel
theorem dX12_isHere_8 : decode cX12_isHere 8 = .ok (.aload_n 0, 1) := by decide +kernel
theorem dX12_isHere_9 : decode cX12_isHere 9 = .ok (.getfield 7, 3) := by decide +kernel
theorem dX12_isHere_12 : decode cX12_isHere 12 = .ok (.bipush 48, 2) := by decide +kernel
theorem dX12_isHere_14 : decode cX12_isHere 14 = .ok (.iload_n 1, 1) := by decide +kernel
theorem dX12_isHere_15 : decode cX12_isHere 15 = .ok (.iadd, 1) := by decide +kernel
theorem dX12_isHere_16 : decode cX12_isHere 16 = .ok (.iaload, 1) := by decide +kernel
theorem dX12_isHere_17 : decode cX12_isHere 17 = .ok (.ifCond .ne 7, 3) := by decide +kernel
theorem dX12_isHere_20 : decode cX12_isHere 20 = .ok (.iconst 1, 1) := by decide +kernel
theorem dX12_isHere_21 : decode cX12_isHere 21 = .ok (.goto 4, 3) := by decide +kernel
theorem dX12_isHere_24 : decode cX12_isHere 24 = .ok (.iconst 0, 1) := by decide +kernel
theorem dX12_isHere_25 : decode cX12_isHere 25 = .ok (.ireturn, 1) := by decide +kernel
set_option maxRecDepth 20000 in
theorem ggX12_toldSet_X12_isTold : GoodIn wsX12_toldSet wsX12_isTold := goodIn_r _ [5, 6, 7, 8, 4, 9, 10, 11, 12, 13, 14, 15, 16, 17, 18, 19, 20, 21, 22, 23, 24, 25, 26, 27, 28, 29, 30, 31, 32, 33, 34, 35, 36, 37, 38, 39, 40, 41, 42, 43, 44, 45, 46, 47, 48, 49, 50, 51, 52, 53, 54, 55, 56, 57, 58, 59, 60, 61] (by decide +kernel) (by decide +kernel)
set_option maxRecDepth 20000 in
theorem gX12_toldSet_X12_isTold : GoodIn wsX12_toldSet (wsV RX12 109 RX12 yX12_isTold wsX12_isTold) := goodIn_app (goodIn_of _ (by decide +kernel)) ggX12_toldSet_X12_isTold
theorem dX12_toldSet_0 : decode cX12_toldSet 0 = .ok (.iconst 0, 1) := by decide +kernel
theorem dX12_toldSet_1 : decode cX12_toldSet 1 = .ok (.istore_n 1, 1) := by decide +kernel
theorem dX12_toldSet_2 : decode cX12_toldSet 2 = .ok (.iconst 0, 1) := by decide +kernel
theorem dX12_toldSet_3 : decode cX12_toldSet 3 = .ok (.istore_n 2, 1) := by decide +kernel
theorem dX12_toldSet_4 : decode cX12_toldSet 4 = .ok (.iload_n 2, 1) := by decide +kernel
theorem dX12_toldSet_5 : decode cX12_toldSet 5 = .ok (.bipush 16, 2) := by decide +kernel
theorem dX12_toldSet_7 : decode cX12_toldSet 7 = .ok (.if_icmp .ge 23, 3) := by decide +kernel
theorem dX12_toldSet_10 : decode cX12_toldSet 10 = .ok (.aload_n 0, 1) := by decide +kernel
theorem dX12_toldSet_11 : decode cX12_toldSet 11 = .ok (.iload_n 2, 1) := by decide +kernel
theorem dX12_toldSet_12 : decode cX12_toldSet 12 = .ok (.invokevirtual 109, 3) := by decide +kernel
theorem dX12_toldSet_15 : decode cX12_toldSet 15 = .ok (.ifCond .eq 9, 3) := by decide +kernel
theorem dX12_toldSet_18 : decode cX12_toldSet 18 = .ok (.iload_n 1, 1) := by decide +kernel
theorem dX12_toldSet_19 : decode cX12_toldSet 19 = .ok (.iconst 1, 1) := by decide +kernel
theorem dX12_toldSet_20 : decode cX12_toldSet 20 = .ok (.iload_n 2, 1) := by decide +kernel
theorem dX12_toldSet_21 : decode cX12_toldSet 21 = .ok (.ishl, 1) := by decide +kernel
theorem dX12_toldSet_22 : decode cX12_toldSet 22 = .ok (.ior, 1) := by decide +kernel
theorem dX12_toldSet_23 : decode cX12_toldSet 23 = .ok (.istore_n 1, 1) := by decide +kernel
theorem dX12_toldSet_24 : decode cX12_toldSet 24 = .ok (.iinc 2 1, 3) := by decide +kernel
theorem dX12_toldSet_27 : decode cX12_toldSet 27 = .ok (.goto (-23), 3) := by decide +kernel
theorem dX12_toldSet_30 : decode cX12_toldSet 30 = .ok (.iload_n 1, 1) := by decide +kernel
theorem dX12_toldSet_31 : decode cX12_toldSet 31 = .ok (.ireturn, 1) := by decide +kernel
set_option maxRecDepth 20000 in
theorem ggX12_hereSet_X12_isHere : GoodIn wsX12_hereSet wsX12_isHere := goodIn_r _ [5, 6, 7, 8, 9, 4, 10, 11, 12, 13, 14, 15, 16, 17, 18, 19, 20, 21, 22, 23, 24, 25, 26, 27, 28, 29, 30, 31, 32, 33, 34, 35, 36, 37, 38, 39, 40, 41, 42, 43, 44, 45, 46, 47, 48, 49, 50, 51, 52, 53, 54, 55, 56, 57, 58, 59, 60, 61, 62, 63, 64, 65] (by decide +kernel) (by decide +kernel)
set_option maxRecDepth 20000 in
theorem gX12_hereSet_X12_isHere : GoodIn wsX12_hereSet (wsV RX12 113 RX12 yX12_isHere wsX12_isHere) := goodIn_app (goodIn_of _ (by decide +kernel)) ggX12_hereSet_X12_isHere
theorem dX12_hereSet_0 : decode cX12_hereSet 0 = .ok (.iconst 0, 1) := by decide +kernel
theorem dX12_hereSet_1 : decode cX12_hereSet 1 = .ok (.istore_n 1, 1) := by decide +kernel
theorem dX12_hereSet_2 : decode cX12_hereSet 2 = .ok (.iconst 0, 1) := by decide +kernel
theorem dX12_hereSet_3 : decode cX12_hereSet 3 = .ok (.istore_n 2, 1) := by decide +kernel
theorem dX12_hereSet_4 : decode cX12_hereSet 4 = .ok (.iload_n 2, 1) := by decide +kernel
theorem dX12_hereSet_5 : decode cX12_hereSet 5 = .ok (.bipush 16, 2) := by decide +kernel
theorem dX12_hereSet_7 : decode cX12_hereSet 7 = .ok (.if_icmp .ge 23, 3) := by decide +kernel
theorem dX12_hereSet_10 : decode cX12_hereSet 10 = .ok (.aload_n 0, 1) := by decide +kernel
theorem dX12_hereSet_11 : decode cX12_hereSet 11 = .ok (.iload_n 2, 1) := by decide +kernel
theorem dX12_hereSet_12 : decode cX12_hereSet 12 = .ok (.invokevirtual 113, 3) := by decide +kernel
theorem dX12_hereSet_15 : decode cX12_hereSet 15 = .ok (.ifCond .eq 9, 3) := by decide +kernel
theorem dX12_hereSet_18 : decode cX12_hereSet 18 = .ok (.iload_n 1, 1) := by decide +kernel
theorem dX12_hereSet_19 : decode cX12_hereSet 19 = .ok (.iconst 1, 1) := by decide +kernel
theorem dX12_hereSet_20 : decode cX12_hereSet 20 = .ok (.iload_n 2, 1) := by decide +kernel
theorem dX12_hereSet_21 : decode cX12_hereSet 21 = .ok (.ishl, 1) := by decide +kernel
theorem dX12_hereSet_22 : decode cX12_hereSet 22 = .ok (.ior, 1) := by decide +kernel
theorem dX12_hereSet_23 : decode cX12_hereSet 23 = .ok (.istore_n 1, 1) := by decide +kernel
theorem dX12_hereSet_24 : decode cX12_hereSet 24 = .ok (.iinc 2 1, 3) := by decide +kernel
theorem dX12_hereSet_27 : decode cX12_hereSet 27 = .ok (.goto (-23), 3) := by decide +kernel
theorem dX12_hereSet_30 : decode cX12_hereSet 30 = .ok (.iload_n 1, 1) := by decide +kernel
theorem dX12_hereSet_31 : decode cX12_hereSet 31 = .ok (.ireturn, 1) := by decide +kernel
set_option maxRecDepth 20000 in
theorem ggX12_walker_X12_in : GoodIn wsX12_walker wsX12_in := goodIn_r _ [5] (by decide +kernel) (by decide +kernel)
set_option maxRecDepth 20000 in
theorem gX12_walker_X12_in : GoodIn wsX12_walker (va_wsS RX12 105 yX12_in wsX12_in) := goodIn_app (goodIn_of _ (by decide +kernel)) ggX12_walker_X12_in
theorem dX12_walker_0 : decode cX12_walker 0 = .ok (.iload_n 1, 1) := by decide +kernel
theorem dX12_walker_1 : decode cX12_walker 1 = .ok (.iconst 0, 1) := by decide +kernel
theorem dX12_walker_2 : decode cX12_walker 2 = .ok (.bipush 15, 2) := by decide +kernel
theorem dX12_walker_4 : decode cX12_walker 4 = .ok (.invokestatic 105, 3) := by decide +kernel
theorem dX12_walker_7 : decode cX12_walker 7 = .ok (.ifCond .eq 14, 3) := by decide +kernel
theorem dX12_walker_10 : decode cX12_walker 10 = .ok (.iload_n 2, 1) := by decide +kernel
theorem dX12_walker_11 : decode cX12_walker 11 = .ok (.iconst 1, 1) := by decide +kernel
theorem dX12_walker_12 : decode cX12_walker 12 = .ok (.sipush 999, 3) := by decide +kernel
theorem dX12_walker_15 : decode cX12_walker 15 = .ok (.invokestatic 105, 3) := by decide +kernel
theorem dX12_walker_18 : decode cX12_walker 18 = .ok (.ifCond .ne 5, 3) := by decide +kernel
theorem dX12_walker_21 : decode cX12_walker 21 = .ok (.iconst 0, 1) := by decide +kernel
theorem dX12_walker_22 : decode cX12_walker 22 = .ok (.ireturn, 1) := by decide +kernel
theorem dX12_walker_23 : decode cX12_walker 23 = .ok (.aload_n 0, 1) := by decide +kernel
theorem dX12_walker_24 : decode cX12_walker 24 = .ok (.getfield 7, 3) := by decide +kernel
theorem dX12_walker_27 : decode cX12_walker 27 = .ok (.iconst 0, 1) := by decide +kernel
theorem dX12_walker_28 : decode cX12_walker 28 = .ok (.iload_n 1, 1) := by decide +kernel
theorem dX12_walker_29 : decode cX12_walker 29 = .ok (.iadd, 1) := by decide +kernel
theorem dX12_walker_30 : decode cX12_walker 30 = .ok (.iconst 1, 1) := by decide +kernel
theorem dX12_walker_31 : decode cX12_walker 31 = .ok (.iastore, 1) := by decide +kernel
theorem dX12_walker_32 : decode cX12_walker 32 = .ok (.aload_n 0, 1) := by decide +kernel
theorem dX12_walker_33 : decode cX12_walker 33 = .ok (.getfield 7, 3) := by decide +kernel
theorem dX12_walker_36 : decode cX12_walker 36 = .ok (.bipush 16, 2) := by decide +kernel
theorem dX12_walker_38 : decode cX12_walker 38 = .ok (.iload_n 1, 1) := by decide +kernel
theorem dX12_walker_39 : decode cX12_walker 39 = .ok (.iadd, 1) := by decide +kernel
theorem dX12_walker_40 : decode cX12_walker 40 = .ok (.iload_n 2, 1) := by decide +kernel
theorem dX12_walker_41 : decode cX12_walker 41 = .ok (.iastore, 1) := by decide +kernel
theorem dX12_walker_42 : decode cX12_walker 42 = .ok (.aload_n 0, 1) := by decide +kernel
theorem dX12_walker_43 : decode cX12_walker 43 = .ok (.getfield 7, 3) := by decide +kernel
theorem dX12_walker_46 : decode cX12_walker 46 = .ok (.bipush 32, 2) := by decide +kernel
theorem dX12_walker_48 : decode cX12_walker 48 = .ok (.iload_n 1, 1) := by decide +kernel
theorem dX12_walker_49 : decode cX12_walker 49 = .ok (.iadd, 1) := by decide +kernel
theorem dX12_walker_50 : decode cX12_walker 50 = .ok (.iload_n 2, 1) := by decide +kernel
theorem dX12_walker_51 : decode cX12_walker 51 = .ok (.iastore, 1) := by decide +kernel
theorem dX12_walker_52 : decode cX12_walker 52 = .ok (.aload_n 0, 1) := by decide +kernel
theorem dX12_walker_53 : decode cX12_walker 53 = .ok (.getfield 7, 3) := by decide +kernel
theorem dX12_walker_56 : decode cX12_walker 56 = .ok (.bipush 48, 2) := by decide +kernel
theorem dX12_walker_58 : decode cX12_walker 58 = .ok (.iload_n 1, 1) := by decide +kernel
theorem dX12_walker_59 : decode cX12_walker 59 = .ok (.iadd, 1) := by decide +kernel
theorem dX12_walker_60 : decode cX12_walker 60 = .ok (.iconst 0, 1) := by decide +kernel
theorem dX12_walker_61 : decode cX12_walker 61 = .ok (.iastore, 1) := by decide +kernel
theorem dX12_walker_62 : decode cX12_walker 62 = .ok (.aload_n 0, 1) := by decide +kernel
theorem dX12_walker_63 : decode cX12_walker 63 = .ok (.getfield 7, 3) := by decide +kernel
theorem dX12_walker_66 : decode cX12_walker 66 = .ok (.bipush 64, 2) := by decide +kernel
theorem dX12_walker_68 : decode cX12_walker 68 = .ok (.iload_n 1, 1) := by decide +kernel
theorem dX12_walker_69 : decode cX12_walker 69 = .ok (.iadd, 1) := by decide +kernel
theorem dX12_walker_70 : decode cX12_walker 70 = .ok (.iconst 0, 1) := by decide +kernel
theorem dX12_walker_71 : decode cX12_walker 71 = .ok (.iastore, 1) := by decide +kernel
theorem dX12_walker_72 : decode cX12_walker 72 = .ok (.aload_n 0, 1) := by decide +kernel
theorem dX12_walker_73 : decode cX12_walker 73 = .ok (.getfield 7, 3) := by decide +kernel
theorem dX12_walker_76 : decode cX12_walker 76 = .ok (.bipush 80, 2) := by decide +kernel
theorem dX12_walker_78 : decode cX12_walker 78 = .ok (.iload_n 1, 1) := by decide +kernel
theorem dX12_walker_79 : decode cX12_walker 79 = .ok (.iadd, 1) := by decide +kernel
theorem dX12_walker_80 : decode cX12_walker 80 = .ok (.iconst 0, 1) := by decide +kernel
theorem dX12_walker_81 : decode cX12_walker 81 = .ok (.iastore, 1) := by decide +kernel
theorem dX12_walker_82 : decode cX12_walker 82 = .ok (.iconst 1, 1) := by decide +kernel
theorem dX12_walker_83 : decode cX12_walker 83 = .ok (.ireturn, 1) := by decide +kernel
set_option maxRecDepth 20000 in
theorem ggX12_rules_X12_in : GoodIn wsX12_rules wsX12_in := goodIn_r _ [6] (by decide +kernel) (by decide +kernel)
set_option maxRecDepth 20000 in
theorem gX12_rules_X12_in : GoodIn wsX12_rules (va_wsS RX12 105 yX12_in wsX12_in) := goodIn_app (goodIn_of _ (by decide +kernel)) ggX12_rules_X12_in
theorem dX12_rules_0 : decode cX12_rules 0 = .ok (.iload_n 1, 1) := by decide +kernel
theorem dX12_rules_1 : decode cX12_rules 1 = .ok (.iconst 0, 1) := by decide +kernel
theorem dX12_rules_2 : decode cX12_rules 2 = .ok (.bipush 99, 2) := by decide +kernel
theorem dX12_rules_4 : decode cX12_rules 4 = .ok (.invokestatic 105, 3) := by decide +kernel
theorem dX12_rules_7 : decode cX12_rules 7 = .ok (.ifCond .eq 13, 3) := by decide +kernel
theorem dX12_rules_10 : decode cX12_rules 10 = .ok (.iload_n 2, 1) := by decide +kernel
theorem dX12_rules_11 : decode cX12_rules 11 = .ok (.iconst 0, 1) := by decide +kernel
theorem dX12_rules_12 : decode cX12_rules 12 = .ok (.bipush 99, 2) := by decide +kernel
theorem dX12_rules_14 : decode cX12_rules 14 = .ok (.invokestatic 105, 3) := by decide +kernel
theorem dX12_rules_17 : decode cX12_rules 17 = .ok (.ifCond .ne 5, 3) := by decide +kernel
theorem dX12_rules_20 : decode cX12_rules 20 = .ok (.iconst 0, 1) := by decide +kernel
theorem dX12_rules_21 : decode cX12_rules 21 = .ok (.ireturn, 1) := by decide +kernel
theorem dX12_rules_22 : decode cX12_rules 22 = .ok (.aload_n 0, 1) := by decide +kernel
theorem dX12_rules_23 : decode cX12_rules 23 = .ok (.iload_n 1, 1) := by decide +kernel
theorem dX12_rules_24 : decode cX12_rules 24 = .ok (.putfield 116, 3) := by decide +kernel
theorem dX12_rules_27 : decode cX12_rules 27 = .ok (.aload_n 0, 1) := by decide +kernel
theorem dX12_rules_28 : decode cX12_rules 28 = .ok (.iload_n 2, 1) := by decide +kernel
theorem dX12_rules_29 : decode cX12_rules 29 = .ok (.putfield 101, 3) := by decide +kernel
theorem dX12_rules_32 : decode cX12_rules 32 = .ok (.iconst 1, 1) := by decide +kernel
theorem dX12_rules_33 : decode cX12_rules 33 = .ok (.ireturn, 1) := by decide +kernel
theorem dX12_types_0 : decode cX12_types 0 = .ok (.iconst 3, 1) := by decide +kernel
theorem dX12_types_1 : decode cX12_types 1 = .ok (.istore_n 2, 1) := by decide +kernel
theorem dX12_types_2 : decode cX12_types 2 = .ok (.iload_n 2, 1) := by decide +kernel
theorem dX12_types_3 : decode cX12_types 3 = .ok (.ifCond .lt 35, 3) := by decide +kernel
theorem dX12_types_6 : decode cX12_types 6 = .ok (.aload_n 0, 1) := by decide +kernel
theorem dX12_types_7 : decode cX12_types 7 = .ok (.getfield 19, 3) := by decide +kernel
theorem dX12_types_10 : decode cX12_types 10 = .ok (.aload_n 0, 1) := by decide +kernel
theorem dX12_types_11 : decode cX12_types 11 = .ok (.getfield 119, 3) := by decide +kernel
theorem dX12_types_14 : decode cX12_types 14 = .ok (.iload_n 1, 1) := by decide +kernel
theorem dX12_types_15 : decode cX12_types 15 = .ok (.bipush 8, 2) := by decide +kernel
theorem dX12_types_17 : decode cX12_types 17 = .ok (.iload_n 2, 1) := by decide +kernel
theorem dX12_types_18 : decode cX12_types 18 = .ok (.imul, 1) := by decide +kernel
theorem dX12_types_19 : decode cX12_types 19 = .ok (.ishr, 1) := by decide +kernel
theorem dX12_types_20 : decode cX12_types 20 = .ok (.i2b, 1) := by decide +kernel
theorem dX12_types_21 : decode cX12_types 21 = .ok (.bastore, 1) := by decide +kernel
theorem dX12_types_22 : decode cX12_types 22 = .ok (.aload_n 0, 1) := by decide +kernel
theorem dX12_types_23 : decode cX12_types 23 = .ok (.aload_n 0, 1) := by decide +kernel
theorem dX12_types_24 : decode cX12_types 24 = .ok (.getfield 119, 3) := by decide +kernel
theorem dX12_types_27 : decode cX12_types 27 = .ok (.iconst 1, 1) := by decide +kernel
theorem dX12_types_28 : decode cX12_types 28 = .ok (.iadd, 1) := by decide +kernel
theorem dX12_types_29 : decode cX12_types 29 = .ok (.putfield 119, 3) := by decide +kernel
theorem dX12_types_32 : decode cX12_types 32 = .ok (.iinc 2 (-1), 3) := by decide +kernel
theorem dX12_types_35 : decode cX12_types 35 = .ok (.goto (-33), 3) := by decide +kernel
theorem dX12_types_38 : decode cX12_types 38 = .ok (.return_, 1) := by decide +kernel
set_option maxRecDepth 20000 in
theorem ggX12_feed_X12_types : GoodIn wsX12_feed wsX12_types := goodIn_r _ [6, 7, 1, 8, 9, 10, 11, 12, 13, 14, 15, 16, 17, 18, 19, 20, 21, 22, 23, 24, 25, 26, 27, 28, 29, 30, 31, 32, 33, 34, 35, 36, 37, 38, 39, 40, 41, 42, 43, 44, 45, 46, 47, 48, 49, 50, 51, 52, 53, 54, 55, 56, 57, 58, 59] (by decide +kernel) (by decide +kernel)
set_option maxRecDepth 20000 in
theorem gX12_feed_X12_types : GoodIn wsX12_feed (wsV RX12 122 RX12 yX12_types wsX12_types) := goodIn_app (goodIn_of _ (by decide +kernel)) ggX12_feed_X12_types
theorem dX12_feed_0 : decode cX12_feed 0 = .ok (.aload_n 0, 1) := by decide +kernel
theorem dX12_feed_1 : decode cX12_feed 1 = .ok (.getfield 119, 3) := by decide +kernel
theorem dX12_feed_4 : decode cX12_feed 4 = .ok (.bipush 20, 2) := by decide +kernel
theorem dX12_feed_6 : decode cX12_feed 6 = .ok (.iadd, 1) := by decide +kernel
theorem dX12_feed_7 : decode cX12_feed 7 = .ok (.sipush 260, 3) := by decide +kernel
theorem dX12_feed_10 : decode cX12_feed 10 = .ok (.if_icmp .le 5, 3) := by decide +kernel
theorem dX12_feed_13 : decode cX12_feed 13 = .ok (.iconst (-1), 1) := by decide +kernel
theorem dX12_feed_14 : decode cX12_feed 14 = .ok (.ireturn, 1) := by decide +kernel
theorem dX12_feed_15 : decode cX12_feed 15 = .ok (.aload_n 0, 1) := by decide +kernel
theorem dX12_feed_16 : decode cX12_feed 16 = .ok (.iload_n 1, 1) := by decide +kernel
theorem dX12_feed_17 : decode cX12_feed 17 = .ok (.invokevirtual 122, 3) := by decide +kernel
theorem dX12_feed_20 : decode cX12_feed 20 = .ok (.aload_n 0, 1) := by decide +kernel
theorem dX12_feed_21 : decode cX12_feed 21 = .ok (.iload_n 2, 1) := by decide +kernel
theorem dX12_feed_22 : decode cX12_feed 22 = .ok (.invokevirtual 122, 3) := by decide +kernel
theorem dX12_feed_25 : decode cX12_feed 25 = .ok (.aload_n 0, 1) := by decide +kernel
theorem dX12_feed_26 : decode cX12_feed 26 = .ok (.iload_n 3, 1) := by decide +kernel
theorem dX12_feed_27 : decode cX12_feed 27 = .ok (.invokevirtual 122, 3) := by decide +kernel
theorem dX12_feed_30 : decode cX12_feed 30 = .ok (.aload_n 0, 1) := by decide +kernel
theorem dX12_feed_31 : decode cX12_feed 31 = .ok (.iload 4, 2) := by decide +kernel
theorem dX12_feed_33 : decode cX12_feed 33 = .ok (.invokevirtual 122, 3) := by decide +kernel
theorem dX12_feed_36 : decode cX12_feed 36 = .ok (.aload_n 0, 1) := by decide +kernel
theorem dX12_feed_37 : decode cX12_feed 37 = .ok (.iload 5, 2) := by decide +kernel
theorem dX12_feed_39 : decode cX12_feed 39 = .ok (.invokevirtual 122, 3) := by decide +kernel
theorem dX12_feed_42 : decode cX12_feed 42 = .ok (.aload_n 0, 1) := by decide +kernel
theorem dX12_feed_43 : decode cX12_feed 43 = .ok (.getfield 119, 3) := by decide +kernel
theorem dX12_feed_46 : decode cX12_feed 46 = .ok (.ireturn, 1) := by decide +kernel
theorem dX12_octet_0 : decode cX12_octet 0 = .ok (.aload_n 0, 1) := by decide +kernel
theorem dX12_octet_1 : decode cX12_octet 1 = .ok (.getfield 19, 3) := by decide +kernel
theorem dX12_octet_4 : decode cX12_octet 4 = .ok (.iload_n 1, 1) := by decide +kernel
theorem dX12_octet_5 : decode cX12_octet 5 = .ok (.baload, 1) := by decide +kernel
theorem dX12_octet_6 : decode cX12_octet 6 = .ok (.sipush 255, 3) := by decide +kernel
theorem dX12_octet_9 : decode cX12_octet 9 = .ok (.iand, 1) := by decide +kernel
theorem dX12_octet_10 : decode cX12_octet 10 = .ok (.ireturn, 1) := by decide +kernel
theorem dX12_here_0 : decode cX12_here 0 = .ok (.aload_n 0, 1) := by decide +kernel
theorem dX12_here_1 : decode cX12_here 1 = .ok (.getfield 126, 3) := by decide +kernel
theorem dX12_here_4 : decode cX12_here 4 = .ok (.aload_n 0, 1) := by decide +kernel
theorem dX12_here_5 : decode cX12_here 5 = .ok (.getfield 129, 3) := by decide +kernel
theorem dX12_here_8 : decode cX12_here 8 = .ok (.if_icmp .ge 19, 3) := by decide +kernel
theorem dX12_here_11 : decode cX12_here 11 = .ok (.aload_n 0, 1) := by decide +kernel
theorem dX12_here_12 : decode cX12_here 12 = .ok (.getfield 19, 3) := by decide +kernel
theorem dX12_here_15 : decode cX12_here 15 = .ok (.aload_n 0, 1) := by decide +kernel
theorem dX12_here_16 : decode cX12_here 16 = .ok (.getfield 126, 3) := by decide +kernel
theorem dX12_here_19 : decode cX12_here 19 = .ok (.baload, 1) := by decide +kernel
theorem dX12_here_20 : decode cX12_here 20 = .ok (.sipush 255, 3) := by decide +kernel
theorem dX12_here_23 : decode cX12_here 23 = .ok (.iand, 1) := by decide +kernel
theorem dX12_here_24 : decode cX12_here 24 = .ok (.goto 4, 3) := by decide +kernel
theorem dX12_here_27 : decode cX12_here 27 = .ok (.iconst (-1), 1) := by decide +kernel
theorem dX12_here_28 : decode cX12_here 28 = .ok (.ireturn, 1) := by decide +kernel
set_option maxRecDepth 20000 in
theorem ggX12_isDigit_X12_here : GoodIn wsX12_isDigit wsX12_here := goodIn_r _ [5, 6, 7, 8, 9, 10, 11, 12, 13, 14, 15, 16, 17, 18, 19, 20, 21, 22, 23, 24, 25, 26, 27, 28, 29, 30, 31, 32, 33, 34, 35, 36, 37, 38, 39, 40, 41, 42, 43, 44, 45, 46, 47, 48, 49, 50, 51, 52, 53, 54, 55, 56, 57, 58, 59, 60] (by decide +kernel) (by decide +kernel)
set_option maxRecDepth 20000 in
theorem gX12_isDigit_X12_here : GoodIn wsX12_isDigit (wsV RX12 132 RX12 yX12_here wsX12_here) := goodIn_app (goodIn_of _ (by decide +kernel)) ggX12_isDigit_X12_here
theorem dX12_isDigit_0 : decode cX12_isDigit 0 = .ok (.aload_n 0, 1) := by decide +kernel
theorem dX12_isDigit_1 : decode cX12_isDigit 1 = .ok (.invokevirtual 132, 3) := by decide +kernel
theorem dX12_isDigit_4 : decode cX12_isDigit 4 = .ok (.bipush 48, 2) := by decide +kernel
theorem dX12_isDigit_6 : decode cX12_isDigit 6 = .ok (.if_icmp .lt 16, 3) := by decide +kernel
theorem dX12_isDigit_9 : decode cX12_isDigit 9 = .ok (.aload_n 0, 1) := by decide +kernel
theorem dX12_isDigit_10 : decode cX12_isDigit 10 = .ok (.invokevirtual 132, 3) := by decide +kernel
theorem dX12_isDigit_13 : decode cX12_isDigit 13 = .ok (.bipush 57, 2) := by decide +kernel
theorem dX12_isDigit_15 : decode cX12_isDigit 15 = .ok (.if_icmp .gt 7, 3) := by decide +kernel
theorem dX12_isDigit_18 : decode cX12_isDigit 18 = .ok (.iconst 1, 1) := by decide +kernel
theorem dX12_isDigit_19 : decode cX12_isDigit 19 = .ok (.goto 4, 3) := by decide +kernel
theorem dX12_isDigit_22 : decode cX12_isDigit 22 = .ok (.iconst 0, 1) := by decide +kernel
theorem dX12_isDigit_23 : decode cX12_isDigit 23 = .ok (.ireturn, 1) := by decide +kernel
theorem dX12_wrongAt_0 : decode cX12_wrongAt 0 = .ok (.aload_n 0, 1) := by decide +kernel
theorem dX12_wrongAt_1 : decode cX12_wrongAt 1 = .ok (.sipush (-1000), 3) := by decide +kernel
theorem dX12_wrongAt_4 : decode cX12_wrongAt 4 = .ok (.iload_n 1, 1) := by decide +kernel
theorem dX12_wrongAt_5 : decode cX12_wrongAt 5 = .ok (.imul, 1) := by decide +kernel
theorem dX12_wrongAt_6 : decode cX12_wrongAt 6 = .ok (.iload_n 2, 1) := by decide +kernel
theorem dX12_wrongAt_7 : decode cX12_wrongAt 7 = .ok (.isub, 1) := by decide +kernel
theorem dX12_wrongAt_8 : decode cX12_wrongAt 8 = .ok (.putfield 136, 3) := by decide +kernel
theorem dX12_wrongAt_11 : decode cX12_wrongAt 11 = .ok (.iconst 0, 1) := by decide +kernel
theorem dX12_wrongAt_12 : decode cX12_wrongAt 12 = .ok (.ireturn, 1) := by decide +kernel
set_option maxRecDepth 20000 in
theorem ggX12_takes_X12_here : GoodIn wsX12_takes wsX12_here := goodIn_r _ [6, 1, 7, 8, 14, 15, 16, 17, 18, 19, 20, 21, 22, 23, 24, 25, 26, 27, 28, 29, 30, 31, 32, 33, 34, 35, 36, 37, 38, 39, 40, 41, 42, 43, 44, 45, 46, 47, 48, 49, 50, 51, 52, 53, 54, 55, 56, 57, 58, 59, 60, 61, 62, 63, 64, 65] (by decide +kernel) (by decide +kernel)
set_option maxRecDepth 20000 in
theorem gX12_takes_X12_here : GoodIn wsX12_takes (wsV RX12 132 RX12 yX12_here wsX12_here) := goodIn_app (goodIn_of _ (by decide +kernel)) ggX12_takes_X12_here
set_option maxRecDepth 20000 in
theorem ggX12_takes_X12_wrongAt : GoodIn wsX12_takes wsX12_wrongAt := goodIn_r _ [12, 13, 14, 15, 16, 17, 18, 19, 20, 21, 22, 23, 24, 25, 26, 27, 28, 29, 30, 31, 32, 33, 34, 35, 36, 37, 38, 39, 40, 41, 42, 43, 44, 45, 46, 47, 48, 49, 50, 51, 52, 53, 54, 55, 56, 57, 58, 59, 60, 61, 62, 63, 64, 65] (by decide +kernel) (by decide +kernel)
set_option maxRecDepth 20000 in
theorem gX12_takes_X12_wrongAt : GoodIn wsX12_takes (wsV RX12 139 RX12 yX12_wrongAt wsX12_wrongAt) := goodIn_app (goodIn_of _ (by decide +kernel)) ggX12_takes_X12_wrongAt
theorem dX12_takes_0 : decode cX12_takes 0 = .ok (.aload_n 0, 1) := by decide +kernel
theorem dX12_takes_1 : decode cX12_takes 1 = .ok (.invokevirtual 132, 3) := by decide +kernel
theorem dX12_takes_4 : decode cX12_takes 4 = .ok (.iload_n 1, 1) := by decide +kernel
theorem dX12_takes_5 : decode cX12_takes 5 = .ok (.if_icmp .eq 13, 3) := by decide +kernel
theorem dX12_takes_8 : decode cX12_takes 8 = .ok (.aload_n 0, 1) := by decide +kernel
theorem dX12_takes_9 : decode cX12_takes 9 = .ok (.iconst 1, 1) := by decide +kernel
theorem dX12_takes_10 : decode cX12_takes 10 = .ok (.aload_n 0, 1) := by decide +kernel
theorem dX12_takes_11 : decode cX12_takes 11 = .ok (.getfield 126, 3) := by decide +kernel
theorem dX12_takes_14 : decode cX12_takes 14 = .ok (.invokevirtual 139, 3) := by decide +kernel
theorem dX12_takes_17 : decode cX12_takes 17 = .ok (.ireturn, 1) := by decide +kernel
theorem dX12_takes_18 : decode cX12_takes 18 = .ok (.aload_n 0, 1) := by decide +kernel
theorem dX12_takes_19 : decode cX12_takes 19 = .ok (.aload_n 0, 1) := by decide +kernel
theorem dX12_takes_20 : decode cX12_takes 20 = .ok (.getfield 126, 3) := by decide +kernel
theorem dX12_takes_23 : decode cX12_takes 23 = .ok (.iconst 1, 1) := by decide +kernel
theorem dX12_takes_24 : decode cX12_takes 24 = .ok (.iadd, 1) := by decide +kernel
theorem dX12_takes_25 : decode cX12_takes 25 = .ok (.putfield 126, 3) := by decide +kernel
theorem dX12_takes_28 : decode cX12_takes 28 = .ok (.iconst 1, 1) := by decide +kernel
theorem dX12_takes_29 : decode cX12_takes 29 = .ok (.ireturn, 1) := by decide +kernel
set_option maxRecDepth 20000 in
theorem ggX12_readsNumber_X12_isDigit : GoodIn wsX12_readsNumber wsX12_isDigit := goodIn_r _ [7, 8, 9, 10, 6, 11, 1, 12, 13, 19, 20, 21, 22, 23, 24, 25, 26, 27, 28, 29, 30, 31, 32, 33, 34, 35, 36, 37, 38, 39, 40, 41, 42, 43, 44, 45, 46, 47, 48, 49, 50, 51, 52, 53, 54, 55, 56, 57, 58, 59, 60, 61, 62, 63, 64, 65, 66, 67, 68, 69, 70] (by decide +kernel) (by decide +kernel)
set_option maxRecDepth 20000 in
theorem gX12_readsNumber_X12_isDigit : GoodIn wsX12_readsNumber (wsV RX12 146 RX12 yX12_isDigit wsX12_isDigit) := goodIn_app (goodIn_of _ (by decide +kernel)) ggX12_readsNumber_X12_isDigit
set_option maxRecDepth 20000 in
theorem ggX12_readsNumber_X12_wrongAt : GoodIn wsX12_readsNumber wsX12_wrongAt := goodIn_r _ [17, 18, 19, 20, 21, 22, 23, 24, 25, 26, 27, 28, 29, 30, 31, 32, 33, 34, 35, 36, 37, 38, 39, 40, 41, 42, 43, 44, 45, 46, 47, 48, 49, 50, 51, 52, 53, 54, 55, 56, 57, 58, 59, 60, 61, 62, 63, 64, 65, 66, 67, 68, 69, 70] (by decide +kernel) (by decide +kernel)
set_option maxRecDepth 20000 in
theorem gX12_readsNumber_X12_wrongAt : GoodIn wsX12_readsNumber (wsV RX12 139 RX12 yX12_wrongAt wsX12_wrongAt) := goodIn_app (goodIn_of _ (by decide +kernel)) ggX12_readsNumber_X12_wrongAt
