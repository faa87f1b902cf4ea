theorem dX0_init_0 : decode cX0_init 0 = .ok (.aload_n 0, 1) := by decide +kernel
theorem dX0_init_1 : decode cX0_init 1 = .ok (.invokespecial 3, 3) := by decide +kernel
theorem dX0_init_4 : decode cX0_init 4 = .ok (.aload_n 0, 1) := by decide +kernel
theorem dX0_init_5 : decode cX0_init 5 = .ok (.sipush 256, 3) := by decide +kernel
theorem dX0_init_8 : decode cX0_init 8 = .ok (.newarray .int, 2) := by decide +kernel
theorem dX0_init_10 : decode cX0_init 10 = .ok (.putfield 11, 3) := by decide +kernel
theorem dX0_init_13 : decode cX0_init 13 = .ok (.aload_n 0, 1) := by decide +kernel
theorem dX0_init_14 : decode cX0_init 14 = .ok (.sipush 256, 3) := by decide +kernel
theorem dX0_init_17 : decode cX0_init 17 = .ok (.newarray .int, 2) := by decide +kernel
theorem dX0_init_19 : decode cX0_init 19 = .ok (.putfield 15, 3) := by decide +kernel
theorem dX0_init_22 : decode cX0_init 22 = .ok (.aload_n 0, 1) := by decide +kernel
theorem dX0_init_23 : decode cX0_init 23 = .ok (.bipush 16, 2) := by decide +kernel
theorem dX0_init_25 : decode cX0_init 25 = .ok (.newarray .int, 2) := by decide +kernel
theorem dX0_init_27 : decode cX0_init 27 = .ok (.putfield 18, 3) := by decide +kernel
theorem dX0_init_30 : decode cX0_init 30 = .ok (.aload_n 0, 1) := by decide +kernel
theorem dX0_init_31 : decode cX0_init 31 = .ok (.bipush 8, 2) := by decide +kernel
theorem dX0_init_33 : decode cX0_init 33 = .ok (.newarray .int, 2) := by decide +kernel
theorem dX0_init_35 : decode cX0_init 35 = .ok (.putfield 21, 3) := by decide +kernel
theorem dX0_init_38 : decode cX0_init 38 = .ok (.aload_n 0, 1) := by decide +kernel
theorem dX0_init_39 : decode cX0_init 39 = .ok (.sipush 256, 3) := by decide +kernel
theorem dX0_init_42 : decode cX0_init 42 = .ok (.newarray .int, 2) := by decide +kernel
theorem dX0_init_44 : decode cX0_init 44 = .ok (.putfield 24, 3) := by decide +kernel
theorem dX0_init_47 : decode cX0_init 47 = .ok (.aload_n 0, 1) := by decide +kernel
theorem dX0_init_48 : decode cX0_init 48 = .ok (.bipush 8, 2) := by decide +kernel
theorem dX0_init_50 : decode cX0_init 50 = .ok (.newarray .int, 2) := by decide +kernel
theorem dX0_init_52 : decode cX0_init 52 = .ok (.putfield 27, 3) := by decide +kernel
theorem dX0_init_55 : decode cX0_init 55 = .ok (.return_, 1) := by decide +kernel
set_option maxRecDepth 20000 in
theorem ggX0_weigh_X0_addUp : GoodIn wsX0_weigh wsX0_addUp := goodIn_r _ [6] (by decide +kernel) (by decide +kernel)
set_option maxRecDepth 20000 in
theorem gX0_weigh_X0_addUp : GoodIn wsX0_weigh (va_wsS RX0 30 yX0_addUp wsX0_addUp) := goodIn_app (goodIn_of _ (by decide +kernel)) ggX0_weigh_X0_addUp
theorem dX0_weigh_0 : decode cX0_weigh 0 = .ok (.aload_n 0, 1) := by decide +kernel
theorem dX0_weigh_1 : decode cX0_weigh 1 = .ok (.getfield 11, 3) := by decide +kernel
theorem dX0_weigh_4 : decode cX0_weigh 4 = .ok (.aload_n 1, 1) := by decide +kernel
theorem dX0_weigh_5 : decode cX0_weigh 5 = .ok (.iconst 0, 1) := by decide +kernel
theorem dX0_weigh_6 : decode cX0_weigh 6 = .ok (.invokestatic 30, 3) := by decide +kernel
theorem dX0_weigh_9 : decode cX0_weigh 9 = .ok (.aload_n 0, 1) := by decide +kernel
theorem dX0_weigh_10 : decode cX0_weigh 10 = .ok (.getfield 15, 3) := by decide +kernel
theorem dX0_weigh_13 : decode cX0_weigh 13 = .ok (.aload_n 1, 1) := by decide +kernel
theorem dX0_weigh_14 : decode cX0_weigh 14 = .ok (.bipush 8, 2) := by decide +kernel
theorem dX0_weigh_16 : decode cX0_weigh 16 = .ok (.invokestatic 30, 3) := by decide +kernel
theorem dX0_weigh_19 : decode cX0_weigh 19 = .ok (.return_, 1) := by decide +kernel
theorem dX0_addUp_0 : decode cX0_addUp 0 = .ok (.aload_n 0, 1) := by decide +kernel
theorem dX0_addUp_1 : decode cX0_addUp 1 = .ok (.iconst 0, 1) := by decide +kernel
theorem dX0_addUp_2 : decode cX0_addUp 2 = .ok (.iconst 0, 1) := by decide +kernel
theorem dX0_addUp_3 : decode cX0_addUp 3 = .ok (.iastore, 1) := by decide +kernel
theorem dX0_addUp_4 : decode cX0_addUp 4 = .ok (.iconst 0, 1) := by decide +kernel
theorem dX0_addUp_5 : decode cX0_addUp 5 = .ok (.istore_n 3, 1) := by decide +kernel
theorem dX0_addUp_6 : decode cX0_addUp 6 = .ok (.iload_n 3, 1) := by decide +kernel
theorem dX0_addUp_7 : decode cX0_addUp 7 = .ok (.bipush 8, 2) := by decide +kernel
theorem dX0_addUp_9 : decode cX0_addUp 9 = .ok (.if_icmp .ge 44, 3) := by decide +kernel
theorem dX0_addUp_12 : decode cX0_addUp 12 = .ok (.iconst 0, 1) := by decide +kernel
theorem dX0_addUp_13 : decode cX0_addUp 13 = .ok (.istore 4, 2) := by decide +kernel
theorem dX0_addUp_15 : decode cX0_addUp 15 = .ok (.iload 4, 2) := by decide +kernel
theorem dX0_addUp_17 : decode cX0_addUp 17 = .ok (.iconst 1, 1) := by decide +kernel
theorem dX0_addUp_18 : decode cX0_addUp 18 = .ok (.iload_n 3, 1) := by decide +kernel
theorem dX0_addUp_19 : decode cX0_addUp 19 = .ok (.ishl, 1) := by decide +kernel
theorem dX0_addUp_20 : decode cX0_addUp 20 = .ok (.if_icmp .ge 27, 3) := by decide +kernel
theorem dX0_addUp_23 : decode cX0_addUp 23 = .ok (.aload_n 0, 1) := by decide +kernel
theorem dX0_addUp_24 : decode cX0_addUp 24 = .ok (.iconst 1, 1) := by decide +kernel
theorem dX0_addUp_25 : decode cX0_addUp 25 = .ok (.iload_n 3, 1) := by decide +kernel
theorem dX0_addUp_26 : decode cX0_addUp 26 = .ok (.ishl, 1) := by decide +kernel
theorem dX0_addUp_27 : decode cX0_addUp 27 = .ok (.iload 4, 2) := by decide +kernel
theorem dX0_addUp_29 : decode cX0_addUp 29 = .ok (.iadd, 1) := by decide +kernel
theorem dX0_addUp_30 : decode cX0_addUp 30 = .ok (.aload_n 0, 1) := by decide +kernel
theorem dX0_addUp_31 : decode cX0_addUp 31 = .ok (.iload 4, 2) := by decide +kernel
theorem dX0_addUp_33 : decode cX0_addUp 33 = .ok (.iaload, 1) := by decide +kernel
theorem dX0_addUp_34 : decode cX0_addUp 34 = .ok (.aload_n 1, 1) := by decide +kernel
theorem dX0_addUp_35 : decode cX0_addUp 35 = .ok (.iload_n 2, 1) := by decide +kernel
theorem dX0_addUp_36 : decode cX0_addUp 36 = .ok (.iload_n 3, 1) := by decide +kernel
theorem dX0_addUp_37 : decode cX0_addUp 37 = .ok (.iadd, 1) := by decide +kernel
theorem dX0_addUp_38 : decode cX0_addUp 38 = .ok (.iaload, 1) := by decide +kernel
theorem dX0_addUp_39 : decode cX0_addUp 39 = .ok (.iadd, 1) := by decide +kernel
theorem dX0_addUp_40 : decode cX0_addUp 40 = .ok (.iastore, 1) := by decide +kernel
theorem dX0_addUp_41 : decode cX0_addUp 41 = .ok (.iinc 4 1, 3) := by decide +kernel
theorem dX0_addUp_44 : decode cX0_addUp 44 = .ok (.goto (-29), 3) := by decide +kernel
theorem dX0_addUp_47 : decode cX0_addUp 47 = .ok (.iinc 3 1, 3) := by decide +kernel
theorem dX0_addUp_50 : decode cX0_addUp 50 = .ok (.goto (-44), 3) := by decide +kernel
theorem dX0_addUp_53 : decode cX0_addUp 53 = .ok (.return_, 1) := by decide +kernel
theorem dX0_sum_0 : decode cX0_sum 0 = .ok (.aload_n 0, 1) := by decide +kernel
theorem dX0_sum_1 : decode cX0_sum 1 = .ok (.getfield 11, 3) := by decide +kernel
theorem dX0_sum_4 : decode cX0_sum 4 = .ok (.iload_n 1, 1) := by decide +kernel
theorem dX0_sum_5 : decode cX0_sum 5 = .ok (.sipush 255, 3) := by decide +kernel
theorem dX0_sum_8 : decode cX0_sum 8 = .ok (.iand, 1) := by decide +kernel
theorem dX0_sum_9 : decode cX0_sum 9 = .ok (.iaload, 1) := by decide +kernel
theorem dX0_sum_10 : decode cX0_sum 10 = .ok (.aload_n 0, 1) := by decide +kernel
theorem dX0_sum_11 : decode cX0_sum 11 = .ok (.getfield 15, 3) := by decide +kernel
theorem dX0_sum_14 : decode cX0_sum 14 = .ok (.iload_n 1, 1) := by decide +kernel
theorem dX0_sum_15 : decode cX0_sum 15 = .ok (.bipush 8, 2) := by decide +kernel
theorem dX0_sum_17 : decode cX0_sum 17 = .ok (.ishr, 1) := by decide +kernel
theorem dX0_sum_18 : decode cX0_sum 18 = .ok (.sipush 255, 3) := by decide +kernel
theorem dX0_sum_21 : decode cX0_sum 21 = .ok (.iand, 1) := by decide +kernel
theorem dX0_sum_22 : decode cX0_sum 22 = .ok (.iaload, 1) := by decide +kernel
theorem dX0_sum_23 : decode cX0_sum 23 = .ok (.iadd, 1) := by decide +kernel
theorem dX0_sum_24 : decode cX0_sum 24 = .ok (.ireturn, 1) := by decide +kernel
theorem dX0_setAfter_0 : decode cX0_setAfter 0 = .ok (.iload_n 0, 1) := by decide +kernel
theorem dX0_setAfter_1 : decode cX0_setAfter 1 = .ok (.iload_n 1, 1) := by decide +kernel
theorem dX0_setAfter_2 : decode cX0_setAfter 2 = .ok (.isub, 1) := by decide +kernel
theorem dX0_setAfter_3 : decode cX0_setAfter 3 = .ok (.iload_n 1, 1) := by decide +kernel
theorem dX0_setAfter_4 : decode cX0_setAfter 4 = .ok (.iand, 1) := by decide +kernel
theorem dX0_setAfter_5 : decode cX0_setAfter 5 = .ok (.ireturn, 1) := by decide +kernel
set_option maxRecDepth 20000 in
theorem ggX0_nearest_J6_bitCount_0f7a4 : GoodIn wsX0_nearest wsJ6_bitCount_0f7a4 := goodIn_r _ [8, 9, 10, 11] (by decide +kernel) (by decide +kernel)
set_option maxRecDepth 20000 in
theorem gX0_nearest_J6_bitCount_0f7a4 : GoodIn wsX0_nearest (va_wsS RX0 34 yJ6_bitCount_0f7a4 wsJ6_bitCount_0f7a4) := goodIn_app (goodIn_of _ (by decide +kernel)) ggX0_nearest_J6_bitCount_0f7a4
set_option maxRecDepth 20000 in
theorem ggX0_nearest_X0_sum : GoodIn wsX0_nearest wsX0_sum := goodIn_r _ [16, 17, 18, 22, 23, 24, 25, 26, 27] (by decide +kernel) (by decide +kernel)
set_option maxRecDepth 20000 in
theorem gX0_nearest_X0_sum : GoodIn wsX0_nearest (wsV RX0 40 RX0 yX0_sum wsX0_sum) := goodIn_app (goodIn_of _ (by decide +kernel)) ggX0_nearest_X0_sum
set_option maxRecDepth 20000 in
theorem ggX0_nearest_X0_setAfter : GoodIn wsX0_nearest wsX0_setAfter := goodIn_r _ [21] (by decide +kernel) (by decide +kernel)
set_option maxRecDepth 20000 in
theorem gX0_nearest_X0_setAfter : GoodIn wsX0_nearest (va_wsS RX0 48 yX0_setAfter wsX0_setAfter) := goodIn_app (goodIn_of _ (by decide +kernel)) ggX0_nearest_X0_setAfter
theorem dX0_nearest_0 : decode cX0_nearest 0 = .ok (.iconst 0, 1) := by decide +kernel
theorem dX0_nearest_1 : decode cX0_nearest 1 = .ok (.istore_n 3, 1) := by decide +kernel
theorem dX0_nearest_2 : decode cX0_nearest 2 = .ok (.iload_n 2, 1) := by decide +kernel
theorem dX0_nearest_3 : decode cX0_nearest 3 = .ok (.istore 4, 2) := by decide +kernel
theorem dX0_nearest_5 : decode cX0_nearest 5 = .ok (.iconst 1, 1) := by decide +kernel
theorem dX0_nearest_6 : decode cX0_nearest 6 = .ok (.iload_n 1, 1) := by decide +kernel
theorem dX0_nearest_7 : decode cX0_nearest 7 = .ok (.invokestatic 34, 3) := by decide +kernel
theorem dX0_nearest_10 : decode cX0_nearest 10 = .ok (.ishl, 1) := by decide +kernel
theorem dX0_nearest_11 : decode cX0_nearest 11 = .ok (.istore 5, 2) := by decide +kernel
theorem dX0_nearest_13 : decode cX0_nearest 13 = .ok (.iconst 0, 1) := by decide +kernel
theorem dX0_nearest_14 : decode cX0_nearest 14 = .ok (.istore 6, 2) := by decide +kernel
theorem dX0_nearest_16 : decode cX0_nearest 16 = .ok (.iconst 0, 1) := by decide +kernel
theorem dX0_nearest_17 : decode cX0_nearest 17 = .ok (.istore 7, 2) := by decide +kernel
theorem dX0_nearest_19 : decode cX0_nearest 19 = .ok (.iload 7, 2) := by decide +kernel
theorem dX0_nearest_21 : decode cX0_nearest 21 = .ok (.iload 5, 2) := by decide +kernel
theorem dX0_nearest_23 : decode cX0_nearest 23 = .ok (.if_icmp .ge 63, 3) := by decide +kernel
theorem dX0_nearest_26 : decode cX0_nearest 26 = .ok (.aload_n 0, 1) := by decide +kernel
theorem dX0_nearest_27 : decode cX0_nearest 27 = .ok (.iload 6, 2) := by decide +kernel
theorem dX0_nearest_29 : decode cX0_nearest 29 = .ok (.invokevirtual 40, 3) := by decide +kernel
theorem dX0_nearest_32 : decode cX0_nearest 32 = .ok (.iload_n 2, 1) := by decide +kernel
theorem dX0_nearest_33 : decode cX0_nearest 33 = .ok (.isub, 1) := by decide +kernel
theorem dX0_nearest_34 : decode cX0_nearest 34 = .ok (.invokestatic 43, 3) := by decide +kernel
theorem dX0_nearest_37 : decode cX0_nearest 37 = .ok (.istore 8, 2) := by decide +kernel
theorem dX0_nearest_39 : decode cX0_nearest 39 = .ok (.iload 8, 2) := by decide +kernel
theorem dX0_nearest_41 : decode cX0_nearest 41 = .ok (.iload 4, 2) := by decide +kernel
theorem dX0_nearest_43 : decode cX0_nearest 43 = .ok (.if_icmp .lt 22, 3) := by decide +kernel
theorem dX0_nearest_46 : decode cX0_nearest 46 = .ok (.iload 8, 2) := by decide +kernel
theorem dX0_nearest_48 : decode cX0_nearest 48 = .ok (.iload 4, 2) := by decide +kernel
theorem dX0_nearest_50 : decode cX0_nearest 50 = .ok (.if_icmp .ne 22, 3) := by decide +kernel
theorem dX0_nearest_53 : decode cX0_nearest 53 = .ok (.iload 6, 2) := by decide +kernel
theorem dX0_nearest_55 : decode cX0_nearest 55 = .ok (.invokestatic 34, 3) := by decide +kernel
theorem dX0_nearest_58 : decode cX0_nearest 58 = .ok (.iload_n 3, 1) := by decide +kernel
theorem dX0_nearest_59 : decode cX0_nearest 59 = .ok (.invokestatic 34, 3) := by decide +kernel
theorem dX0_nearest_62 : decode cX0_nearest 62 = .ok (.if_icmp .ge 10, 3) := by decide +kernel
theorem dX0_nearest_65 : decode cX0_nearest 65 = .ok (.iload 6, 2) := by decide +kernel
theorem dX0_nearest_67 : decode cX0_nearest 67 = .ok (.istore_n 3, 1) := by decide +kernel
theorem dX0_nearest_68 : decode cX0_nearest 68 = .ok (.iload 8, 2) := by decide +kernel
theorem dX0_nearest_70 : decode cX0_nearest 70 = .ok (.istore 4, 2) := by decide +kernel
theorem dX0_nearest_72 : decode cX0_nearest 72 = .ok (.iload 6, 2) := by decide +kernel
theorem dX0_nearest_74 : decode cX0_nearest 74 = .ok (.iload_n 1, 1) := by decide +kernel
theorem dX0_nearest_75 : decode cX0_nearest 75 = .ok (.invokestatic 48, 3) := by decide +kernel
theorem dX0_nearest_78 : decode cX0_nearest 78 = .ok (.istore 6, 2) := by decide +kernel
theorem dX0_nearest_80 : decode cX0_nearest 80 = .ok (.iinc 7 1, 3) := by decide +kernel
theorem dX0_nearest_83 : decode cX0_nearest 83 = .ok (.goto (-64), 3) := by decide +kernel
theorem dX0_nearest_86 : decode cX0_nearest 86 = .ok (.iload_n 3, 1) := by decide +kernel
theorem dX0_nearest_87 : decode cX0_nearest 87 = .ok (.ireturn, 1) := by decide +kernel
set_option maxRecDepth 20000 in
theorem ggX0_ways_J6_bitCount_0f7a4 : GoodIn wsX0_ways wsJ6_bitCount_0f7a4 := goodIn_r _ [8, 9, 10, 11] (by decide +kernel) (by decide +kernel)
set_option maxRecDepth 20000 in
theorem gX0_ways_J6_bitCount_0f7a4 : GoodIn wsX0_ways (va_wsS RX0 34 yJ6_bitCount_0f7a4 wsJ6_bitCount_0f7a4) := goodIn_app (goodIn_of _ (by decide +kernel)) ggX0_ways_J6_bitCount_0f7a4
set_option maxRecDepth 20000 in
theorem ggX0_ways_X0_sum : GoodIn wsX0_ways wsX0_sum := goodIn_r _ [16, 17, 18, 22, 23, 24, 25, 26, 27] (by decide +kernel) (by decide +kernel)
set_option maxRecDepth 20000 in
theorem gX0_ways_X0_sum : GoodIn wsX0_ways (wsV RX0 40 RX0 yX0_sum wsX0_sum) := goodIn_app (goodIn_of _ (by decide +kernel)) ggX0_ways_X0_sum
set_option maxRecDepth 20000 in
theorem ggX0_ways_X0_setAfter : GoodIn wsX0_ways wsX0_setAfter := goodIn_r _ [21] (by decide +kernel) (by decide +kernel)
set_option maxRecDepth 20000 in
theorem gX0_ways_X0_setAfter : GoodIn wsX0_ways (va_wsS RX0 48 yX0_setAfter wsX0_setAfter) := goodIn_app (goodIn_of _ (by decide +kernel)) ggX0_ways_X0_setAfter
theorem dX0_ways_0 : decode cX0_ways 0 = .ok (.iconst 0, 1) := by decide +kernel
theorem dX0_ways_1 : decode cX0_ways 1 = .ok (.istore 5, 2) := by decide +kernel
theorem dX0_ways_3 : decode cX0_ways 3 = .ok (.iconst 1, 1) := by decide +kernel
theorem dX0_ways_4 : decode cX0_ways 4 = .ok (.iload_n 1, 1) := by decide +kernel
theorem dX0_ways_5 : decode cX0_ways 5 = .ok (.invokestatic 34, 3) := by decide +kernel
theorem dX0_ways_8 : decode cX0_ways 8 = .ok (.ishl, 1) := by decide +kernel
theorem dX0_ways_9 : decode cX0_ways 9 = .ok (.istore 6, 2) := by decide +kernel
theorem dX0_ways_11 : decode cX0_ways 11 = .ok (.iconst 0, 1) := by decide +kernel
theorem dX0_ways_12 : decode cX0_ways 12 = .ok (.istore 7, 2) := by decide +kernel
theorem dX0_ways_14 : decode cX0_ways 14 = .ok (.iconst 0, 1) := by decide +kernel
theorem dX0_ways_15 : decode cX0_ways 15 = .ok (.istore 8, 2) := by decide +kernel
theorem dX0_ways_17 : decode cX0_ways 17 = .ok (.iload 8, 2) := by decide +kernel
theorem dX0_ways_19 : decode cX0_ways 19 = .ok (.iload 6, 2) := by decide +kernel
theorem dX0_ways_21 : decode cX0_ways 21 = .ok (.if_icmp .ge 45, 3) := by decide +kernel
theorem dX0_ways_24 : decode cX0_ways 24 = .ok (.aload_n 0, 1) := by decide +kernel
theorem dX0_ways_25 : decode cX0_ways 25 = .ok (.iload 7, 2) := by decide +kernel
theorem dX0_ways_27 : decode cX0_ways 27 = .ok (.invokevirtual 40, 3) := by decide +kernel
theorem dX0_ways_30 : decode cX0_ways 30 = .ok (.iload_n 3, 1) := by decide +kernel
theorem dX0_ways_31 : decode cX0_ways 31 = .ok (.isub, 1) := by decide +kernel
theorem dX0_ways_32 : decode cX0_ways 32 = .ok (.invokestatic 43, 3) := by decide +kernel
theorem dX0_ways_35 : decode cX0_ways 35 = .ok (.iload 4, 2) := by decide +kernel
theorem dX0_ways_37 : decode cX0_ways 37 = .ok (.if_icmp .gt 15, 3) := by decide +kernel
theorem dX0_ways_40 : decode cX0_ways 40 = .ok (.iload 7, 2) := by decide +kernel
theorem dX0_ways_42 : decode cX0_ways 42 = .ok (.invokestatic 34, 3) := by decide +kernel
theorem dX0_ways_45 : decode cX0_ways 45 = .ok (.iload_n 2, 1) := by decide +kernel
theorem dX0_ways_46 : decode cX0_ways 46 = .ok (.if_icmp .ne 6, 3) := by decide +kernel
theorem dX0_ways_49 : decode cX0_ways 49 = .ok (.iinc 5 1, 3) := by decide +kernel
theorem dX0_ways_52 : decode cX0_ways 52 = .ok (.iload 7, 2) := by decide +kernel
theorem dX0_ways_54 : decode cX0_ways 54 = .ok (.iload_n 1, 1) := by decide +kernel
theorem dX0_ways_55 : decode cX0_ways 55 = .ok (.invokestatic 48, 3) := by decide +kernel
theorem dX0_ways_58 : decode cX0_ways 58 = .ok (.istore 7, 2) := by decide +kernel
theorem dX0_ways_60 : decode cX0_ways 60 = .ok (.iinc 8 1, 3) := by decide +kernel
theorem dX0_ways_63 : decode cX0_ways 63 = .ok (.goto (-46), 3) := by decide +kernel
theorem dX0_ways_66 : decode cX0_ways 66 = .ok (.iload 5, 2) := by decide +kernel
theorem dX0_ways_68 : decode cX0_ways 68 = .ok (.ireturn, 1) := by decide +kernel
set_option maxRecDepth 20000 in
theorem ggX0_unevenness_X0_sum : GoodIn wsX0_unevenness wsX0_sum := goodIn_r _ [9, 10, 11, 12, 13, 14, 15, 16, 17] (by decide +kernel) (by decide +kernel)
set_option maxRecDepth 20000 in
theorem gX0_unevenness_X0_sum : GoodIn wsX0_unevenness (wsV RX0 40 RX0 yX0_sum wsX0_sum) := goodIn_app (goodIn_of _ (by decide +kernel)) ggX0_unevenness_X0_sum
theorem dX0_unevenness_0 : decode cX0_unevenness 0 = .ok (.iconst 2, 1) := by decide +kernel
theorem dX0_unevenness_1 : decode cX0_unevenness 1 = .ok (.aload_n 0, 1) := by decide +kernel
theorem dX0_unevenness_2 : decode cX0_unevenness 2 = .ok (.iload_n 1, 1) := by decide +kernel
theorem dX0_unevenness_3 : decode cX0_unevenness 3 = .ok (.invokevirtual 40, 3) := by decide +kernel
theorem dX0_unevenness_6 : decode cX0_unevenness 6 = .ok (.imul, 1) := by decide +kernel
theorem dX0_unevenness_7 : decode cX0_unevenness 7 = .ok (.aload_n 0, 1) := by decide +kernel
theorem dX0_unevenness_8 : decode cX0_unevenness 8 = .ok (.iload_n 2, 1) := by decide +kernel
theorem dX0_unevenness_9 : decode cX0_unevenness 9 = .ok (.invokevirtual 40, 3) := by decide +kernel
theorem dX0_unevenness_12 : decode cX0_unevenness 12 = .ok (.isub, 1) := by decide +kernel
theorem dX0_unevenness_13 : decode cX0_unevenness 13 = .ok (.invokestatic 43, 3) := by decide +kernel
theorem dX0_unevenness_16 : decode cX0_unevenness 16 = .ok (.ireturn, 1) := by decide +kernel
set_option maxRecDepth 20000 in
theorem ggX0_evenTeam_X0_sum : GoodIn wsX0_evenTeam wsX0_sum := goodIn_r _ [5, 6, 7, 26, 27, 28, 29, 30, 31] (by decide +kernel) (by decide +kernel)
set_option maxRecDepth 20000 in
theorem gX0_evenTeam_X0_sum : GoodIn wsX0_evenTeam (wsV RX0 40 RX0 yX0_sum wsX0_sum) := goodIn_app (goodIn_of _ (by decide +kernel)) ggX0_evenTeam_X0_sum
set_option maxRecDepth 20000 in
theorem ggX0_evenTeam_J6_bitCount_0f7a4 : GoodIn wsX0_evenTeam wsJ6_bitCount_0f7a4 := goodIn_r _ [11, 12, 13, 14] (by decide +kernel) (by decide +kernel)
set_option maxRecDepth 20000 in
theorem gX0_evenTeam_J6_bitCount_0f7a4 : GoodIn wsX0_evenTeam (va_wsS RX0 34 yJ6_bitCount_0f7a4 wsJ6_bitCount_0f7a4) := goodIn_app (goodIn_of _ (by decide +kernel)) ggX0_evenTeam_J6_bitCount_0f7a4
set_option maxRecDepth 20000 in
theorem ggX0_evenTeam_X0_unevenness : GoodIn wsX0_evenTeam wsX0_unevenness := goodIn_r _ [18, 19, 20, 21, 22, 1, 2, 3, 4, 5, 6, 7, 26, 27, 28, 29, 30, 31] (by decide +kernel) (by decide +kernel)
set_option maxRecDepth 20000 in
theorem gX0_evenTeam_X0_unevenness : GoodIn wsX0_evenTeam (wsV RX0 52 RX0 yX0_unevenness wsX0_unevenness) := goodIn_app (goodIn_of _ (by decide +kernel)) ggX0_evenTeam_X0_unevenness
set_option maxRecDepth 20000 in
theorem ggX0_evenTeam_X0_setAfter : GoodIn wsX0_evenTeam wsX0_setAfter := goodIn_r _ [25] (by decide +kernel) (by decide +kernel)
set_option maxRecDepth 20000 in
theorem gX0_evenTeam_X0_setAfter : GoodIn wsX0_evenTeam (va_wsS RX0 48 yX0_setAfter wsX0_setAfter) := goodIn_app (goodIn_of _ (by decide +kernel)) ggX0_evenTeam_X0_setAfter
theorem dX0_evenTeam_0 : decode cX0_evenTeam 0 = .ok (.iload_n 1, 1) := by decide +kernel
theorem dX0_evenTeam_1 : decode cX0_evenTeam 1 = .ok (.iload_n 1, 1) := by decide +kernel
theorem dX0_evenTeam_2 : decode cX0_evenTeam 2 = .ok (.ineg, 1) := by decide +kernel
theorem dX0_evenTeam_3 : decode cX0_evenTeam 3 = .ok (.iand, 1) := by decide +kernel
theorem dX0_evenTeam_4 : decode cX0_evenTeam 4 = .ok (.istore_n 2, 1) := by decide +kernel
theorem dX0_evenTeam_5 : decode cX0_evenTeam 5 = .ok (.iload_n 1, 1) := by decide +kernel
theorem dX0_evenTeam_6 : decode cX0_evenTeam 6 = .ok (.iload_n 2, 1) := by decide +kernel
theorem dX0_evenTeam_7 : decode cX0_evenTeam 7 = .ok (.ixor, 1) := by decide +kernel
theorem dX0_evenTeam_8 : decode cX0_evenTeam 8 = .ok (.istore_n 3, 1) := by decide +kernel
theorem dX0_evenTeam_9 : decode cX0_evenTeam 9 = .ok (.iload_n 1, 1) := by decide +kernel
theorem dX0_evenTeam_10 : decode cX0_evenTeam 10 = .ok (.istore 4, 2) := by decide +kernel
theorem dX0_evenTeam_12 : decode cX0_evenTeam 12 = .ok (.aload_n 0, 1) := by decide +kernel
theorem dX0_evenTeam_13 : decode cX0_evenTeam 13 = .ok (.iload_n 1, 1) := by decide +kernel
theorem dX0_evenTeam_14 : decode cX0_evenTeam 14 = .ok (.invokevirtual 40, 3) := by decide +kernel
theorem dX0_evenTeam_17 : decode cX0_evenTeam 17 = .ok (.istore 5, 2) := by decide +kernel
theorem dX0_evenTeam_19 : decode cX0_evenTeam 19 = .ok (.iconst 1, 1) := by decide +kernel
theorem dX0_evenTeam_20 : decode cX0_evenTeam 20 = .ok (.iload_n 3, 1) := by decide +kernel
theorem dX0_evenTeam_21 : decode cX0_evenTeam 21 = .ok (.invokestatic 34, 3) := by decide +kernel
theorem dX0_evenTeam_24 : decode cX0_evenTeam 24 = .ok (.ishl, 1) := by decide +kernel
theorem dX0_evenTeam_25 : decode cX0_evenTeam 25 = .ok (.istore 6, 2) := by decide +kernel
theorem dX0_evenTeam_27 : decode cX0_evenTeam 27 = .ok (.iconst 0, 1) := by decide +kernel
theorem dX0_evenTeam_28 : decode cX0_evenTeam 28 = .ok (.istore 7, 2) := by decide +kernel
theorem dX0_evenTeam_30 : decode cX0_evenTeam 30 = .ok (.iconst 0, 1) := by decide +kernel
theorem dX0_evenTeam_31 : decode cX0_evenTeam 31 = .ok (.istore 8, 2) := by decide +kernel
theorem dX0_evenTeam_33 : decode cX0_evenTeam 33 = .ok (.iload 8, 2) := by decide +kernel
theorem dX0_evenTeam_35 : decode cX0_evenTeam 35 = .ok (.iload 6, 2) := by decide +kernel
theorem dX0_evenTeam_37 : decode cX0_evenTeam 37 = .ok (.if_icmp .ge 45, 3) := by decide +kernel
theorem dX0_evenTeam_40 : decode cX0_evenTeam 40 = .ok (.aload_n 0, 1) := by decide +kernel
theorem dX0_evenTeam_41 : decode cX0_evenTeam 41 = .ok (.iload_n 2, 1) := by decide +kernel
theorem dX0_evenTeam_42 : decode cX0_evenTeam 42 = .ok (.iload 7, 2) := by decide +kernel
theorem dX0_evenTeam_44 : decode cX0_evenTeam 44 = .ok (.ior, 1) := by decide +kernel
theorem dX0_evenTeam_45 : decode cX0_evenTeam 45 = .ok (.iload_n 1, 1) := by decide +kernel
theorem dX0_evenTeam_46 : decode cX0_evenTeam 46 = .ok (.invokevirtual 52, 3) := by decide +kernel
theorem dX0_evenTeam_49 : decode cX0_evenTeam 49 = .ok (.istore 9, 2) := by decide +kernel
theorem dX0_evenTeam_51 : decode cX0_evenTeam 51 = .ok (.iload 9, 2) := by decide +kernel
theorem dX0_evenTeam_53 : decode cX0_evenTeam 53 = .ok (.iload 5, 2) := by decide +kernel
theorem dX0_evenTeam_55 : decode cX0_evenTeam 55 = .ok (.if_icmp .ge 13, 3) := by decide +kernel
theorem dX0_evenTeam_58 : decode cX0_evenTeam 58 = .ok (.iload_n 2, 1) := by decide +kernel
theorem dX0_evenTeam_59 : decode cX0_evenTeam 59 = .ok (.iload 7, 2) := by decide +kernel
theorem dX0_evenTeam_61 : decode cX0_evenTeam 61 = .ok (.ior, 1) := by decide +kernel
theorem dX0_evenTeam_62 : decode cX0_evenTeam 62 = .ok (.istore 4, 2) := by decide +kernel
theorem dX0_evenTeam_64 : decode cX0_evenTeam 64 = .ok (.iload 9, 2) := by decide +kernel
theorem dX0_evenTeam_66 : decode cX0_evenTeam 66 = .ok (.istore 5, 2) := by decide +kernel
theorem dX0_evenTeam_68 : decode cX0_evenTeam 68 = .ok (.iload 7, 2) := by decide +kernel
theorem dX0_evenTeam_70 : decode cX0_evenTeam 70 = .ok (.iload_n 3, 1) := by decide +kernel
theorem dX0_evenTeam_71 : decode cX0_evenTeam 71 = .ok (.invokestatic 48, 3) := by decide +kernel
theorem dX0_evenTeam_74 : decode cX0_evenTeam 74 = .ok (.istore 7, 2) := by decide +kernel
theorem dX0_evenTeam_76 : decode cX0_evenTeam 76 = .ok (.iinc 8 1, 3) := by decide +kernel
theorem dX0_evenTeam_79 : decode cX0_evenTeam 79 = .ok (.goto (-46), 3) := by decide +kernel
theorem dX0_evenTeam_82 : decode cX0_evenTeam 82 = .ok (.iload 4, 2) := by decide +kernel
theorem dX0_evenTeam_84 : decode cX0_evenTeam 84 = .ok (.ireturn, 1) := by decide +kernel
set_option maxRecDepth 20000 in
theorem ggX0_mostTwos_X0_sortWeights : GoodIn wsX0_mostTwos wsX0_sortWeights := goodIn_r _ [6, 7, 1, 8, 9, 10, 11, 18, 19, 20, 21, 22, 23, 24, 25, 12, 13, 14, 15, 16, 17] (by decide +kernel) (by decide +kernel)
set_option maxRecDepth 20000 in
theorem gX0_mostTwos_X0_sortWeights : GoodIn wsX0_mostTwos (wsV RX0 55 RX0 yX0_sortWeights wsX0_sortWeights) := goodIn_app (goodIn_of _ (by decide +kernel)) ggX0_mostTwos_X0_sortWeights
theorem dX0_mostTwos_0 : decode cX0_mostTwos 0 = .ok (.aload_n 0, 1) := by decide +kernel
theorem dX0_mostTwos_1 : decode cX0_mostTwos 1 = .ok (.aload_n 1, 1) := by decide +kernel
theorem dX0_mostTwos_2 : decode cX0_mostTwos 2 = .ok (.invokevirtual 55, 3) := by decide +kernel
theorem dX0_mostTwos_5 : decode cX0_mostTwos 5 = .ok (.istore_n 3, 1) := by decide +kernel
theorem dX0_mostTwos_6 : decode cX0_mostTwos 6 = .ok (.iconst 0, 1) := by decide +kernel
theorem dX0_mostTwos_7 : decode cX0_mostTwos 7 = .ok (.istore 4, 2) := by decide +kernel
theorem dX0_mostTwos_9 : decode cX0_mostTwos 9 = .ok (.iconst 0, 1) := by decide +kernel
theorem dX0_mostTwos_10 : decode cX0_mostTwos 10 = .ok (.istore 5, 2) := by decide +kernel
theorem dX0_mostTwos_12 : decode cX0_mostTwos 12 = .ok (.iconst 1, 1) := by decide +kernel
theorem dX0_mostTwos_13 : decode cX0_mostTwos 13 = .ok (.istore 6, 2) := by decide +kernel
theorem dX0_mostTwos_15 : decode cX0_mostTwos 15 = .ok (.iload 6, 2) := by decide +kernel
theorem dX0_mostTwos_17 : decode cX0_mostTwos 17 = .ok (.iload_n 3, 1) := by decide +kernel
theorem dX0_mostTwos_18 : decode cX0_mostTwos 18 = .ok (.if_icmp .ge 46, 3) := by decide +kernel
theorem dX0_mostTwos_21 : decode cX0_mostTwos 21 = .ok (.iload 6, 2) := by decide +kernel
theorem dX0_mostTwos_23 : decode cX0_mostTwos 23 = .ok (.iload 5, 2) := by decide +kernel
theorem dX0_mostTwos_25 : decode cX0_mostTwos 25 = .ok (.if_icmp .le 33, 3) := by decide +kernel
theorem dX0_mostTwos_28 : decode cX0_mostTwos 28 = .ok (.aload_n 0, 1) := by decide +kernel
theorem dX0_mostTwos_29 : decode cX0_mostTwos 29 = .ok (.getfield 18, 3) := by decide +kernel
theorem dX0_mostTwos_32 : decode cX0_mostTwos 32 = .ok (.iload 6, 2) := by decide +kernel
theorem dX0_mostTwos_34 : decode cX0_mostTwos 34 = .ok (.iaload, 1) := by decide +kernel
theorem dX0_mostTwos_35 : decode cX0_mostTwos 35 = .ok (.aload_n 0, 1) := by decide +kernel
theorem dX0_mostTwos_36 : decode cX0_mostTwos 36 = .ok (.getfield 18, 3) := by decide +kernel
theorem dX0_mostTwos_39 : decode cX0_mostTwos 39 = .ok (.iload 6, 2) := by decide +kernel
theorem dX0_mostTwos_41 : decode cX0_mostTwos 41 = .ok (.iconst 1, 1) := by decide +kernel
theorem dX0_mostTwos_42 : decode cX0_mostTwos 42 = .ok (.isub, 1) := by decide +kernel
theorem dX0_mostTwos_43 : decode cX0_mostTwos 43 = .ok (.iaload, 1) := by decide +kernel
theorem dX0_mostTwos_44 : decode cX0_mostTwos 44 = .ok (.isub, 1) := by decide +kernel
theorem dX0_mostTwos_45 : decode cX0_mostTwos 45 = .ok (.iload_n 2, 1) := by decide +kernel
theorem dX0_mostTwos_46 : decode cX0_mostTwos 46 = .ok (.if_icmp .gt 12, 3) := by decide +kernel
theorem dX0_mostTwos_49 : decode cX0_mostTwos 49 = .ok (.iinc 4 1, 3) := by decide +kernel
theorem dX0_mostTwos_52 : decode cX0_mostTwos 52 = .ok (.iload 6, 2) := by decide +kernel
theorem dX0_mostTwos_54 : decode cX0_mostTwos 54 = .ok (.iconst 1, 1) := by decide +kernel
theorem dX0_mostTwos_55 : decode cX0_mostTwos 55 = .ok (.iadd, 1) := by decide +kernel
theorem dX0_mostTwos_56 : decode cX0_mostTwos 56 = .ok (.istore 5, 2) := by decide +kernel
theorem dX0_mostTwos_58 : decode cX0_mostTwos 58 = .ok (.iinc 6 1, 3) := by decide +kernel
theorem dX0_mostTwos_61 : decode cX0_mostTwos 61 = .ok (.goto (-46), 3) := by decide +kernel
theorem dX0_mostTwos_64 : decode cX0_mostTwos 64 = .ok (.iload 4, 2) := by decide +kernel
theorem dX0_mostTwos_66 : decode cX0_mostTwos 66 = .ok (.ireturn, 1) := by decide +kernel
set_option maxRecDepth 20000 in
theorem ggX0_sortWeights_X11_has : GoodIn wsX0_sortWeights wsX11_has := goodIn_r _ [6] (by decide +kernel) (by decide +kernel)
set_option maxRecDepth 20000 in
theorem gX0_sortWeights_X11_has_n65 : GoodIn wsX0_sortWeights (wsX11_has) := ggX0_sortWeights_X11_has
theorem dX0_sortWeights_0 : decode cX0_sortWeights 0 = .ok (.iconst 0, 1) := by decide +kernel
theorem dX0_sortWeights_1 : decode cX0_sortWeights 1 = .ok (.istore_n 2, 1) := by decide +kernel
theorem dX0_sortWeights_2 : decode cX0_sortWeights 2 = .ok (.iconst 0, 1) := by decide +kernel
theorem dX0_sortWeights_3 : decode cX0_sortWeights 3 = .ok (.istore_n 3, 1) := by decide +kernel
theorem dX0_sortWeights_4 : decode cX0_sortWeights 4 = .ok (.iload_n 3, 1) := by decide +kernel
theorem dX0_sortWeights_5 : decode cX0_sortWeights 5 = .ok (.bipush 16, 2) := by decide +kernel
theorem dX0_sortWeights_7 : decode cX0_sortWeights 7 = .ok (.if_icmp .ge 84, 3) := by decide +kernel
theorem dX0_sortWeights_10 : decode cX0_sortWeights 10 = .ok (.aload_n 1, 1) := by decide +kernel
theorem dX0_sortWeights_11 : decode cX0_sortWeights 11 = .ok (.getfield 59, 3) := by decide +kernel
theorem dX0_sortWeights_14 : decode cX0_sortWeights 14 = .ok (.iload_n 3, 1) := by decide +kernel
theorem dX0_sortWeights_15 : decode cX0_sortWeights 15 = .ok (.invokestatic 65, 3) := by decide +kernel
theorem dX0_sortWeights_18 : decode cX0_sortWeights 18 = .ok (.ifCond .eq 67, 3) := by decide +kernel
theorem dX0_sortWeights_21 : decode cX0_sortWeights 21 = .ok (.iload_n 2, 1) := by decide +kernel
theorem dX0_sortWeights_22 : decode cX0_sortWeights 22 = .ok (.istore 4, 2) := by decide +kernel
theorem dX0_sortWeights_24 : decode cX0_sortWeights 24 = .ok (.iload 4, 2) := by decide +kernel
theorem dX0_sortWeights_26 : decode cX0_sortWeights 26 = .ok (.ifCond .le 43, 3) := by decide +kernel
theorem dX0_sortWeights_29 : decode cX0_sortWeights 29 = .ok (.aload_n 0, 1) := by decide +kernel
theorem dX0_sortWeights_30 : decode cX0_sortWeights 30 = .ok (.getfield 18, 3) := by decide +kernel
theorem dX0_sortWeights_33 : decode cX0_sortWeights 33 = .ok (.iload 4, 2) := by decide +kernel
theorem dX0_sortWeights_35 : decode cX0_sortWeights 35 = .ok (.iconst 1, 1) := by decide +kernel
theorem dX0_sortWeights_36 : decode cX0_sortWeights 36 = .ok (.isub, 1) := by decide +kernel
theorem dX0_sortWeights_37 : decode cX0_sortWeights 37 = .ok (.iaload, 1) := by decide +kernel
theorem dX0_sortWeights_38 : decode cX0_sortWeights 38 = .ok (.aload_n 1, 1) := by decide +kernel
theorem dX0_sortWeights_39 : decode cX0_sortWeights 39 = .ok (.getfield 69, 3) := by decide +kernel
theorem dX0_sortWeights_42 : decode cX0_sortWeights 42 = .ok (.iload_n 3, 1) := by decide +kernel
theorem dX0_sortWeights_43 : decode cX0_sortWeights 43 = .ok (.iaload, 1) := by decide +kernel
theorem dX0_sortWeights_44 : decode cX0_sortWeights 44 = .ok (.if_icmp .le 25, 3) := by decide +kernel
theorem dX0_sortWeights_47 : decode cX0_sortWeights 47 = .ok (.aload_n 0, 1) := by decide +kernel
theorem dX0_sortWeights_48 : decode cX0_sortWeights 48 = .ok (.getfield 18, 3) := by decide +kernel
theorem dX0_sortWeights_51 : decode cX0_sortWeights 51 = .ok (.iload 4, 2) := by decide +kernel
theorem dX0_sortWeights_53 : decode cX0_sortWeights 53 = .ok (.aload_n 0, 1) := by decide +kernel
theorem dX0_sortWeights_54 : decode cX0_sortWeights 54 = .ok (.getfield 18, 3) := by decide +kernel
theorem dX0_sortWeights_57 : decode cX0_sortWeights 57 = .ok (.iload 4, 2) := by decide +kernel
theorem dX0_sortWeights_59 : decode cX0_sortWeights 59 = .ok (.iconst 1, 1) := by decide +kernel
theorem dX0_sortWeights_60 : decode cX0_sortWeights 60 = .ok (.isub, 1) := by decide +kernel
theorem dX0_sortWeights_61 : decode cX0_sortWeights 61 = .ok (.iaload, 1) := by decide +kernel
theorem dX0_sortWeights_62 : decode cX0_sortWeights 62 = .ok (.iastore, 1) := by decide +kernel
theorem dX0_sortWeights_63 : decode cX0_sortWeights 63 = .ok (.iinc 4 (-1), 3) := by decide +kernel
theorem dX0_sortWeights_66 : decode cX0_sortWeights 66 = .ok (.goto (-42), 3) := by decide +kernel
theorem dX0_sortWeights_69 : decode cX0_sortWeights 69 = .ok (.aload_n 0, 1) := by decide +kernel
theorem dX0_sortWeights_70 : decode cX0_sortWeights 70 = .ok (.getfield 18, 3) := by decide +kernel
theorem dX0_sortWeights_73 : decode cX0_sortWeights 73 = .ok (.iload 4, 2) := by decide +kernel
theorem dX0_sortWeights_75 : decode cX0_sortWeights 75 = .ok (.aload_n 1, 1) := by decide +kernel
theorem dX0_sortWeights_76 : decode cX0_sortWeights 76 = .ok (.getfield 69, 3) := by decide +kernel
theorem dX0_sortWeights_79 : decode cX0_sortWeights 79 = .ok (.iload_n 3, 1) := by decide +kernel
theorem dX0_sortWeights_80 : decode cX0_sortWeights 80 = .ok (.iaload, 1) := by decide +kernel
theorem dX0_sortWeights_81 : decode cX0_sortWeights 81 = .ok (.iastore, 1) := by decide +kernel
theorem dX0_sortWeights_82 : decode cX0_sortWeights 82 = .ok (.iinc 2 1, 3) := by decide +kernel
theorem dX0_sortWeights_85 : decode cX0_sortWeights 85 = .ok (.iinc 3 1, 3) := by decide +kernel
theorem dX0_sortWeights_88 : decode cX0_sortWeights 88 = .ok (.goto (-84), 3) := by decide +kernel
theorem dX0_sortWeights_91 : decode cX0_sortWeights 91 = .ok (.iload_n 2, 1) := by decide +kernel
theorem dX0_sortWeights_92 : decode cX0_sortWeights 92 = .ok (.ireturn, 1) := by decide +kernel
set_option maxRecDepth 20000 in
theorem ggX0_lead_X0_gather : GoodIn wsX0_lead wsX0_gather := goodIn_r _ [12, 2, 13, 14, 15, 16, 17, 18, 19, 20, 46, 47, 48, 49, 50, 51] (by decide +kernel) (by decide +kernel)
set_option maxRecDepth 20000 in
theorem gX0_lead_X0_gather : GoodIn wsX0_lead (wsV RX0 72 RX0 yX0_gather wsX0_gather) := goodIn_app (goodIn_of _ (by decide +kernel)) ggX0_lead_X0_gather
set_option maxRecDepth 20000 in
theorem ggX0_lead_X0_addUp : GoodIn wsX0_lead wsX0_addUp := goodIn_r _ [23] (by decide +kernel) (by decide +kernel)
set_option maxRecDepth 20000 in
theorem gX0_lead_X0_addUp : GoodIn wsX0_lead (va_wsS RX0 30 yX0_addUp wsX0_addUp) := goodIn_app (goodIn_of _ (by decide +kernel)) ggX0_lead_X0_addUp
set_option maxRecDepth 20000 in
theorem ggX0_lead_X11_has : GoodIn wsX0_lead wsX11_has := goodIn_r _ [20] (by decide +kernel) (by decide +kernel)
set_option maxRecDepth 20000 in
theorem gX0_lead_X11_has_n65 : GoodIn wsX0_lead (wsX11_has) := ggX0_lead_X11_has
set_option maxRecDepth 20000 in
theorem ggX0_lead_X0_canGo : GoodIn wsX0_lead wsX0_canGo := goodIn_r _ [27, 1, 28, 29, 6, 30, 31, 32, 33, 34, 35, 36, 37, 38, 39, 11, 40, 46, 47, 48, 49, 50, 51] (by decide +kernel) (by decide +kernel)
set_option maxRecDepth 20000 in
theorem gX0_lead_X0_canGo : GoodIn wsX0_lead (wsV RX0 76 RX0 yX0_canGo wsX0_canGo) := goodIn_app (goodIn_of _ (by decide +kernel)) ggX0_lead_X0_canGo
set_option maxRecDepth 20000 in
theorem ggX0_lead_X0_followLeast : GoodIn wsX0_lead wsX0_followLeast := goodIn_r _ [44, 3, 2, 45, 13, 18, 19, 20, 24, 25, 26, 11, 27, 1, 28, 29, 6, 30, 31, 32, 33, 34, 35, 36, 37, 38, 39, 40, 46, 47, 48, 49, 50, 51] (by decide +kernel) (by decide +kernel)
set_option maxRecDepth 20000 in
theorem gX0_lead_X0_followLeast : GoodIn wsX0_lead (wsV RX0 83 RX0 yX0_followLeast wsX0_followLeast) := goodIn_app (goodIn_of _ (by decide +kernel)) ggX0_lead_X0_followLeast
theorem dX0_lead_0 : decode cX0_lead 0 = .ok (.aload_n 0, 1) := by decide +kernel
theorem dX0_lead_1 : decode cX0_lead 1 = .ok (.iload_n 1, 1) := by decide +kernel
theorem dX0_lead_2 : decode cX0_lead 2 = .ok (.aload_n 2, 1) := by decide +kernel
theorem dX0_lead_3 : decode cX0_lead 3 = .ok (.invokevirtual 72, 3) := by decide +kernel
theorem dX0_lead_6 : decode cX0_lead 6 = .ok (.istore 5, 2) := by decide +kernel
theorem dX0_lead_8 : decode cX0_lead 8 = .ok (.aload_n 0, 1) := by decide +kernel
theorem dX0_lead_9 : decode cX0_lead 9 = .ok (.getfield 11, 3) := by decide +kernel
theorem dX0_lead_12 : decode cX0_lead 12 = .ok (.aload_n 0, 1) := by decide +kernel
theorem dX0_lead_13 : decode cX0_lead 13 = .ok (.getfield 18, 3) := by decide +kernel
theorem dX0_lead_16 : decode cX0_lead 16 = .ok (.iconst 0, 1) := by decide +kernel
theorem dX0_lead_17 : decode cX0_lead 17 = .ok (.invokestatic 30, 3) := by decide +kernel
theorem dX0_lead_20 : decode cX0_lead 20 = .ok (.iconst 1, 1) := by decide +kernel
theorem dX0_lead_21 : decode cX0_lead 21 = .ok (.iload 5, 2) := by decide +kernel
theorem dX0_lead_23 : decode cX0_lead 23 = .ok (.ishl, 1) := by decide +kernel
theorem dX0_lead_24 : decode cX0_lead 24 = .ok (.iconst 1, 1) := by decide +kernel
theorem dX0_lead_25 : decode cX0_lead 25 = .ok (.isub, 1) := by decide +kernel
theorem dX0_lead_26 : decode cX0_lead 26 = .ok (.istore 6, 2) := by decide +kernel
theorem dX0_lead_28 : decode cX0_lead 28 = .ok (.aload_n 0, 1) := by decide +kernel
theorem dX0_lead_29 : decode cX0_lead 29 = .ok (.getfield 24, 3) := by decide +kernel
theorem dX0_lead_32 : decode cX0_lead 32 = .ok (.iconst 0, 1) := by decide +kernel
theorem dX0_lead_33 : decode cX0_lead 33 = .ok (.iconst 0, 1) := by decide +kernel
theorem dX0_lead_34 : decode cX0_lead 34 = .ok (.iastore, 1) := by decide +kernel
theorem dX0_lead_35 : decode cX0_lead 35 = .ok (.iconst 1, 1) := by decide +kernel
theorem dX0_lead_36 : decode cX0_lead 36 = .ok (.istore 7, 2) := by decide +kernel
theorem dX0_lead_38 : decode cX0_lead 38 = .ok (.iload 7, 2) := by decide +kernel
theorem dX0_lead_40 : decode cX0_lead 40 = .ok (.iload 6, 2) := by decide +kernel
theorem dX0_lead_42 : decode cX0_lead 42 = .ok (.if_icmp .gt 98, 3) := by decide +kernel
theorem dX0_lead_45 : decode cX0_lead 45 = .ok (.aload_n 0, 1) := by decide +kernel
theorem dX0_lead_46 : decode cX0_lead 46 = .ok (.getfield 24, 3) := by decide +kernel
theorem dX0_lead_49 : decode cX0_lead 49 = .ok (.iload 7, 2) := by decide +kernel
theorem dX0_lead_51 : decode cX0_lead 51 = .ok (.iconst 0, 1) := by decide +kernel
theorem dX0_lead_52 : decode cX0_lead 52 = .ok (.iastore, 1) := by decide +kernel
theorem dX0_lead_53 : decode cX0_lead 53 = .ok (.iconst 0, 1) := by decide +kernel
theorem dX0_lead_54 : decode cX0_lead 54 = .ok (.istore 8, 2) := by decide +kernel
theorem dX0_lead_56 : decode cX0_lead 56 = .ok (.iload 8, 2) := by decide +kernel
theorem dX0_lead_58 : decode cX0_lead 58 = .ok (.iload 5, 2) := by decide +kernel
theorem dX0_lead_60 : decode cX0_lead 60 = .ok (.if_icmp .ge 74, 3) := by decide +kernel
theorem dX0_lead_63 : decode cX0_lead 63 = .ok (.iload 7, 2) := by decide +kernel
theorem dX0_lead_65 : decode cX0_lead 65 = .ok (.iload 8, 2) := by decide +kernel
theorem dX0_lead_67 : decode cX0_lead 67 = .ok (.invokestatic 65, 3) := by decide +kernel
theorem dX0_lead_70 : decode cX0_lead 70 = .ok (.ifCond .eq 58, 3) := by decide +kernel
theorem dX0_lead_73 : decode cX0_lead 73 = .ok (.aload_n 0, 1) := by decide +kernel
theorem dX0_lead_74 : decode cX0_lead 74 = .ok (.iload 7, 2) := by decide +kernel
theorem dX0_lead_76 : decode cX0_lead 76 = .ok (.iconst 1, 1) := by decide +kernel
theorem dX0_lead_77 : decode cX0_lead 77 = .ok (.iload 8, 2) := by decide +kernel
theorem dX0_lead_79 : decode cX0_lead 79 = .ok (.ishl, 1) := by decide +kernel
theorem dX0_lead_80 : decode cX0_lead 80 = .ok (.ixor, 1) := by decide +kernel
theorem dX0_lead_81 : decode cX0_lead 81 = .ok (.aload_n 0, 1) := by decide +kernel
theorem dX0_lead_82 : decode cX0_lead 82 = .ok (.getfield 18, 3) := by decide +kernel
theorem dX0_lead_85 : decode cX0_lead 85 = .ok (.iload 8, 2) := by decide +kernel
theorem dX0_lead_87 : decode cX0_lead 87 = .ok (.iaload, 1) := by decide +kernel
theorem dX0_lead_88 : decode cX0_lead 88 = .ok (.iload_n 3, 1) := by decide +kernel
theorem dX0_lead_89 : decode cX0_lead 89 = .ok (.iload 4, 2) := by decide +kernel
theorem dX0_lead_91 : decode cX0_lead 91 = .ok (.invokevirtual 76, 3) := by decide +kernel
theorem dX0_lead_94 : decode cX0_lead 94 = .ok (.ifCond .eq 34, 3) := by decide +kernel
theorem dX0_lead_97 : decode cX0_lead 97 = .ok (.aload_n 0, 1) := by decide +kernel
theorem dX0_lead_98 : decode cX0_lead 98 = .ok (.getfield 24, 3) := by decide +kernel
theorem dX0_lead_101 : decode cX0_lead 101 = .ok (.iload 7, 2) := by decide +kernel
theorem dX0_lead_103 : decode cX0_lead 103 = .ok (.aload_n 0, 1) := by decide +kernel
theorem dX0_lead_104 : decode cX0_lead 104 = .ok (.getfield 24, 3) := by decide +kernel
theorem dX0_lead_107 : decode cX0_lead 107 = .ok (.iload 7, 2) := by decide +kernel
theorem dX0_lead_109 : decode cX0_lead 109 = .ok (.iaload, 1) := by decide +kernel
theorem dX0_lead_110 : decode cX0_lead 110 = .ok (.iconst 1, 1) := by decide +kernel
theorem dX0_lead_111 : decode cX0_lead 111 = .ok (.aload_n 0, 1) := by decide +kernel
theorem dX0_lead_112 : decode cX0_lead 112 = .ok (.getfield 24, 3) := by decide +kernel
theorem dX0_lead_115 : decode cX0_lead 115 = .ok (.iload 7, 2) := by decide +kernel
theorem dX0_lead_117 : decode cX0_lead 117 = .ok (.iconst 1, 1) := by decide +kernel
theorem dX0_lead_118 : decode cX0_lead 118 = .ok (.iload 8, 2) := by decide +kernel
theorem dX0_lead_120 : decode cX0_lead 120 = .ok (.ishl, 1) := by decide +kernel
theorem dX0_lead_121 : decode cX0_lead 121 = .ok (.ixor, 1) := by decide +kernel
theorem dX0_lead_122 : decode cX0_lead 122 = .ok (.iaload, 1) := by decide +kernel
theorem dX0_lead_123 : decode cX0_lead 123 = .ok (.iadd, 1) := by decide +kernel
theorem dX0_lead_124 : decode cX0_lead 124 = .ok (.invokestatic 80, 3) := by decide +kernel
theorem dX0_lead_127 : decode cX0_lead 127 = .ok (.iastore, 1) := by decide +kernel
theorem dX0_lead_128 : decode cX0_lead 128 = .ok (.iinc 8 1, 3) := by decide +kernel
theorem dX0_lead_131 : decode cX0_lead 131 = .ok (.goto (-75), 3) := by decide +kernel
theorem dX0_lead_134 : decode cX0_lead 134 = .ok (.iinc 7 1, 3) := by decide +kernel
theorem dX0_lead_137 : decode cX0_lead 137 = .ok (.goto (-99), 3) := by decide +kernel
theorem dX0_lead_140 : decode cX0_lead 140 = .ok (.aload_n 0, 1) := by decide +kernel
theorem dX0_lead_141 : decode cX0_lead 141 = .ok (.iload 6, 2) := by decide +kernel
theorem dX0_lead_143 : decode cX0_lead 143 = .ok (.iload 5, 2) := by decide +kernel
theorem dX0_lead_145 : decode cX0_lead 145 = .ok (.iload_n 3, 1) := by decide +kernel
theorem dX0_lead_146 : decode cX0_lead 146 = .ok (.iload 4, 2) := by decide +kernel
theorem dX0_lead_148 : decode cX0_lead 148 = .ok (.invokevirtual 83, 3) := by decide +kernel
theorem dX0_lead_151 : decode cX0_lead 151 = .ok (.aload_n 0, 1) := by decide +kernel
theorem dX0_lead_152 : decode cX0_lead 152 = .ok (.getfield 24, 3) := by decide +kernel
theorem dX0_lead_155 : decode cX0_lead 155 = .ok (.iload 6, 2) := by decide +kernel
theorem dX0_lead_157 : decode cX0_lead 157 = .ok (.iaload, 1) := by decide +kernel
theorem dX0_lead_158 : decode cX0_lead 158 = .ok (.ireturn, 1) := by decide +kernel
set_option maxRecDepth 20000 in
theorem ggX0_gather_J7_fill_53178 : GoodIn wsX0_gather wsJ7_fill_53178 := goodIn_r _ [6] (by decide +kernel) (by decide +kernel)
set_option maxRecDepth 20000 in
theorem gX0_gather_J7_fill_53178 : GoodIn wsX0_gather (va_wsS RX0 87 yJ7_fill_53178 wsJ7_fill_53178) := goodIn_app (goodIn_of _ (by decide +kernel)) ggX0_gather_J7_fill_53178
set_option maxRecDepth 20000 in
theorem ggX0_gather_X11_has : GoodIn wsX0_gather wsX11_has := goodIn_r _ [9] (by decide +kernel) (by decide +kernel)
set_option maxRecDepth 20000 in
theorem gX0_gather_X11_has_n65 : GoodIn wsX0_gather (wsX11_has) := ggX0_gather_X11_has
theorem dX0_gather_0 : decode cX0_gather 0 = .ok (.aload_n 0, 1) := by decide +kernel
theorem dX0_gather_1 : decode cX0_gather 1 = .ok (.getfield 18, 3) := by decide +kernel
theorem dX0_gather_4 : decode cX0_gather 4 = .ok (.iconst 0, 1) := by decide +kernel
theorem dX0_gather_5 : decode cX0_gather 5 = .ok (.invokestatic 87, 3) := by decide +kernel
theorem dX0_gather_8 : decode cX0_gather 8 = .ok (.iconst 0, 1) := by decide +kernel
theorem dX0_gather_9 : decode cX0_gather 9 = .ok (.istore_n 3, 1) := by decide +kernel
theorem dX0_gather_10 : decode cX0_gather 10 = .ok (.iconst 0, 1) := by decide +kernel
theorem dX0_gather_11 : decode cX0_gather 11 = .ok (.istore 4, 2) := by decide +kernel
theorem dX0_gather_13 : decode cX0_gather 13 = .ok (.iload 4, 2) := by decide +kernel
theorem dX0_gather_15 : decode cX0_gather 15 = .ok (.bipush 16, 2) := by decide +kernel
theorem dX0_gather_17 : decode cX0_gather 17 = .ok (.if_icmp .ge 45, 3) := by decide +kernel
theorem dX0_gather_20 : decode cX0_gather 20 = .ok (.iload_n 3, 1) := by decide +kernel
theorem dX0_gather_21 : decode cX0_gather 21 = .ok (.bipush 8, 2) := by decide +kernel
theorem dX0_gather_23 : decode cX0_gather 23 = .ok (.if_icmp .ge 39, 3) := by decide +kernel
theorem dX0_gather_26 : decode cX0_gather 26 = .ok (.iload_n 1, 1) := by decide +kernel
theorem dX0_gather_27 : decode cX0_gather 27 = .ok (.iload 4, 2) := by decide +kernel
theorem dX0_gather_29 : decode cX0_gather 29 = .ok (.invokestatic 65, 3) := by decide +kernel
theorem dX0_gather_32 : decode cX0_gather 32 = .ok (.ifCond .eq 24, 3) := by decide +kernel
theorem dX0_gather_35 : decode cX0_gather 35 = .ok (.aload_n 0, 1) := by decide +kernel
theorem dX0_gather_36 : decode cX0_gather 36 = .ok (.getfield 21, 3) := by decide +kernel
theorem dX0_gather_39 : decode cX0_gather 39 = .ok (.iload_n 3, 1) := by decide +kernel
theorem dX0_gather_40 : decode cX0_gather 40 = .ok (.iload 4, 2) := by decide +kernel
theorem dX0_gather_42 : decode cX0_gather 42 = .ok (.iastore, 1) := by decide +kernel
theorem dX0_gather_43 : decode cX0_gather 43 = .ok (.aload_n 0, 1) := by decide +kernel
theorem dX0_gather_44 : decode cX0_gather 44 = .ok (.getfield 18, 3) := by decide +kernel
theorem dX0_gather_47 : decode cX0_gather 47 = .ok (.iload_n 3, 1) := by decide +kernel
theorem dX0_gather_48 : decode cX0_gather 48 = .ok (.aload_n 2, 1) := by decide +kernel
theorem dX0_gather_49 : decode cX0_gather 49 = .ok (.iload 4, 2) := by decide +kernel
theorem dX0_gather_51 : decode cX0_gather 51 = .ok (.iaload, 1) := by decide +kernel
theorem dX0_gather_52 : decode cX0_gather 52 = .ok (.iastore, 1) := by decide +kernel
theorem dX0_gather_53 : decode cX0_gather 53 = .ok (.iinc 3 1, 3) := by decide +kernel
theorem dX0_gather_56 : decode cX0_gather 56 = .ok (.iinc 4 1, 3) := by decide +kernel
theorem dX0_gather_59 : decode cX0_gather 59 = .ok (.goto (-46), 3) := by decide +kernel
theorem dX0_gather_62 : decode cX0_gather 62 = .ok (.iload_n 3, 1) := by decide +kernel
theorem dX0_gather_63 : decode cX0_gather 63 = .ok (.ireturn, 1) := by decide +kernel
set_option maxRecDepth 20000 in
theorem ggX0_canGo_J6_bitCount_0f7a4 : GoodIn wsX0_canGo wsJ6_bitCount_0f7a4 := goodIn_r _ [9, 10, 11, 12] (by decide +kernel) (by decide +kernel)
set_option maxRecDepth 20000 in
theorem gX0_canGo_J6_bitCount_0f7a4 : GoodIn wsX0_canGo (va_wsS RX0 34 yJ6_bitCount_0f7a4 wsJ6_bitCount_0f7a4) := goodIn_app (goodIn_of _ (by decide +kernel)) ggX0_canGo_J6_bitCount_0f7a4
set_option maxRecDepth 20000 in
theorem ggX0_canGo_X0_setAfter : GoodIn wsX0_canGo wsX0_setAfter := goodIn_r _ [16] (by decide +kernel) (by decide +kernel)
set_option maxRecDepth 20000 in
theorem gX0_canGo_X0_setAfter : GoodIn wsX0_canGo (va_wsS RX0 48 yX0_setAfter wsX0_setAfter) := goodIn_app (goodIn_of _ (by decide +kernel)) ggX0_canGo_X0_setAfter
theorem dX0_canGo_0 : decode cX0_canGo 0 = .ok (.iconst 1, 1) := by decide +kernel
theorem dX0_canGo_1 : decode cX0_canGo 1 = .ok (.iload_n 1, 1) := by decide +kernel
theorem dX0_canGo_2 : decode cX0_canGo 2 = .ok (.invokestatic 34, 3) := by decide +kernel
theorem dX0_canGo_5 : decode cX0_canGo 5 = .ok (.ishl, 1) := by decide +kernel
theorem dX0_canGo_6 : decode cX0_canGo 6 = .ok (.istore 5, 2) := by decide +kernel
theorem dX0_canGo_8 : decode cX0_canGo 8 = .ok (.iconst 0, 1) := by decide +kernel
theorem dX0_canGo_9 : decode cX0_canGo 9 = .ok (.istore 6, 2) := by decide +kernel
theorem dX0_canGo_11 : decode cX0_canGo 11 = .ok (.iconst 0, 1) := by decide +kernel
theorem dX0_canGo_12 : decode cX0_canGo 12 = .ok (.istore 7, 2) := by decide +kernel
theorem dX0_canGo_14 : decode cX0_canGo 14 = .ok (.iload 7, 2) := by decide +kernel
theorem dX0_canGo_16 : decode cX0_canGo 16 = .ok (.iload 5, 2) := by decide +kernel
theorem dX0_canGo_18 : decode cX0_canGo 18 = .ok (.if_icmp .ge 52, 3) := by decide +kernel
theorem dX0_canGo_21 : decode cX0_canGo 21 = .ok (.iload_n 2, 1) := by decide +kernel
theorem dX0_canGo_22 : decode cX0_canGo 22 = .ok (.aload_n 0, 1) := by decide +kernel
theorem dX0_canGo_23 : decode cX0_canGo 23 = .ok (.getfield 11, 3) := by decide +kernel
theorem dX0_canGo_26 : decode cX0_canGo 26 = .ok (.iload 6, 2) := by decide +kernel
theorem dX0_canGo_28 : decode cX0_canGo 28 = .ok (.iaload, 1) := by decide +kernel
theorem dX0_canGo_29 : decode cX0_canGo 29 = .ok (.isub, 1) := by decide +kernel
theorem dX0_canGo_30 : decode cX0_canGo 30 = .ok (.istore 8, 2) := by decide +kernel
theorem dX0_canGo_32 : decode cX0_canGo 32 = .ok (.iload 8, 2) := by decide +kernel
theorem dX0_canGo_34 : decode cX0_canGo 34 = .ok (.invokestatic 43, 3) := by decide +kernel
theorem dX0_canGo_37 : decode cX0_canGo 37 = .ok (.iload 4, 2) := by decide +kernel
theorem dX0_canGo_39 : decode cX0_canGo 39 = .ok (.if_icmp .le 15, 3) := by decide +kernel
theorem dX0_canGo_42 : decode cX0_canGo 42 = .ok (.iload 8, 2) := by decide +kernel
theorem dX0_canGo_44 : decode cX0_canGo 44 = .ok (.iload_n 3, 1) := by decide +kernel
theorem dX0_canGo_45 : decode cX0_canGo 45 = .ok (.isub, 1) := by decide +kernel
theorem dX0_canGo_46 : decode cX0_canGo 46 = .ok (.invokestatic 43, 3) := by decide +kernel
theorem dX0_canGo_49 : decode cX0_canGo 49 = .ok (.iload 4, 2) := by decide +kernel
theorem dX0_canGo_51 : decode cX0_canGo 51 = .ok (.if_icmp .gt 5, 3) := by decide +kernel
theorem dX0_canGo_54 : decode cX0_canGo 54 = .ok (.iconst 1, 1) := by decide +kernel
theorem dX0_canGo_55 : decode cX0_canGo 55 = .ok (.ireturn, 1) := by decide +kernel
theorem dX0_canGo_56 : decode cX0_canGo 56 = .ok (.iload 6, 2) := by decide +kernel
theorem dX0_canGo_58 : decode cX0_canGo 58 = .ok (.iload_n 1, 1) := by decide +kernel
theorem dX0_canGo_59 : decode cX0_canGo 59 = .ok (.invokestatic 48, 3) := by decide +kernel
theorem dX0_canGo_62 : decode cX0_canGo 62 = .ok (.istore 6, 2) := by decide +kernel
theorem dX0_canGo_64 : decode cX0_canGo 64 = .ok (.iinc 7 1, 3) := by decide +kernel
theorem dX0_canGo_67 : decode cX0_canGo 67 = .ok (.goto (-53), 3) := by decide +kernel
theorem dX0_canGo_70 : decode cX0_canGo 70 = .ok (.iconst 0, 1) := by decide +kernel
theorem dX0_canGo_71 : decode cX0_canGo 71 = .ok (.ireturn, 1) := by decide +kernel
set_option maxRecDepth 20000 in
theorem ggX0_followLeast_X11_has : GoodIn wsX0_followLeast wsX11_has := goodIn_r _ [7] (by decide +kernel) (by decide +kernel)
set_option maxRecDepth 20000 in
theorem gX0_followLeast_X11_has_n65 : GoodIn wsX0_followLeast (wsX11_has) := ggX0_followLeast_X11_has
set_option maxRecDepth 20000 in
theorem ggX0_followLeast_X0_canGo : GoodIn wsX0_followLeast wsX0_canGo := goodIn_r _ [12, 13, 14, 15, 16, 17, 18, 19, 20, 21, 22, 23, 24, 25, 26, 11, 27, 28, 29, 30, 31, 32, 33] (by decide +kernel) (by decide +kernel)
set_option maxRecDepth 20000 in
theorem gX0_followLeast_X0_canGo : GoodIn wsX0_followLeast (wsV RX0 76 RX0 yX0_canGo wsX0_canGo) := goodIn_app (goodIn_of _ (by decide +kernel)) ggX0_followLeast_X0_canGo
theorem dX0_followLeast_0 : decode cX0_followLeast 0 = .ok (.iload_n 1, 1) := by decide +kernel
theorem dX0_followLeast_1 : decode cX0_followLeast 1 = .ok (.istore 5, 2) := by decide +kernel
theorem dX0_followLeast_3 : decode cX0_followLeast 3 = .ok (.aload_n 0, 1) := by decide +kernel
theorem dX0_followLeast_4 : decode cX0_followLeast 4 = .ok (.getfield 24, 3) := by decide +kernel
theorem dX0_followLeast_7 : decode cX0_followLeast 7 = .ok (.iload_n 1, 1) := by decide +kernel
theorem dX0_followLeast_8 : decode cX0_followLeast 8 = .ok (.iaload, 1) := by decide +kernel
theorem dX0_followLeast_9 : decode cX0_followLeast 9 = .ok (.istore 6, 2) := by decide +kernel
theorem dX0_followLeast_11 : decode cX0_followLeast 11 = .ok (.iconst 0, 1) := by decide +kernel
theorem dX0_followLeast_12 : decode cX0_followLeast 12 = .ok (.istore 7, 2) := by decide +kernel
theorem dX0_followLeast_14 : decode cX0_followLeast 14 = .ok (.iload 7, 2) := by decide +kernel
theorem dX0_followLeast_16 : decode cX0_followLeast 16 = .ok (.iload 6, 2) := by decide +kernel
theorem dX0_followLeast_18 : decode cX0_followLeast 18 = .ok (.if_icmp .ge 102, 3) := by decide +kernel
theorem dX0_followLeast_21 : decode cX0_followLeast 21 = .ok (.iconst 0, 1) := by decide +kernel
theorem dX0_followLeast_22 : decode cX0_followLeast 22 = .ok (.istore 8, 2) := by decide +kernel
theorem dX0_followLeast_24 : decode cX0_followLeast 24 = .ok (.iload 8, 2) := by decide +kernel
theorem dX0_followLeast_26 : decode cX0_followLeast 26 = .ok (.iload_n 2, 1) := by decide +kernel
theorem dX0_followLeast_27 : decode cX0_followLeast 27 = .ok (.if_icmp .ge 87, 3) := by decide +kernel
theorem dX0_followLeast_30 : decode cX0_followLeast 30 = .ok (.iload 5, 2) := by decide +kernel
theorem dX0_followLeast_32 : decode cX0_followLeast 32 = .ok (.iconst 1, 1) := by decide +kernel
theorem dX0_followLeast_33 : decode cX0_followLeast 33 = .ok (.iload 8, 2) := by decide +kernel
theorem dX0_followLeast_35 : decode cX0_followLeast 35 = .ok (.ishl, 1) := by decide +kernel
theorem dX0_followLeast_36 : decode cX0_followLeast 36 = .ok (.ixor, 1) := by decide +kernel
theorem dX0_followLeast_37 : decode cX0_followLeast 37 = .ok (.istore 9, 2) := by decide +kernel
theorem dX0_followLeast_39 : decode cX0_followLeast 39 = .ok (.iload 5, 2) := by decide +kernel
theorem dX0_followLeast_41 : decode cX0_followLeast 41 = .ok (.iload 8, 2) := by decide +kernel
theorem dX0_followLeast_43 : decode cX0_followLeast 43 = .ok (.invokestatic 65, 3) := by decide +kernel
theorem dX0_followLeast_46 : decode cX0_followLeast 46 = .ok (.ifCond .eq 62, 3) := by decide +kernel
theorem dX0_followLeast_49 : decode cX0_followLeast 49 = .ok (.aload_n 0, 1) := by decide +kernel
theorem dX0_followLeast_50 : decode cX0_followLeast 50 = .ok (.getfield 24, 3) := by decide +kernel
theorem dX0_followLeast_53 : decode cX0_followLeast 53 = .ok (.iload 5, 2) := by decide +kernel
theorem dX0_followLeast_55 : decode cX0_followLeast 55 = .ok (.iaload, 1) := by decide +kernel
theorem dX0_followLeast_56 : decode cX0_followLeast 56 = .ok (.iconst 1, 1) := by decide +kernel
theorem dX0_followLeast_57 : decode cX0_followLeast 57 = .ok (.aload_n 0, 1) := by decide +kernel
theorem dX0_followLeast_58 : decode cX0_followLeast 58 = .ok (.getfield 24, 3) := by decide +kernel
theorem dX0_followLeast_61 : decode cX0_followLeast 61 = .ok (.iload 9, 2) := by decide +kernel
theorem dX0_followLeast_63 : decode cX0_followLeast 63 = .ok (.iaload, 1) := by decide +kernel
theorem dX0_followLeast_64 : decode cX0_followLeast 64 = .ok (.iadd, 1) := by decide +kernel
theorem dX0_followLeast_65 : decode cX0_followLeast 65 = .ok (.if_icmp .ne 43, 3) := by decide +kernel
theorem dX0_followLeast_68 : decode cX0_followLeast 68 = .ok (.aload_n 0, 1) := by decide +kernel
theorem dX0_followLeast_69 : decode cX0_followLeast 69 = .ok (.iload 9, 2) := by decide +kernel
theorem dX0_followLeast_71 : decode cX0_followLeast 71 = .ok (.aload_n 0, 1) := by decide +kernel
theorem dX0_followLeast_72 : decode cX0_followLeast 72 = .ok (.getfield 18, 3) := by decide +kernel
theorem dX0_followLeast_75 : decode cX0_followLeast 75 = .ok (.iload 8, 2) := by decide +kernel
theorem dX0_followLeast_77 : decode cX0_followLeast 77 = .ok (.iaload, 1) := by decide +kernel
theorem dX0_followLeast_78 : decode cX0_followLeast 78 = .ok (.iload_n 3, 1) := by decide +kernel
theorem dX0_followLeast_79 : decode cX0_followLeast 79 = .ok (.iload 4, 2) := by decide +kernel
theorem dX0_followLeast_81 : decode cX0_followLeast 81 = .ok (.invokevirtual 76, 3) := by decide +kernel
theorem dX0_followLeast_84 : decode cX0_followLeast 84 = .ok (.ifCond .eq 24, 3) := by decide +kernel
theorem dX0_followLeast_87 : decode cX0_followLeast 87 = .ok (.aload_n 0, 1) := by decide +kernel
theorem dX0_followLeast_88 : decode cX0_followLeast 88 = .ok (.getfield 27, 3) := by decide +kernel
theorem dX0_followLeast_91 : decode cX0_followLeast 91 = .ok (.iload 7, 2) := by decide +kernel
theorem dX0_followLeast_93 : decode cX0_followLeast 93 = .ok (.aload_n 0, 1) := by decide +kernel
theorem dX0_followLeast_94 : decode cX0_followLeast 94 = .ok (.getfield 21, 3) := by decide +kernel
theorem dX0_followLeast_97 : decode cX0_followLeast 97 = .ok (.iload 8, 2) := by decide +kernel
theorem dX0_followLeast_99 : decode cX0_followLeast 99 = .ok (.iaload, 1) := by decide +kernel
theorem dX0_followLeast_100 : decode cX0_followLeast 100 = .ok (.iastore, 1) := by decide +kernel
theorem dX0_followLeast_101 : decode cX0_followLeast 101 = .ok (.iload 9, 2) := by decide +kernel
theorem dX0_followLeast_103 : decode cX0_followLeast 103 = .ok (.istore 5, 2) := by decide +kernel
theorem dX0_followLeast_105 : decode cX0_followLeast 105 = .ok (.goto 9, 3) := by decide +kernel
theorem dX0_followLeast_108 : decode cX0_followLeast 108 = .ok (.iinc 8 1, 3) := by decide +kernel
theorem dX0_followLeast_111 : decode cX0_followLeast 111 = .ok (.goto (-87), 3) := by decide +kernel
theorem dX0_followLeast_114 : decode cX0_followLeast 114 = .ok (.iinc 7 1, 3) := by decide +kernel
theorem dX0_followLeast_117 : decode cX0_followLeast 117 = .ok (.goto (-103), 3) := by decide +kernel
theorem dX0_followLeast_120 : decode cX0_followLeast 120 = .ok (.return_, 1) := by decide +kernel
set_option maxRecDepth 20000 in
theorem ggX0_whoGoesAt_X11_isWithin : GoodIn wsX0_whoGoesAt wsX11_isWithin := goodIn_r _ [4] (by decide +kernel) (by decide +kernel)
set_option maxRecDepth 20000 in
theorem gX0_whoGoesAt_X11_isWithin_n93 : GoodIn wsX0_whoGoesAt (wsX11_isWithin) := ggX0_whoGoesAt_X11_isWithin
theorem dX0_whoGoesAt_0 : decode cX0_whoGoesAt 0 = .ok (.iload_n 1, 1) := by decide +kernel
theorem dX0_whoGoesAt_1 : decode cX0_whoGoesAt 1 = .ok (.iconst 0, 1) := by decide +kernel
theorem dX0_whoGoesAt_2 : decode cX0_whoGoesAt 2 = .ok (.bipush 7, 2) := by decide +kernel
theorem dX0_whoGoesAt_4 : decode cX0_whoGoesAt 4 = .ok (.invokestatic 93, 3) := by decide +kernel
theorem dX0_whoGoesAt_7 : decode cX0_whoGoesAt 7 = .ok (.ifCond .eq 12, 3) := by decide +kernel
theorem dX0_whoGoesAt_10 : decode cX0_whoGoesAt 10 = .ok (.aload_n 0, 1) := by decide +kernel
theorem dX0_whoGoesAt_11 : decode cX0_whoGoesAt 11 = .ok (.getfield 27, 3) := by decide +kernel
theorem dX0_whoGoesAt_14 : decode cX0_whoGoesAt 14 = .ok (.iload_n 1, 1) := by decide +kernel
theorem dX0_whoGoesAt_15 : decode cX0_whoGoesAt 15 = .ok (.iaload, 1) := by decide +kernel
theorem dX0_whoGoesAt_16 : decode cX0_whoGoesAt 16 = .ok (.goto 4, 3) := by decide +kernel
theorem dX0_whoGoesAt_19 : decode cX0_whoGoesAt 19 = .ok (.iconst (-1), 1) := by decide +kernel
theorem dX0_whoGoesAt_20 : decode cX0_whoGoesAt 20 = .ok (.ireturn, 1) := by decide +kernel
theorem dX1_init_0 : decode cX1_init 0 = .ok (.aload_n 0, 1) := by decide +kernel
theorem dX1_init_1 : decode cX1_init 1 = .ok (.invokespecial 3, 3) := by decide +kernel
theorem dX1_init_4 : decode cX1_init 4 = .ok (.aload_n 0, 1) := by decide +kernel
theorem dX1_init_5 : decode cX1_init 5 = .ok (.iconst 0, 1) := by decide +kernel
theorem dX1_init_6 : decode cX1_init 6 = .ok (.putfield 9, 3) := by decide +kernel
theorem dX1_init_9 : decode cX1_init 9 = .ok (.aload_n 0, 1) := by decide +kernel
theorem dX1_init_10 : decode cX1_init 10 = .ok (.iconst 0, 1) := by decide +kernel
theorem dX1_init_11 : decode cX1_init 11 = .ok (.putfield 15, 3) := by decide +kernel
theorem dX1_init_14 : decode cX1_init 14 = .ok (.aload_n 0, 1) := by decide +kernel
theorem dX1_init_15 : decode cX1_init 15 = .ok (.iconst (-1), 1) := by decide +kernel
theorem dX1_init_16 : decode cX1_init 16 = .ok (.putfield 18, 3) := by decide +kernel
theorem dX1_init_19 : decode cX1_init 19 = .ok (.aload_n 0, 1) := by decide +kernel
theorem dX1_init_20 : decode cX1_init 20 = .ok (.iconst 0, 1) := by decide +kernel
theorem dX1_init_21 : decode cX1_init 21 = .ok (.putfield 21, 3) := by decide +kernel
theorem dX1_init_24 : decode cX1_init 24 = .ok (.aload_n 0, 1) := by decide +kernel
theorem dX1_init_25 : decode cX1_init 25 = .ok (.aload_n 1, 1) := by decide +kernel
theorem dX1_init_26 : decode cX1_init 26 = .ok (.putfield 24, 3) := by decide +kernel
theorem dX1_init_29 : decode cX1_init 29 = .ok (.return_, 1) := by decide +kernel
set_option maxRecDepth 20000 in
theorem ggX1_start_X1_next : GoodIn wsX1_start wsX1_next := goodIn_r _ [8, 3, 1, 9, 10, 11, 12, 13, 14, 15, 16, 17, 18, 19, 20, 21, 22, 23, 24, 25, 26, 27, 28] (by decide +kernel) (by decide +kernel)
set_option maxRecDepth 20000 in
theorem gX1_start_X1_next : GoodIn wsX1_start (wsV RX1 28 RX1 yX1_next wsX1_next) := goodIn_app (goodIn_of _ (by decide +kernel)) ggX1_start_X1_next
theorem dX1_start_0 : decode cX1_start 0 = .ok (.aload_n 0, 1) := by decide +kernel
theorem dX1_start_1 : decode cX1_start 1 = .ok (.iload_n 1, 1) := by decide +kernel
theorem dX1_start_2 : decode cX1_start 2 = .ok (.putfield 9, 3) := by decide +kernel
theorem dX1_start_5 : decode cX1_start 5 = .ok (.aload_n 0, 1) := by decide +kernel
theorem dX1_start_6 : decode cX1_start 6 = .ok (.iconst 0, 1) := by decide +kernel
theorem dX1_start_7 : decode cX1_start 7 = .ok (.putfield 21, 3) := by decide +kernel
theorem dX1_start_10 : decode cX1_start 10 = .ok (.aload_n 0, 1) := by decide +kernel
theorem dX1_start_11 : decode cX1_start 11 = .ok (.iconst (-1), 1) := by decide +kernel
theorem dX1_start_12 : decode cX1_start 12 = .ok (.putfield 15, 3) := by decide +kernel
theorem dX1_start_15 : decode cX1_start 15 = .ok (.aload_n 0, 1) := by decide +kernel
theorem dX1_start_16 : decode cX1_start 16 = .ok (.invokevirtual 28, 3) := by decide +kernel
theorem dX1_start_19 : decode cX1_start 19 = .ok (.return_, 1) := by decide +kernel
set_option maxRecDepth 20000 in
theorem ggX1_next_X8_at : GoodIn wsX1_next wsX8_at := goodIn_r _ [13, 14, 15, 21, 22] (by decide +kernel) (by decide +kernel)
set_option maxRecDepth 20000 in
theorem gX1_next_X8_at : GoodIn wsX1_next (wsV RX1 37 RX8 yX8_at wsX8_at) := goodIn_app (goodIn_of _ (by decide +kernel)) ggX1_next_X8_at
theorem dX1_next_0 : decode cX1_next 0 = .ok (.aload_n 0, 1) := by decide +kernel
theorem dX1_next_1 : decode cX1_next 1 = .ok (.aload_n 0, 1) := by decide +kernel
theorem dX1_next_2 : decode cX1_next 2 = .ok (.getfield 15, 3) := by decide +kernel
theorem dX1_next_5 : decode cX1_next 5 = .ok (.iconst 1, 1) := by decide +kernel
theorem dX1_next_6 : decode cX1_next 6 = .ok (.iadd, 1) := by decide +kernel
theorem dX1_next_7 : decode cX1_next 7 = .ok (.aload_n 0, 1) := by decide +kernel
theorem dX1_next_8 : decode cX1_next 8 = .ok (.getfield 9, 3) := by decide +kernel
theorem dX1_next_11 : decode cX1_next 11 = .ok (.invokestatic 31, 3) := by decide +kernel
theorem dX1_next_14 : decode cX1_next 14 = .ok (.putfield 15, 3) := by decide +kernel
theorem dX1_next_17 : decode cX1_next 17 = .ok (.aload_n 0, 1) := by decide +kernel
theorem dX1_next_18 : decode cX1_next 18 = .ok (.aload_n 0, 1) := by decide +kernel
theorem dX1_next_19 : decode cX1_next 19 = .ok (.getfield 15, 3) := by decide +kernel
theorem dX1_next_22 : decode cX1_next 22 = .ok (.aload_n 0, 1) := by decide +kernel
theorem dX1_next_23 : decode cX1_next 23 = .ok (.getfield 9, 3) := by decide +kernel
theorem dX1_next_26 : decode cX1_next 26 = .ok (.if_icmp .ge 17, 3) := by decide +kernel
theorem dX1_next_29 : decode cX1_next 29 = .ok (.aload_n 0, 1) := by decide +kernel
theorem dX1_next_30 : decode cX1_next 30 = .ok (.getfield 24, 3) := by decide +kernel
theorem dX1_next_33 : decode cX1_next 33 = .ok (.aload_n 0, 1) := by decide +kernel
theorem dX1_next_34 : decode cX1_next 34 = .ok (.getfield 15, 3) := by decide +kernel
theorem dX1_next_37 : decode cX1_next 37 = .ok (.invokevirtual 37, 3) := by decide +kernel
theorem dX1_next_40 : decode cX1_next 40 = .ok (.goto 4, 3) := by decide +kernel
theorem dX1_next_43 : decode cX1_next 43 = .ok (.iconst (-1), 1) := by decide +kernel
theorem dX1_next_44 : decode cX1_next 44 = .ok (.putfield 18, 3) := by decide +kernel
theorem dX1_next_47 : decode cX1_next 47 = .ok (.return_, 1) := by decide +kernel
theorem dX1_isFaulty_0 : decode cX1_isFaulty 0 = .ok (.aload_n 0, 1) := by decide +kernel
theorem dX1_isFaulty_1 : decode cX1_isFaulty 1 = .ok (.getfield 21, 3) := by decide +kernel
theorem dX1_isFaulty_4 : decode cX1_isFaulty 4 = .ok (.ifCond .eq 7, 3) := by decide +kernel
theorem dX1_isFaulty_7 : decode cX1_isFaulty 7 = .ok (.iconst 1, 1) := by decide +kernel
theorem dX1_isFaulty_8 : decode cX1_isFaulty 8 = .ok (.goto 4, 3) := by decide +kernel
theorem dX1_isFaulty_11 : decode cX1_isFaulty 11 = .ok (.iconst 0, 1) := by decide +kernel
theorem dX1_isFaulty_12 : decode cX1_isFaulty 12 = .ok (.ireturn, 1) := by decide +kernel
theorem dX1_fail_0 : decode cX1_fail 0 = .ok (.aload_n 0, 1) := by decide +kernel
theorem dX1_fail_1 : decode cX1_fail 1 = .ok (.getfield 21, 3) := by decide +kernel
theorem dX1_fail_4 : decode cX1_fail 4 = .ok (.ifCond .ne 14, 3) := by decide +kernel
theorem dX1_fail_7 : decode cX1_fail 7 = .ok (.aload_n 0, 1) := by decide +kernel
theorem dX1_fail_8 : decode cX1_fail 8 = .ok (.sipush (-1000), 3) := by decide +kernel
theorem dX1_fail_11 : decode cX1_fail 11 = .ok (.iload_n 1, 1) := by decide +kernel
theorem dX1_fail_12 : decode cX1_fail 12 = .ok (.imul, 1) := by decide +kernel
theorem dX1_fail_13 : decode cX1_fail 13 = .ok (.iload_n 2, 1) := by decide +kernel
theorem dX1_fail_14 : decode cX1_fail 14 = .ok (.isub, 1) := by decide +kernel
theorem dX1_fail_15 : decode cX1_fail 15 = .ok (.putfield 21, 3) := by decide +kernel
theorem dX1_fail_18 : decode cX1_fail 18 = .ok (.return_, 1) := by decide +kernel
set_option maxRecDepth 20000 in
theorem ggX1_failHere_X1_fail : GoodIn wsX1_failHere wsX1_fail := goodIn_r _ [6, 7, 8, 9, 10, 11, 12] (by decide +kernel) (by decide +kernel)
set_option maxRecDepth 20000 in
theorem gX1_failHere_X1_fail : GoodIn wsX1_failHere (wsV RX1 43 RX1 yX1_fail wsX1_fail) := goodIn_app (goodIn_of _ (by decide +kernel)) ggX1_failHere_X1_fail
theorem dX1_failHere_0 : decode cX1_failHere 0 = .ok (.aload_n 0, 1) := by decide +kernel
theorem dX1_failHere_1 : decode cX1_failHere 1 = .ok (.iload_n 1, 1) := by decide +kernel
theorem dX1_failHere_2 : decode cX1_failHere 2 = .ok (.aload_n 0, 1) := by decide +kernel
theorem dX1_failHere_3 : decode cX1_failHere 3 = .ok (.getfield 15, 3) := by decide +kernel
theorem dX1_failHere_6 : decode cX1_failHere 6 = .ok (.invokevirtual 43, 3) := by decide +kernel
theorem dX1_failHere_9 : decode cX1_failHere 9 = .ok (.return_, 1) := by decide +kernel
theorem dX1_sees_0 : decode cX1_sees 0 = .ok (.aload_n 0, 1) := by decide +kernel
theorem dX1_sees_1 : decode cX1_sees 1 = .ok (.getfield 21, 3) := by decide +kernel
theorem dX1_sees_4 : decode cX1_sees 4 = .ok (.ifCond .ne 15, 3) := by decide +kernel
theorem dX1_sees_7 : decode cX1_sees 7 = .ok (.aload_n 0, 1) := by decide +kernel
theorem dX1_sees_8 : decode cX1_sees 8 = .ok (.getfield 18, 3) := by decide +kernel
theorem dX1_sees_11 : decode cX1_sees 11 = .ok (.iload_n 1, 1) := by decide +kernel
theorem dX1_sees_12 : decode cX1_sees 12 = .ok (.if_icmp .ne 7, 3) := by decide +kernel
theorem dX1_sees_15 : decode cX1_sees 15 = .ok (.iconst 1, 1) := by decide +kernel
theorem dX1_sees_16 : decode cX1_sees 16 = .ok (.goto 4, 3) := by decide +kernel
theorem dX1_sees_19 : decode cX1_sees 19 = .ok (.iconst 0, 1) := by decide +kernel
theorem dX1_sees_20 : decode cX1_sees 20 = .ok (.ireturn, 1) := by decide +kernel
set_option maxRecDepth 20000 in
theorem ggX1_take_X1_sees : GoodIn wsX1_take wsX1_sees := goodIn_r _ [5, 6, 7, 34, 35, 36, 37, 38] (by decide +kernel) (by decide +kernel)
set_option maxRecDepth 20000 in
theorem gX1_take_X1_sees : GoodIn wsX1_take (wsV RX1 47 RX1 yX1_sees wsX1_sees) := goodIn_app (goodIn_of _ (by decide +kernel)) ggX1_take_X1_sees
set_option maxRecDepth 20000 in
theorem ggX1_take_X1_failHere : GoodIn wsX1_take wsX1_failHere := goodIn_r _ [11, 12, 13, 14, 15, 4, 16, 6, 34, 35, 36, 37, 38] (by decide +kernel) (by decide +kernel)
set_option maxRecDepth 20000 in
theorem gX1_take_X1_failHere : GoodIn wsX1_take (wsV RX1 51 RX1 yX1_failHere wsX1_failHere) := goodIn_app (goodIn_of _ (by decide +kernel)) ggX1_take_X1_failHere
set_option maxRecDepth 20000 in
theorem ggX1_take_X1_next : GoodIn wsX1_take wsX1_next := goodIn_r _ [20, 12, 21, 22, 23, 24, 25, 26, 7, 27, 28, 29, 30, 31, 32, 33, 34, 35, 36, 37, 38, 39, 40] (by decide +kernel) (by decide +kernel)
set_option maxRecDepth 20000 in
theorem gX1_take_X1_next : GoodIn wsX1_take (wsV RX1 28 RX1 yX1_next wsX1_next) := goodIn_app (goodIn_of _ (by decide +kernel)) ggX1_take_X1_next
theorem dX1_take_0 : decode cX1_take 0 = .ok (.aload_n 0, 1) := by decide +kernel
theorem dX1_take_1 : decode cX1_take 1 = .ok (.iload_n 1, 1) := by decide +kernel
theorem dX1_take_2 : decode cX1_take 2 = .ok (.invokevirtual 47, 3) := by decide +kernel
theorem dX1_take_5 : decode cX1_take 5 = .ok (.ifCond .ne 10, 3) := by decide +kernel
theorem dX1_take_8 : decode cX1_take 8 = .ok (.aload_n 0, 1) := by decide +kernel
theorem dX1_take_9 : decode cX1_take 9 = .ok (.iconst 1, 1) := by decide +kernel
theorem dX1_take_10 : decode cX1_take 10 = .ok (.invokevirtual 51, 3) := by decide +kernel
theorem dX1_take_13 : decode cX1_take 13 = .ok (.iconst 0, 1) := by decide +kernel
theorem dX1_take_14 : decode cX1_take 14 = .ok (.ireturn, 1) := by decide +kernel
theorem dX1_take_15 : decode cX1_take 15 = .ok (.aload_n 0, 1) := by decide +kernel
theorem dX1_take_16 : decode cX1_take 16 = .ok (.invokevirtual 28, 3) := by decide +kernel
theorem dX1_take_19 : decode cX1_take 19 = .ok (.iconst 1, 1) := by decide +kernel
theorem dX1_take_20 : decode cX1_take 20 = .ok (.ireturn, 1) := by decide +kernel
set_option maxRecDepth 20000 in
theorem ggX1_begins_X1_isFaulty : GoodIn wsX1_begins wsX1_isFaulty := goodIn_r _ [7, 8, 42, 43, 44, 45, 46] (by decide +kernel) (by decide +kernel)
set_option maxRecDepth 20000 in
theorem gX1_begins_X1_isFaulty : GoodIn wsX1_begins (wsV RX1 55 RX1 yX1_isFaulty wsX1_isFaulty) := goodIn_app (goodIn_of _ (by decide +kernel)) ggX1_begins_X1_isFaulty
set_option maxRecDepth 20000 in
theorem ggX1_begins_X1_take : GoodIn wsX1_begins wsX1_take := goodIn_r _ [12, 13, 14, 15, 6, 16, 8, 17, 18, 19, 20, 21, 1, 22, 23, 24, 25, 26, 27, 28, 29, 2, 30, 31, 32, 33, 34, 35, 36, 37, 38, 39, 40, 41, 42, 43, 44, 45, 46, 47, 48] (by decide +kernel) (by decide +kernel)
set_option maxRecDepth 20000 in
theorem gX1_begins_X1_take : GoodIn wsX1_begins (wsV RX1 59 RX1 yX1_take wsX1_take) := goodIn_app (goodIn_of _ (by decide +kernel)) ggX1_begins_X1_take
theorem dX1_begins_0 : decode cX1_begins 0 = .ok (.aload_n 0, 1) := by decide +kernel
theorem dX1_begins_1 : decode cX1_begins 1 = .ok (.invokevirtual 55, 3) := by decide +kernel
theorem dX1_begins_4 : decode cX1_begins 4 = .ok (.ifCond .ne 18, 3) := by decide +kernel
theorem dX1_begins_7 : decode cX1_begins 7 = .ok (.iload_n 1, 1) := by decide +kernel
theorem dX1_begins_8 : decode cX1_begins 8 = .ok (.ifCond .le 16, 3) := by decide +kernel
theorem dX1_begins_11 : decode cX1_begins 11 = .ok (.aload_n 0, 1) := by decide +kernel
theorem dX1_begins_12 : decode cX1_begins 12 = .ok (.getfield 15, 3) := by decide +kernel
theorem dX1_begins_15 : decode cX1_begins 15 = .ok (.aload_n 0, 1) := by decide +kernel
theorem dX1_begins_16 : decode cX1_begins 16 = .ok (.getfield 9, 3) := by decide +kernel
theorem dX1_begins_19 : decode cX1_begins 19 = .ok (.if_icmp .ne 5, 3) := by decide +kernel
theorem dX1_begins_22 : decode cX1_begins 22 = .ok (.iconst 0, 1) := by decide +kernel
theorem dX1_begins_23 : decode cX1_begins 23 = .ok (.ireturn, 1) := by decide +kernel
theorem dX1_begins_24 : decode cX1_begins 24 = .ok (.iload_n 1, 1) := by decide +kernel
theorem dX1_begins_25 : decode cX1_begins 25 = .ok (.ifCond .eq 12, 3) := by decide +kernel
theorem dX1_begins_28 : decode cX1_begins 28 = .ok (.aload_n 0, 1) := by decide +kernel
theorem dX1_begins_29 : decode cX1_begins 29 = .ok (.bipush 59, 2) := by decide +kernel
theorem dX1_begins_31 : decode cX1_begins 31 = .ok (.invokevirtual 59, 3) := by decide +kernel
theorem dX1_begins_34 : decode cX1_begins 34 = .ok (.ifCond .eq 7, 3) := by decide +kernel
theorem dX1_begins_37 : decode cX1_begins 37 = .ok (.iconst 1, 1) := by decide +kernel
theorem dX1_begins_38 : decode cX1_begins 38 = .ok (.goto 4, 3) := by decide +kernel
theorem dX1_begins_41 : decode cX1_begins 41 = .ok (.iconst 0, 1) := by decide +kernel
theorem dX1_begins_42 : decode cX1_begins 42 = .ok (.ireturn, 1) := by decide +kernel
set_option maxRecDepth 20000 in
theorem ggX1_seesDigit_X11_isWithin : GoodIn wsX1_seesDigit wsX11_isWithin := goodIn_r _ [4] (by decide +kernel) (by decide +kernel)
set_option maxRecDepth 20000 in
theorem gX1_seesDigit_X11_isWithin_n62 : GoodIn wsX1_seesDigit (wsX11_isWithin) := ggX1_seesDigit_X11_isWithin
theorem dX1_seesDigit_0 : decode cX1_seesDigit 0 = .ok (.aload_n 0, 1) := by decide +kernel
theorem dX1_seesDigit_1 : decode cX1_seesDigit 1 = .ok (.getfield 18, 3) := by decide +kernel
theorem dX1_seesDigit_4 : decode cX1_seesDigit 4 = .ok (.bipush 48, 2) := by decide +kernel
theorem dX1_seesDigit_6 : decode cX1_seesDigit 6 = .ok (.bipush 57, 2) := by decide +kernel
theorem dX1_seesDigit_8 : decode cX1_seesDigit 8 = .ok (.invokestatic 62, 3) := by decide +kernel
theorem dX1_seesDigit_11 : decode cX1_seesDigit 11 = .ok (.ireturn, 1) := by decide +kernel
set_option maxRecDepth 20000 in
theorem ggX1_readNumber_X1_seesDigit : GoodIn wsX1_readNumber wsX1_seesDigit := goodIn_r _ [6, 1, 7, 8, 9, 37, 38, 39, 40, 41] (by decide +kernel) (by decide +kernel)
set_option maxRecDepth 20000 in
theorem gX1_readNumber_X1_seesDigit : GoodIn wsX1_readNumber (wsV RX1 66 RX1 yX1_seesDigit wsX1_seesDigit) := goodIn_app (goodIn_of _ (by decide +kernel)) ggX1_readNumber_X1_seesDigit
set_option maxRecDepth 20000 in
theorem ggX1_readNumber_X1_next : GoodIn wsX1_readNumber wsX1_next := goodIn_r _ [13, 14, 15, 16, 17, 18, 19, 20, 1, 21, 22, 23, 24, 25, 26, 27, 37, 38, 39, 40, 41, 42, 43] (by decide +kernel) (by decide +kernel)
set_option maxRecDepth 20000 in
theorem gX1_readNumber_X1_next : GoodIn wsX1_readNumber (wsV RX1 28 RX1 yX1_next wsX1_next) := goodIn_app (goodIn_of _ (by decide +kernel)) ggX1_readNumber_X1_next
set_option maxRecDepth 20000 in
theorem ggX1_readNumber_X1_failHere : GoodIn wsX1_readNumber wsX1_failHere := goodIn_r _ [31, 14, 32, 33, 34, 5, 35, 36, 37, 38, 39, 40, 41] (by decide +kernel) (by decide +kernel)
set_option maxRecDepth 20000 in
theorem gX1_readNumber_X1_failHere : GoodIn wsX1_readNumber (wsV RX1 51 RX1 yX1_failHere wsX1_failHere) := goodIn_app (goodIn_of _ (by decide +kernel)) ggX1_readNumber_X1_failHere
theorem dX1_readNumber_0 : decode cX1_readNumber 0 = .ok (.iconst 0, 1) := by decide +kernel
theorem dX1_readNumber_1 : decode cX1_readNumber 1 = .ok (.istore_n 2, 1) := by decide +kernel
theorem dX1_readNumber_2 : decode cX1_readNumber 2 = .ok (.iconst 0, 1) := by decide +kernel
theorem dX1_readNumber_3 : decode cX1_readNumber 3 = .ok (.istore_n 3, 1) := by decide +kernel
theorem dX1_readNumber_4 : decode cX1_readNumber 4 = .ok (.iload_n 3, 1) := by decide +kernel
theorem dX1_readNumber_5 : decode cX1_readNumber 5 = .ok (.iload_n 1, 1) := by decide +kernel
theorem dX1_readNumber_6 : decode cX1_readNumber 6 = .ok (.if_icmp .ge 33, 3) := by decide +kernel
theorem dX1_readNumber_9 : decode cX1_readNumber 9 = .ok (.aload_n 0, 1) := by decide +kernel
theorem dX1_readNumber_10 : decode cX1_readNumber 10 = .ok (.invokevirtual 66, 3) := by decide +kernel
theorem dX1_readNumber_13 : decode cX1_readNumber 13 = .ok (.ifCond .eq 26, 3) := by decide +kernel
theorem dX1_readNumber_16 : decode cX1_readNumber 16 = .ok (.iload_n 2, 1) := by decide +kernel
theorem dX1_readNumber_17 : decode cX1_readNumber 17 = .ok (.bipush 10, 2) := by decide +kernel
theorem dX1_readNumber_19 : decode cX1_readNumber 19 = .ok (.imul, 1) := by decide +kernel
theorem dX1_readNumber_20 : decode cX1_readNumber 20 = .ok (.aload_n 0, 1) := by decide +kernel
theorem dX1_readNumber_21 : decode cX1_readNumber 21 = .ok (.getfield 18, 3) := by decide +kernel
theorem dX1_readNumber_24 : decode cX1_readNumber 24 = .ok (.iadd, 1) := by decide +kernel
theorem dX1_readNumber_25 : decode cX1_readNumber 25 = .ok (.bipush 48, 2) := by decide +kernel
theorem dX1_readNumber_27 : decode cX1_readNumber 27 = .ok (.isub, 1) := by decide +kernel
theorem dX1_readNumber_28 : decode cX1_readNumber 28 = .ok (.istore_n 2, 1) := by decide +kernel
theorem dX1_readNumber_29 : decode cX1_readNumber 29 = .ok (.iinc 3 1, 3) := by decide +kernel
theorem dX1_readNumber_32 : decode cX1_readNumber 32 = .ok (.aload_n 0, 1) := by decide +kernel
theorem dX1_readNumber_33 : decode cX1_readNumber 33 = .ok (.invokevirtual 28, 3) := by decide +kernel
theorem dX1_readNumber_36 : decode cX1_readNumber 36 = .ok (.goto (-32), 3) := by decide +kernel
theorem dX1_readNumber_39 : decode cX1_readNumber 39 = .ok (.iload_n 3, 1) := by decide +kernel
theorem dX1_readNumber_40 : decode cX1_readNumber 40 = .ok (.ifCond .ne 11, 3) := by decide +kernel
theorem dX1_readNumber_43 : decode cX1_readNumber 43 = .ok (.aload_n 0, 1) := by decide +kernel
theorem dX1_readNumber_44 : decode cX1_readNumber 44 = .ok (.iconst 1, 1) := by decide +kernel
theorem dX1_readNumber_45 : decode cX1_readNumber 45 = .ok (.invokevirtual 51, 3) := by decide +kernel
theorem dX1_readNumber_48 : decode cX1_readNumber 48 = .ok (.goto 15, 3) := by decide +kernel
theorem dX1_readNumber_51 : decode cX1_readNumber 51 = .ok (.aload_n 0, 1) := by decide +kernel
theorem dX1_readNumber_52 : decode cX1_readNumber 52 = .ok (.invokevirtual 66, 3) := by decide +kernel
theorem dX1_readNumber_55 : decode cX1_readNumber 55 = .ok (.ifCond .eq 8, 3) := by decide +kernel
theorem dX1_readNumber_58 : decode cX1_readNumber 58 = .ok (.aload_n 0, 1) := by decide +kernel
theorem dX1_readNumber_59 : decode cX1_readNumber 59 = .ok (.iconst 2, 1) := by decide +kernel
theorem dX1_readNumber_60 : decode cX1_readNumber 60 = .ok (.invokevirtual 51, 3) := by decide +kernel
theorem dX1_readNumber_63 : decode cX1_readNumber 63 = .ok (.iload_n 2, 1) := by decide +kernel
theorem dX1_readNumber_64 : decode cX1_readNumber 64 = .ok (.ireturn, 1) := by decide +kernel
set_option maxRecDepth 20000 in
theorem ggX1_seenWalker_X11_isWalker : GoodIn wsX1_seenWalker wsX11_isWalker := goodIn_r _ [4, 5, 6, 3, 7] (by decide +kernel) (by decide +kernel)
set_option maxRecDepth 20000 in
theorem gX1_seenWalker_X11_isWalker_n69 : GoodIn wsX1_seenWalker (wsX11_isWalker) := ggX1_seenWalker_X11_isWalker
theorem dX1_seenWalker_0 : decode cX1_seenWalker 0 = .ok (.aload_n 0, 1) := by decide +kernel
theorem dX1_seenWalker_1 : decode cX1_seenWalker 1 = .ok (.getfield 18, 3) := by decide +kernel
theorem dX1_seenWalker_4 : decode cX1_seenWalker 4 = .ok (.bipush 97, 2) := by decide +kernel
theorem dX1_seenWalker_6 : decode cX1_seenWalker 6 = .ok (.isub, 1) := by decide +kernel
theorem dX1_seenWalker_7 : decode cX1_seenWalker 7 = .ok (.istore_n 1, 1) := by decide +kernel
theorem dX1_seenWalker_8 : decode cX1_seenWalker 8 = .ok (.iload_n 1, 1) := by decide +kernel
theorem dX1_seenWalker_9 : decode cX1_seenWalker 9 = .ok (.invokestatic 69, 3) := by decide +kernel
theorem dX1_seenWalker_12 : decode cX1_seenWalker 12 = .ok (.ifCond .eq 7, 3) := by decide +kernel
theorem dX1_seenWalker_15 : decode cX1_seenWalker 15 = .ok (.iload_n 1, 1) := by decide +kernel
theorem dX1_seenWalker_16 : decode cX1_seenWalker 16 = .ok (.goto 4, 3) := by decide +kernel
theorem dX1_seenWalker_19 : decode cX1_seenWalker 19 = .ok (.iconst (-1), 1) := by decide +kernel
theorem dX1_seenWalker_20 : decode cX1_seenWalker 20 = .ok (.ireturn, 1) := by decide +kernel
theorem dX2_init_0 : decode cX2_init 0 = .ok (.aload_n 0, 1) := by decide +kernel
theorem dX2_init_1 : decode cX2_init 1 = .ok (.invokespecial 3, 3) := by decide +kernel
theorem dX2_init_4 : decode cX2_init 4 = .ok (.aload_n 0, 1) := by decide +kernel
theorem dX2_init_5 : decode cX2_init 5 = .ok (.bipush 16, 2) := by decide +kernel
theorem dX2_init_7 : decode cX2_init 7 = .ok (.newarray .int, 2) := by decide +kernel
theorem dX2_init_9 : decode cX2_init 9 = .ok (.putfield 11, 3) := by decide +kernel
theorem dX2_init_12 : decode cX2_init 12 = .ok (.aload_n 0, 1) := by decide +kernel
theorem dX2_init_13 : decode cX2_init 13 = .ok (.bipush 16, 2) := by decide +kernel
theorem dX2_init_15 : decode cX2_init 15 = .ok (.newarray .int, 2) := by decide +kernel
theorem dX2_init_17 : decode cX2_init 17 = .ok (.putfield 15, 3) := by decide +kernel
theorem dX2_init_20 : decode cX2_init 20 = .ok (.aload_n 0, 1) := by decide +kernel
theorem dX2_init_21 : decode cX2_init 21 = .ok (.bipush 16, 2) := by decide +kernel
theorem dX2_init_23 : decode cX2_init 23 = .ok (.newarray .int, 2) := by decide +kernel
theorem dX2_init_25 : decode cX2_init 25 = .ok (.putfield 18, 3) := by decide +kernel
theorem dX2_init_28 : decode cX2_init 28 = .ok (.aload_n 0, 1) := by decide +kernel
theorem dX2_init_29 : decode cX2_init 29 = .ok (.bipush 16, 2) := by decide +kernel
theorem dX2_init_31 : decode cX2_init 31 = .ok (.newarray .int, 2) := by decide +kernel
theorem dX2_init_33 : decode cX2_init 33 = .ok (.putfield 21, 3) := by decide +kernel
theorem dX2_init_36 : decode cX2_init 36 = .ok (.aload_n 0, 1) := by decide +kernel
theorem dX2_init_37 : decode cX2_init 37 = .ok (.iconst 0, 1) := by decide +kernel
theorem dX2_init_38 : decode cX2_init 38 = .ok (.putfield 24, 3) := by decide +kernel
theorem dX2_init_41 : decode cX2_init 41 = .ok (.aload_n 0, 1) := by decide +kernel
theorem dX2_init_42 : decode cX2_init 42 = .ok (.sipush 240, 3) := by decide +kernel
theorem dX2_init_45 : decode cX2_init 45 = .ok (.newarray .int, 2) := by decide +kernel
theorem dX2_init_47 : decode cX2_init 47 = .ok (.putfield 28, 3) := by decide +kernel
theorem dX2_init_50 : decode cX2_init 50 = .ok (.aload_n 0, 1) := by decide +kernel
theorem dX2_init_51 : decode cX2_init 51 = .ok (.sipush 240, 3) := by decide +kernel
theorem dX2_init_54 : decode cX2_init 54 = .ok (.newarray .int, 2) := by decide +kernel
theorem dX2_init_56 : decode cX2_init 56 = .ok (.putfield 31, 3) := by decide +kernel
theorem dX2_init_59 : decode cX2_init 59 = .ok (.aload_n 0, 1) := by decide +kernel
theorem dX2_init_60 : decode cX2_init 60 = .ok (.iconst 0, 1) := by decide +kernel
theorem dX2_init_61 : decode cX2_init 61 = .ok (.putfield 34, 3) := by decide +kernel
theorem dX2_init_64 : decode cX2_init 64 = .ok (.aload_n 0, 1) := by decide +kernel
theorem dX2_init_65 : decode cX2_init 65 = .ok (.bipush 8, 2) := by decide +kernel
theorem dX2_init_67 : decode cX2_init 67 = .ok (.newarray .int, 2) := by decide +kernel
theorem dX2_init_69 : decode cX2_init 69 = .ok (.putfield 37, 3) := by decide +kernel
theorem dX2_init_72 : decode cX2_init 72 = .ok (.aload_n 0, 1) := by decide +kernel
theorem dX2_init_73 : decode cX2_init 73 = .ok (.bipush 32, 2) := by decide +kernel
theorem dX2_init_75 : decode cX2_init 75 = .ok (.newarray .int, 2) := by decide +kernel
theorem dX2_init_77 : decode cX2_init 77 = .ok (.putfield 40, 3) := by decide +kernel
theorem dX2_init_80 : decode cX2_init 80 = .ok (.return_, 1) := by decide +kernel
theorem dX2_clear_0 : decode cX2_clear 0 = .ok (.aload_n 0, 1) := by decide +kernel
theorem dX2_clear_1 : decode cX2_clear 1 = .ok (.iconst 0, 1) := by decide +kernel
theorem dX2_clear_2 : decode cX2_clear 2 = .ok (.putfield 24, 3) := by decide +kernel
theorem dX2_clear_5 : decode cX2_clear 5 = .ok (.aload_n 0, 1) := by decide +kernel
theorem dX2_clear_6 : decode cX2_clear 6 = .ok (.iconst 0, 1) := by decide +kernel
theorem dX2_clear_7 : decode cX2_clear 7 = .ok (.putfield 34, 3) := by decide +kernel
theorem dX2_clear_10 : decode cX2_clear 10 = .ok (.return_, 1) := by decide +kernel
theorem dX2_put_0 : decode cX2_put 0 = .ok (.aload_n 0, 1) := by decide +kernel
theorem dX2_put_1 : decode cX2_put 1 = .ok (.getfield 34, 3) := by decide +kernel
theorem dX2_put_4 : decode cX2_put 4 = .ok (.sipush 240, 3) := by decide +kernel
theorem dX2_put_7 : decode cX2_put 7 = .ok (.if_icmp .ge 33, 3) := by decide +kernel
theorem dX2_put_10 : decode cX2_put 10 = .ok (.aload_n 0, 1) := by decide +kernel
theorem dX2_put_11 : decode cX2_put 11 = .ok (.getfield 28, 3) := by decide +kernel
theorem dX2_put_14 : decode cX2_put 14 = .ok (.aload_n 0, 1) := by decide +kernel
theorem dX2_put_15 : decode cX2_put 15 = .ok (.getfield 34, 3) := by decide +kernel
theorem dX2_put_18 : decode cX2_put 18 = .ok (.iload_n 1, 1) := by decide +kernel
theorem dX2_put_19 : decode cX2_put 19 = .ok (.iastore, 1) := by decide +kernel
theorem dX2_put_20 : decode cX2_put 20 = .ok (.aload_n 0, 1) := by decide +kernel
theorem dX2_put_21 : decode cX2_put 21 = .ok (.getfield 31, 3) := by decide +kernel
theorem dX2_put_24 : decode cX2_put 24 = .ok (.aload_n 0, 1) := by decide +kernel
theorem dX2_put_25 : decode cX2_put 25 = .ok (.getfield 34, 3) := by decide +kernel
theorem dX2_put_28 : decode cX2_put 28 = .ok (.iload_n 2, 1) := by decide +kernel
theorem dX2_put_29 : decode cX2_put 29 = .ok (.iastore, 1) := by decide +kernel
theorem dX2_put_30 : decode cX2_put 30 = .ok (.aload_n 0, 1) := by decide +kernel
theorem dX2_put_31 : decode cX2_put 31 = .ok (.dup, 1) := by decide +kernel
theorem dX2_put_32 : decode cX2_put 32 = .ok (.getfield 34, 3) := by decide +kernel
theorem dX2_put_35 : decode cX2_put 35 = .ok (.iconst 1, 1) := by decide +kernel
theorem dX2_put_36 : decode cX2_put 36 = .ok (.iadd, 1) := by decide +kernel
theorem dX2_put_37 : decode cX2_put 37 = .ok (.putfield 34, 3) := by decide +kernel
theorem dX2_put_40 : decode cX2_put 40 = .ok (.aload_n 0, 1) := by decide +kernel
theorem dX2_put_41 : decode cX2_put 41 = .ok (.getfield 34, 3) := by decide +kernel
theorem dX2_put_44 : decode cX2_put 44 = .ok (.iconst 1, 1) := by decide +kernel
theorem dX2_put_45 : decode cX2_put 45 = .ok (.isub, 1) := by decide +kernel
theorem dX2_put_46 : decode cX2_put 46 = .ok (.ireturn, 1) := by decide +kernel
set_option maxRecDepth 20000 in
theorem ggX2_leadHere_X11_isWithin : GoodIn wsX2_leadHere wsX11_isWithin := goodIn_r _ [5] (by decide +kernel) (by decide +kernel)
set_option maxRecDepth 20000 in
theorem gX2_leadHere_X11_isWithin_n43 : GoodIn wsX2_leadHere (wsX11_isWithin) := ggX2_leadHere_X11_isWithin
theorem dX2_leadHere_0 : decode cX2_leadHere 0 = .ok (.iload_n 1, 1) := by decide +kernel
theorem dX2_leadHere_1 : decode cX2_leadHere 1 = .ok (.iconst 0, 1) := by decide +kernel
theorem dX2_leadHere_2 : decode cX2_leadHere 2 = .ok (.aload_n 0, 1) := by decide +kernel
theorem dX2_leadHere_3 : decode cX2_leadHere 3 = .ok (.getfield 34, 3) := by decide +kernel
theorem dX2_leadHere_6 : decode cX2_leadHere 6 = .ok (.iconst 1, 1) := by decide +kernel
theorem dX2_leadHere_7 : decode cX2_leadHere 7 = .ok (.isub, 1) := by decide +kernel
theorem dX2_leadHere_8 : decode cX2_leadHere 8 = .ok (.invokestatic 43, 3) := by decide +kernel
theorem dX2_leadHere_11 : decode cX2_leadHere 11 = .ok (.ifCond .eq 13, 3) := by decide +kernel
theorem dX2_leadHere_14 : decode cX2_leadHere 14 = .ok (.aload_n 0, 1) := by decide +kernel
theorem dX2_leadHere_15 : decode cX2_leadHere 15 = .ok (.getfield 31, 3) := by decide +kernel
theorem dX2_leadHere_18 : decode cX2_leadHere 18 = .ok (.iload_n 1, 1) := by decide +kernel
theorem dX2_leadHere_19 : decode cX2_leadHere 19 = .ok (.aload_n 0, 1) := by decide +kernel
theorem dX2_leadHere_20 : decode cX2_leadHere 20 = .ok (.getfield 34, 3) := by decide +kernel
theorem dX2_leadHere_23 : decode cX2_leadHere 23 = .ok (.iastore, 1) := by decide +kernel
theorem dX2_leadHere_24 : decode cX2_leadHere 24 = .ok (.return_, 1) := by decide +kernel
set_option maxRecDepth 20000 in
theorem ggX2_look_J6_bitCount_0f7a4 : GoodIn wsX2_look wsJ6_bitCount_0f7a4 := goodIn_r _ [11, 12, 13, 14] (by decide +kernel) (by decide +kernel)
set_option maxRecDepth 20000 in
theorem gX2_look_J6_bitCount_0f7a4 : GoodIn wsX2_look (va_wsS RX2 58 yJ6_bitCount_0f7a4 wsJ6_bitCount_0f7a4) := goodIn_app (goodIn_of _ (by decide +kernel)) ggX2_look_J6_bitCount_0f7a4
theorem dX2_look_0 : decode cX2_look 0 = .ok (.aload_n 0, 1) := by decide +kernel
theorem dX2_look_1 : decode cX2_look 1 = .ok (.getfield 37, 3) := by decide +kernel
theorem dX2_look_4 : decode cX2_look 4 = .ok (.iconst 0, 1) := by decide +kernel
theorem dX2_look_5 : decode cX2_look 5 = .ok (.iload_n 2, 1) := by decide +kernel
theorem dX2_look_6 : decode cX2_look 6 = .ok (.iastore, 1) := by decide +kernel
theorem dX2_look_7 : decode cX2_look 7 = .ok (.aload_n 0, 1) := by decide +kernel
theorem dX2_look_8 : decode cX2_look 8 = .ok (.getfield 37, 3) := by decide +kernel
theorem dX2_look_11 : decode cX2_look 11 = .ok (.iconst 1, 1) := by decide +kernel
theorem dX2_look_12 : decode cX2_look 12 = .ok (.aload_n 1, 1) := by decide +kernel
theorem dX2_look_13 : decode cX2_look 13 = .ok (.getfield 47, 3) := by decide +kernel
theorem dX2_look_16 : decode cX2_look 16 = .ok (.iload_n 2, 1) := by decide +kernel
theorem dX2_look_17 : decode cX2_look 17 = .ok (.iaload, 1) := by decide +kernel
theorem dX2_look_18 : decode cX2_look 18 = .ok (.iastore, 1) := by decide +kernel
theorem dX2_look_19 : decode cX2_look 19 = .ok (.aload_n 0, 1) := by decide +kernel
theorem dX2_look_20 : decode cX2_look 20 = .ok (.getfield 37, 3) := by decide +kernel
theorem dX2_look_23 : decode cX2_look 23 = .ok (.iconst 2, 1) := by decide +kernel
theorem dX2_look_24 : decode cX2_look 24 = .ok (.aload_n 1, 1) := by decide +kernel
theorem dX2_look_25 : decode cX2_look 25 = .ok (.getfield 52, 3) := by decide +kernel
theorem dX2_look_28 : decode cX2_look 28 = .ok (.iload_n 2, 1) := by decide +kernel
theorem dX2_look_29 : decode cX2_look 29 = .ok (.iaload, 1) := by decide +kernel
theorem dX2_look_30 : decode cX2_look 30 = .ok (.iastore, 1) := by decide +kernel
theorem dX2_look_31 : decode cX2_look 31 = .ok (.aload_n 0, 1) := by decide +kernel
theorem dX2_look_32 : decode cX2_look 32 = .ok (.getfield 37, 3) := by decide +kernel
theorem dX2_look_35 : decode cX2_look 35 = .ok (.iconst 3, 1) := by decide +kernel
theorem dX2_look_36 : decode cX2_look 36 = .ok (.aload_n 1, 1) := by decide +kernel
theorem dX2_look_37 : decode cX2_look 37 = .ok (.getfield 55, 3) := by decide +kernel
theorem dX2_look_40 : decode cX2_look 40 = .ok (.iload_n 2, 1) := by decide +kernel
theorem dX2_look_41 : decode cX2_look 41 = .ok (.ishr, 1) := by decide +kernel
theorem dX2_look_42 : decode cX2_look 42 = .ok (.iconst 1, 1) := by decide +kernel
theorem dX2_look_43 : decode cX2_look 43 = .ok (.iand, 1) := by decide +kernel
theorem dX2_look_44 : decode cX2_look 44 = .ok (.iastore, 1) := by decide +kernel
theorem dX2_look_45 : decode cX2_look 45 = .ok (.aload_n 0, 1) := by decide +kernel
theorem dX2_look_46 : decode cX2_look 46 = .ok (.getfield 37, 3) := by decide +kernel
theorem dX2_look_49 : decode cX2_look 49 = .ok (.iconst 4, 1) := by decide +kernel
theorem dX2_look_50 : decode cX2_look 50 = .ok (.aload_n 1, 1) := by decide +kernel
theorem dX2_look_51 : decode cX2_look 51 = .ok (.getfield 55, 3) := by decide +kernel
theorem dX2_look_54 : decode cX2_look 54 = .ok (.invokestatic 58, 3) := by decide +kernel
theorem dX2_look_57 : decode cX2_look 57 = .ok (.iastore, 1) := by decide +kernel
theorem dX2_look_58 : decode cX2_look 58 = .ok (.aload_n 0, 1) := by decide +kernel
theorem dX2_look_59 : decode cX2_look 59 = .ok (.getfield 37, 3) := by decide +kernel
theorem dX2_look_62 : decode cX2_look 62 = .ok (.iconst 5, 1) := by decide +kernel
theorem dX2_look_63 : decode cX2_look 63 = .ok (.aload_n 1, 1) := by decide +kernel
theorem dX2_look_64 : decode cX2_look 64 = .ok (.getfield 64, 3) := by decide +kernel
theorem dX2_look_67 : decode cX2_look 67 = .ok (.iload_n 2, 1) := by decide +kernel
theorem dX2_look_68 : decode cX2_look 68 = .ok (.iaload, 1) := by decide +kernel
theorem dX2_look_69 : decode cX2_look 69 = .ok (.iastore, 1) := by decide +kernel
theorem dX2_look_70 : decode cX2_look 70 = .ok (.aload_n 0, 1) := by decide +kernel
theorem dX2_look_71 : decode cX2_look 71 = .ok (.getfield 37, 3) := by decide +kernel
theorem dX2_look_74 : decode cX2_look 74 = .ok (.bipush 6, 2) := by decide +kernel
theorem dX2_look_76 : decode cX2_look 76 = .ok (.aload_n 1, 1) := by decide +kernel
theorem dX2_look_77 : decode cX2_look 77 = .ok (.getfield 67, 3) := by decide +kernel
theorem dX2_look_80 : decode cX2_look 80 = .ok (.iload_n 2, 1) := by decide +kernel
theorem dX2_look_81 : decode cX2_look 81 = .ok (.iaload, 1) := by decide +kernel
theorem dX2_look_82 : decode cX2_look 82 = .ok (.iastore, 1) := by decide +kernel
theorem dX2_look_83 : decode cX2_look 83 = .ok (.aload_n 0, 1) := by decide +kernel
theorem dX2_look_84 : decode cX2_look 84 = .ok (.getfield 37, 3) := by decide +kernel
theorem dX2_look_87 : decode cX2_look 87 = .ok (.bipush 7, 2) := by decide +kernel
theorem dX2_look_89 : decode cX2_look 89 = .ok (.aload_n 1, 1) := by decide +kernel
theorem dX2_look_90 : decode cX2_look 90 = .ok (.getfield 70, 3) := by decide +kernel
theorem dX2_look_93 : decode cX2_look 93 = .ok (.bipush 100, 2) := by decide +kernel
theorem dX2_look_95 : decode cX2_look 95 = .ok (.irem, 1) := by decide +kernel
theorem dX2_look_96 : decode cX2_look 96 = .ok (.iastore, 1) := by decide +kernel
theorem dX2_look_97 : decode cX2_look 97 = .ok (.return_, 1) := by decide +kernel
theorem dX2_setWeight_0 : decode cX2_setWeight 0 = .ok (.aload_n 0, 1) := by decide +kernel
theorem dX2_setWeight_1 : decode cX2_setWeight 1 = .ok (.getfield 37, 3) := by decide +kernel
theorem dX2_setWeight_4 : decode cX2_setWeight 4 = .ok (.iconst 1, 1) := by decide +kernel
theorem dX2_setWeight_5 : decode cX2_setWeight 5 = .ok (.iload_n 1, 1) := by decide +kernel
theorem dX2_setWeight_6 : decode cX2_setWeight 6 = .ok (.iastore, 1) := by decide +kernel
theorem dX2_setWeight_7 : decode cX2_setWeight 7 = .ok (.return_, 1) := by decide +kernel
set_option maxRecDepth 20000 in
theorem ggX2_anyHolds_X2_ruleThatHolds : GoodIn wsX2_anyHolds wsX2_ruleThatHolds := goodIn_r _ [5, 6, 7, 8, 9, 10, 11, 12, 4, 13, 14, 15, 16, 17, 18, 19, 20, 21, 22, 23, 24, 25, 26, 27, 28, 29, 30, 31, 32, 33, 34] (by decide +kernel) (by decide +kernel)
set_option maxRecDepth 20000 in
theorem gX2_anyHolds_X2_ruleThatHolds : GoodIn wsX2_anyHolds (wsV RX2 73 RX2 yX2_ruleThatHolds wsX2_ruleThatHolds) := goodIn_app (goodIn_of _ (by decide +kernel)) ggX2_anyHolds_X2_ruleThatHolds
theorem dX2_anyHolds_0 : decode cX2_anyHolds 0 = .ok (.aload_n 0, 1) := by decide +kernel
theorem dX2_anyHolds_1 : decode cX2_anyHolds 1 = .ok (.iload_n 1, 1) := by decide +kernel
theorem dX2_anyHolds_2 : decode cX2_anyHolds 2 = .ok (.invokevirtual 73, 3) := by decide +kernel
theorem dX2_anyHolds_5 : decode cX2_anyHolds 5 = .ok (.iconst (-1), 1) := by decide +kernel
theorem dX2_anyHolds_6 : decode cX2_anyHolds 6 = .ok (.if_icmp .eq 7, 3) := by decide +kernel
theorem dX2_anyHolds_9 : decode cX2_anyHolds 9 = .ok (.iconst 1, 1) := by decide +kernel
theorem dX2_anyHolds_10 : decode cX2_anyHolds 10 = .ok (.goto 4, 3) := by decide +kernel
theorem dX2_anyHolds_13 : decode cX2_anyHolds 13 = .ok (.iconst 0, 1) := by decide +kernel
theorem dX2_anyHolds_14 : decode cX2_anyHolds 14 = .ok (.ireturn, 1) := by decide +kernel
set_option maxRecDepth 20000 in
theorem ggX2_say_X2_ruleThatHolds : GoodIn wsX2_say wsX2_ruleThatHolds := goodIn_r _ [7, 8, 9, 2, 10, 11, 12, 13, 6, 14, 15, 16, 17, 18, 19, 20, 21, 22, 23, 24, 25, 33, 34, 35, 36, 37, 38, 39, 40, 41, 42] (by decide +kernel) (by decide +kernel)
set_option maxRecDepth 20000 in
theorem gX2_say_X2_ruleThatHolds : GoodIn wsX2_say (wsV RX2 73 RX2 yX2_ruleThatHolds wsX2_ruleThatHolds) := goodIn_app (goodIn_of _ (by decide +kernel)) ggX2_say_X2_ruleThatHolds
set_option maxRecDepth 20000 in
theorem ggX2_say_X2_reckon : GoodIn wsX2_say wsX2_reckon := goodIn_r _ [14, 15, 16, 17, 18, 19, 20, 21, 22, 23, 24, 6, 25, 33, 34, 35, 36, 37, 38, 39, 40, 41, 42] (by decide +kernel) (by decide +kernel)
set_option maxRecDepth 20000 in
theorem gX2_say_X2_reckon : GoodIn wsX2_say (wsV RX2 76 RX2 yX2_reckon wsX2_reckon) := goodIn_app (goodIn_of _ (by decide +kernel)) ggX2_say_X2_reckon
set_option maxRecDepth 20000 in
theorem ggX2_say_X11_bounded : GoodIn wsX2_say wsX11_bounded := goodIn_r _ [28, 29, 30, 21, 31, 32, 20, 22] (by decide +kernel) (by decide +kernel)
set_option maxRecDepth 20000 in
theorem gX2_say_X11_bounded_n80 : GoodIn wsX2_say (wsX11_bounded) := ggX2_say_X11_bounded
theorem dX2_say_0 : decode cX2_say 0 = .ok (.aload_n 0, 1) := by decide +kernel
theorem dX2_say_1 : decode cX2_say 1 = .ok (.iload_n 1, 1) := by decide +kernel
theorem dX2_say_2 : decode cX2_say 2 = .ok (.invokevirtual 73, 3) := by decide +kernel
theorem dX2_say_5 : decode cX2_say 5 = .ok (.istore_n 3, 1) := by decide +kernel
theorem dX2_say_6 : decode cX2_say 6 = .ok (.iload_n 3, 1) := by decide +kernel
theorem dX2_say_7 : decode cX2_say 7 = .ok (.iconst (-1), 1) := by decide +kernel
theorem dX2_say_8 : decode cX2_say 8 = .ok (.if_icmp .ne 5, 3) := by decide +kernel
theorem dX2_say_11 : decode cX2_say 11 = .ok (.iconst (-1), 1) := by decide +kernel
theorem dX2_say_12 : decode cX2_say 12 = .ok (.ireturn, 1) := by decide +kernel
theorem dX2_say_13 : decode cX2_say 13 = .ok (.aload_n 0, 1) := by decide +kernel
theorem dX2_say_14 : decode cX2_say 14 = .ok (.aload_n 0, 1) := by decide +kernel
theorem dX2_say_15 : decode cX2_say 15 = .ok (.getfield 15, 3) := by decide +kernel
theorem dX2_say_18 : decode cX2_say 18 = .ok (.iload_n 3, 1) := by decide +kernel
theorem dX2_say_19 : decode cX2_say 19 = .ok (.iaload, 1) := by decide +kernel
theorem dX2_say_20 : decode cX2_say 20 = .ok (.aload_n 0, 1) := by decide +kernel
theorem dX2_say_21 : decode cX2_say 21 = .ok (.getfield 18, 3) := by decide +kernel
theorem dX2_say_24 : decode cX2_say 24 = .ok (.iload_n 3, 1) := by decide +kernel
theorem dX2_say_25 : decode cX2_say 25 = .ok (.iaload, 1) := by decide +kernel
theorem dX2_say_26 : decode cX2_say 26 = .ok (.invokevirtual 76, 3) := by decide +kernel
theorem dX2_say_29 : decode cX2_say 29 = .ok (.iconst 0, 1) := by decide +kernel
theorem dX2_say_30 : decode cX2_say 30 = .ok (.iload_n 2, 1) := by decide +kernel
theorem dX2_say_31 : decode cX2_say 31 = .ok (.invokestatic 80, 3) := by decide +kernel
theorem dX2_say_34 : decode cX2_say 34 = .ok (.ireturn, 1) := by decide +kernel
set_option maxRecDepth 20000 in
theorem ggX2_ruleThatHolds_X2_reckon : GoodIn wsX2_ruleThatHolds wsX2_reckon := goodIn_r _ [9, 10, 11, 12, 13, 14, 15, 16, 17, 18, 19, 8, 20, 21, 22, 23, 24, 25, 26, 27, 28, 29, 30] (by decide +kernel) (by decide +kernel)
set_option maxRecDepth 20000 in
theorem gX2_ruleThatHolds_X2_reckon : GoodIn wsX2_ruleThatHolds (wsV RX2 76 RX2 yX2_reckon wsX2_reckon) := goodIn_app (goodIn_of _ (by decide +kernel)) ggX2_ruleThatHolds_X2_reckon
theorem dX2_ruleThatHolds_0 : decode cX2_ruleThatHolds 0 = .ok (.iconst 0, 1) := by decide +kernel
theorem dX2_ruleThatHolds_1 : decode cX2_ruleThatHolds 1 = .ok (.istore_n 2, 1) := by decide +kernel
theorem dX2_ruleThatHolds_2 : decode cX2_ruleThatHolds 2 = .ok (.iload_n 2, 1) := by decide +kernel
theorem dX2_ruleThatHolds_3 : decode cX2_ruleThatHolds 3 = .ok (.aload_n 0, 1) := by decide +kernel
theorem dX2_ruleThatHolds_4 : decode cX2_ruleThatHolds 4 = .ok (.getfield 24, 3) := by decide +kernel
theorem dX2_ruleThatHolds_7 : decode cX2_ruleThatHolds 7 = .ok (.if_icmp .ge 40, 3) := by decide +kernel
theorem dX2_ruleThatHolds_10 : decode cX2_ruleThatHolds 10 = .ok (.aload_n 0, 1) := by decide +kernel
theorem dX2_ruleThatHolds_11 : decode cX2_ruleThatHolds 11 = .ok (.getfield 11, 3) := by decide +kernel
theorem dX2_ruleThatHolds_14 : decode cX2_ruleThatHolds 14 = .ok (.iload_n 2, 1) := by decide +kernel
theorem dX2_ruleThatHolds_15 : decode cX2_ruleThatHolds 15 = .ok (.iaload, 1) := by decide +kernel
theorem dX2_ruleThatHolds_16 : decode cX2_ruleThatHolds 16 = .ok (.iload_n 1, 1) := by decide +kernel
theorem dX2_ruleThatHolds_17 : decode cX2_ruleThatHolds 17 = .ok (.if_icmp .ne 24, 3) := by decide +kernel
theorem dX2_ruleThatHolds_20 : decode cX2_ruleThatHolds 20 = .ok (.aload_n 0, 1) := by decide +kernel
theorem dX2_ruleThatHolds_21 : decode cX2_ruleThatHolds 21 = .ok (.aload_n 0, 1) := by decide +kernel
theorem dX2_ruleThatHolds_22 : decode cX2_ruleThatHolds 22 = .ok (.getfield 18, 3) := by decide +kernel
theorem dX2_ruleThatHolds_25 : decode cX2_ruleThatHolds 25 = .ok (.iload_n 2, 1) := by decide +kernel
theorem dX2_ruleThatHolds_26 : decode cX2_ruleThatHolds 26 = .ok (.iaload, 1) := by decide +kernel
theorem dX2_ruleThatHolds_27 : decode cX2_ruleThatHolds 27 = .ok (.aload_n 0, 1) := by decide +kernel
theorem dX2_ruleThatHolds_28 : decode cX2_ruleThatHolds 28 = .ok (.getfield 21, 3) := by decide +kernel
theorem dX2_ruleThatHolds_31 : decode cX2_ruleThatHolds 31 = .ok (.iload_n 2, 1) := by decide +kernel
theorem dX2_ruleThatHolds_32 : decode cX2_ruleThatHolds 32 = .ok (.iaload, 1) := by decide +kernel
theorem dX2_ruleThatHolds_33 : decode cX2_ruleThatHolds 33 = .ok (.invokevirtual 76, 3) := by decide +kernel
theorem dX2_ruleThatHolds_36 : decode cX2_ruleThatHolds 36 = .ok (.ifCond .eq 5, 3) := by decide +kernel
theorem dX2_ruleThatHolds_39 : decode cX2_ruleThatHolds 39 = .ok (.iload_n 2, 1) := by decide +kernel
theorem dX2_ruleThatHolds_40 : decode cX2_ruleThatHolds 40 = .ok (.ireturn, 1) := by decide +kernel
theorem dX2_ruleThatHolds_41 : decode cX2_ruleThatHolds 41 = .ok (.iinc 2 1, 3) := by decide +kernel
theorem dX2_ruleThatHolds_44 : decode cX2_ruleThatHolds 44 = .ok (.goto (-42), 3) := by decide +kernel
theorem dX2_ruleThatHolds_47 : decode cX2_ruleThatHolds 47 = .ok (.iconst (-1), 1) := by decide +kernel
theorem dX2_ruleThatHolds_48 : decode cX2_ruleThatHolds 48 = .ok (.ireturn, 1) := by decide +kernel
set_option maxRecDepth 20000 in
theorem ggX2_reckon_X2_joined : GoodIn wsX2_reckon wsX2_joined := goodIn_r _ [12] (by decide +kernel) (by decide +kernel)
set_option maxRecDepth 20000 in
theorem gX2_reckon_X2_joined : GoodIn wsX2_reckon (va_wsS RX2 89 yX2_joined wsX2_joined) := goodIn_app (goodIn_of _ (by decide +kernel)) ggX2_reckon_X2_joined
theorem dX2_reckon_0 : decode cX2_reckon 0 = .ok (.iconst (-1), 1) := by decide +kernel
theorem dX2_reckon_1 : decode cX2_reckon 1 = .ok (.istore_n 3, 1) := by decide +kernel
theorem dX2_reckon_2 : decode cX2_reckon 2 = .ok (.iload_n 1, 1) := by decide +kernel
theorem dX2_reckon_3 : decode cX2_reckon 3 = .ok (.istore 4, 2) := by decide +kernel
theorem dX2_reckon_5 : decode cX2_reckon 5 = .ok (.iload 4, 2) := by decide +kernel
theorem dX2_reckon_7 : decode cX2_reckon 7 = .ok (.iload_n 2, 1) := by decide +kernel
theorem dX2_reckon_8 : decode cX2_reckon 8 = .ok (.if_icmp .ge 226, 3) := by decide +kernel
theorem dX2_reckon_11 : decode cX2_reckon 11 = .ok (.aload_n 0, 1) := by decide +kernel
theorem dX2_reckon_12 : decode cX2_reckon 12 = .ok (.getfield 28, 3) := by decide +kernel
theorem dX2_reckon_15 : decode cX2_reckon 15 = .ok (.iload 4, 2) := by decide +kernel
theorem dX2_reckon_17 : decode cX2_reckon 17 = .ok (.iaload, 1) := by decide +kernel
theorem dX2_reckon_18 : decode cX2_reckon 18 = .ok (.istore 5, 2) := by decide +kernel
theorem dX2_reckon_20 : decode cX2_reckon 20 = .ok (.aload_n 0, 1) := by decide +kernel
theorem dX2_reckon_21 : decode cX2_reckon 21 = .ok (.getfield 31, 3) := by decide +kernel
theorem dX2_reckon_24 : decode cX2_reckon 24 = .ok (.iload 4, 2) := by decide +kernel
theorem dX2_reckon_26 : decode cX2_reckon 26 = .ok (.iaload, 1) := by decide +kernel
theorem dX2_reckon_27 : decode cX2_reckon 27 = .ok (.istore 6, 2) := by decide +kernel
theorem dX2_reckon_29 : decode cX2_reckon 29 = .ok (.iload 5, 2) := by decide +kernel
theorem dX2_reckon_31 : decode cX2_reckon 31 = .ok (.ifCond .eq 9, 3) := by decide +kernel
theorem dX2_reckon_34 : decode cX2_reckon 34 = .ok (.iload 5, 2) := by decide +kernel
theorem dX2_reckon_36 : decode cX2_reckon 36 = .ok (.iconst 1, 1) := by decide +kernel
theorem dX2_reckon_37 : decode cX2_reckon 37 = .ok (.if_icmp .ne 40, 3) := by decide +kernel
theorem dX2_reckon_40 : decode cX2_reckon 40 = .ok (.iinc 3 1, 3) := by decide +kernel
theorem dX2_reckon_43 : decode cX2_reckon 43 = .ok (.iload_n 3, 1) := by decide +kernel
theorem dX2_reckon_44 : decode cX2_reckon 44 = .ok (.bipush 32, 2) := by decide +kernel
theorem dX2_reckon_46 : decode cX2_reckon 46 = .ok (.if_icmp .lt 5, 3) := by decide +kernel
theorem dX2_reckon_49 : decode cX2_reckon 49 = .ok (.iconst 0, 1) := by decide +kernel
theorem dX2_reckon_50 : decode cX2_reckon 50 = .ok (.ireturn, 1) := by decide +kernel
theorem dX2_reckon_51 : decode cX2_reckon 51 = .ok (.aload_n 0, 1) := by decide +kernel
theorem dX2_reckon_52 : decode cX2_reckon 52 = .ok (.getfield 40, 3) := by decide +kernel
theorem dX2_reckon_55 : decode cX2_reckon 55 = .ok (.iload_n 3, 1) := by decide +kernel
theorem dX2_reckon_56 : decode cX2_reckon 56 = .ok (.iload 5, 2) := by decide +kernel
theorem dX2_reckon_58 : decode cX2_reckon 58 = .ok (.ifCond .ne 8, 3) := by decide +kernel
theorem dX2_reckon_61 : decode cX2_reckon 61 = .ok (.iload 6, 2) := by decide +kernel
theorem dX2_reckon_63 : decode cX2_reckon 63 = .ok (.goto 10, 3) := by decide +kernel
theorem dX2_reckon_66 : decode cX2_reckon 66 = .ok (.aload_n 0, 1) := by decide +kernel
theorem dX2_reckon_67 : decode cX2_reckon 67 = .ok (.getfield 37, 3) := by decide +kernel
theorem dX2_reckon_70 : decode cX2_reckon 70 = .ok (.iload 6, 2) := by decide +kernel
theorem dX2_reckon_72 : decode cX2_reckon 72 = .ok (.iaload, 1) := by decide +kernel
theorem dX2_reckon_73 : decode cX2_reckon 73 = .ok (.iastore, 1) := by decide +kernel
theorem dX2_reckon_74 : decode cX2_reckon 74 = .ok (.goto 154, 3) := by decide +kernel
theorem dX2_reckon_77 : decode cX2_reckon 77 = .ok (.iload_n 3, 1) := by decide +kernel
theorem dX2_reckon_78 : decode cX2_reckon 78 = .ok (.ifCond .ge 5, 3) := by decide +kernel
theorem dX2_reckon_81 : decode cX2_reckon 81 = .ok (.iconst 0, 1) := by decide +kernel
theorem dX2_reckon_82 : decode cX2_reckon 82 = .ok (.ireturn, 1) := by decide +kernel
theorem dX2_reckon_83 : decode cX2_reckon 83 = .ok (.iload 5, 2) := by decide +kernel
theorem dX2_reckon_85 : decode cX2_reckon 85 = .ok (.bipush 33, 2) := by decide +kernel
theorem dX2_reckon_87 : decode cX2_reckon 87 = .ok (.if_icmp .ne 20, 3) := by decide +kernel
theorem dX2_reckon_90 : decode cX2_reckon 90 = .ok (.aload_n 0, 1) := by decide +kernel
theorem dX2_reckon_91 : decode cX2_reckon 91 = .ok (.getfield 40, 3) := by decide +kernel
theorem dX2_reckon_94 : decode cX2_reckon 94 = .ok (.iload_n 3, 1) := by decide +kernel
theorem dX2_reckon_95 : decode cX2_reckon 95 = .ok (.iconst 1, 1) := by decide +kernel
theorem dX2_reckon_96 : decode cX2_reckon 96 = .ok (.aload_n 0, 1) := by decide +kernel
theorem dX2_reckon_97 : decode cX2_reckon 97 = .ok (.getfield 40, 3) := by decide +kernel
theorem dX2_reckon_100 : decode cX2_reckon 100 = .ok (.iload_n 3, 1) := by decide +kernel
theorem dX2_reckon_101 : decode cX2_reckon 101 = .ok (.iaload, 1) := by decide +kernel
theorem dX2_reckon_102 : decode cX2_reckon 102 = .ok (.isub, 1) := by decide +kernel
theorem dX2_reckon_103 : decode cX2_reckon 103 = .ok (.iastore, 1) := by decide +kernel
theorem dX2_reckon_104 : decode cX2_reckon 104 = .ok (.goto 124, 3) := by decide +kernel
theorem dX2_reckon_107 : decode cX2_reckon 107 = .ok (.iload 5, 2) := by decide +kernel
theorem dX2_reckon_109 : decode cX2_reckon 109 = .ok (.bipush 38, 2) := by decide +kernel
theorem dX2_reckon_111 : decode cX2_reckon 111 = .ok (.if_icmp .eq 10, 3) := by decide +kernel
theorem dX2_reckon_114 : decode cX2_reckon 114 = .ok (.iload 5, 2) := by decide +kernel
theorem dX2_reckon_116 : decode cX2_reckon 116 = .ok (.bipush 124, 2) := by decide +kernel
theorem dX2_reckon_118 : decode cX2_reckon 118 = .ok (.if_icmp .ne 52, 3) := by decide +kernel
theorem dX2_reckon_121 : decode cX2_reckon 121 = .ok (.aload_n 0, 1) := by decide +kernel
theorem dX2_reckon_122 : decode cX2_reckon 122 = .ok (.getfield 40, 3) := by decide +kernel
theorem dX2_reckon_125 : decode cX2_reckon 125 = .ok (.iload_n 3, 1) := by decide +kernel
theorem dX2_reckon_126 : decode cX2_reckon 126 = .ok (.iaload, 1) := by decide +kernel
theorem dX2_reckon_127 : decode cX2_reckon 127 = .ok (.ifCond .eq 7, 3) := by decide +kernel
theorem dX2_reckon_130 : decode cX2_reckon 130 = .ok (.iconst 1, 1) := by decide +kernel
theorem dX2_reckon_131 : decode cX2_reckon 131 = .ok (.goto 4, 3) := by decide +kernel
theorem dX2_reckon_134 : decode cX2_reckon 134 = .ok (.iconst 0, 1) := by decide +kernel
theorem dX2_reckon_135 : decode cX2_reckon 135 = .ok (.iload 5, 2) := by decide +kernel
theorem dX2_reckon_137 : decode cX2_reckon 137 = .ok (.bipush 124, 2) := by decide +kernel
theorem dX2_reckon_139 : decode cX2_reckon 139 = .ok (.if_icmp .ne 7, 3) := by decide +kernel
theorem dX2_reckon_142 : decode cX2_reckon 142 = .ok (.iconst 1, 1) := by decide +kernel
theorem dX2_reckon_143 : decode cX2_reckon 143 = .ok (.goto 4, 3) := by decide +kernel
theorem dX2_reckon_146 : decode cX2_reckon 146 = .ok (.iconst 0, 1) := by decide +kernel
theorem dX2_reckon_147 : decode cX2_reckon 147 = .ok (.if_icmp .ne 17, 3) := by decide +kernel
theorem dX2_reckon_150 : decode cX2_reckon 150 = .ok (.iload 4, 2) := by decide +kernel
theorem dX2_reckon_152 : decode cX2_reckon 152 = .ok (.iload 6, 2) := by decide +kernel
theorem dX2_reckon_154 : decode cX2_reckon 154 = .ok (.iconst 1, 1) := by decide +kernel
theorem dX2_reckon_155 : decode cX2_reckon 155 = .ok (.isub, 1) := by decide +kernel
theorem dX2_reckon_156 : decode cX2_reckon 156 = .ok (.invokestatic 84, 3) := by decide +kernel
theorem dX2_reckon_159 : decode cX2_reckon 159 = .ok (.istore 4, 2) := by decide +kernel
theorem dX2_reckon_161 : decode cX2_reckon 161 = .ok (.goto 67, 3) := by decide +kernel
theorem dX2_reckon_164 : decode cX2_reckon 164 = .ok (.iinc 3 (-1), 3) := by decide +kernel
theorem dX2_reckon_167 : decode cX2_reckon 167 = .ok (.goto 61, 3) := by decide +kernel
theorem dX2_reckon_170 : decode cX2_reckon 170 = .ok (.iload_n 3, 1) := by decide +kernel
theorem dX2_reckon_171 : decode cX2_reckon 171 = .ok (.iconst 1, 1) := by decide +kernel
theorem dX2_reckon_172 : decode cX2_reckon 172 = .ok (.if_icmp .lt 26, 3) := by decide +kernel
theorem dX2_reckon_175 : decode cX2_reckon 175 = .ok (.aload_n 0, 1) := by decide +kernel
theorem dX2_reckon_176 : decode cX2_reckon 176 = .ok (.getfield 40, 3) := by decide +kernel
theorem dX2_reckon_179 : decode cX2_reckon 179 = .ok (.iload_n 3, 1) := by decide +kernel
theorem dX2_reckon_180 : decode cX2_reckon 180 = .ok (.iaload, 1) := by decide +kernel
theorem dX2_reckon_181 : decode cX2_reckon 181 = .ok (.ifCond .ne 19, 3) := by decide +kernel
theorem dX2_reckon_184 : decode cX2_reckon 184 = .ok (.iload 5, 2) := by decide +kernel
theorem dX2_reckon_186 : decode cX2_reckon 186 = .ok (.bipush 47, 2) := by decide +kernel
theorem dX2_reckon_188 : decode cX2_reckon 188 = .ok (.if_icmp .eq 10, 3) := by decide +kernel
theorem dX2_reckon_191 : decode cX2_reckon 191 = .ok (.iload 5, 2) := by decide +kernel
theorem dX2_reckon_193 : decode cX2_reckon 193 = .ok (.bipush 37, 2) := by decide +kernel
theorem dX2_reckon_195 : decode cX2_reckon 195 = .ok (.if_icmp .ne 5, 3) := by decide +kernel
theorem dX2_reckon_198 : decode cX2_reckon 198 = .ok (.iconst 0, 1) := by decide +kernel
theorem dX2_reckon_199 : decode cX2_reckon 199 = .ok (.ireturn, 1) := by decide +kernel
theorem dX2_reckon_200 : decode cX2_reckon 200 = .ok (.iinc 3 (-1), 3) := by decide +kernel
theorem dX2_reckon_203 : decode cX2_reckon 203 = .ok (.aload_n 0, 1) := by decide +kernel
theorem dX2_reckon_204 : decode cX2_reckon 204 = .ok (.getfield 40, 3) := by decide +kernel
theorem dX2_reckon_207 : decode cX2_reckon 207 = .ok (.iload_n 3, 1) := by decide +kernel
theorem dX2_reckon_208 : decode cX2_reckon 208 = .ok (.iload 5, 2) := by decide +kernel
theorem dX2_reckon_210 : decode cX2_reckon 210 = .ok (.aload_n 0, 1) := by decide +kernel
theorem dX2_reckon_211 : decode cX2_reckon 211 = .ok (.getfield 40, 3) := by decide +kernel
theorem dX2_reckon_214 : decode cX2_reckon 214 = .ok (.iload_n 3, 1) := by decide +kernel
theorem dX2_reckon_215 : decode cX2_reckon 215 = .ok (.iaload, 1) := by decide +kernel
theorem dX2_reckon_216 : decode cX2_reckon 216 = .ok (.aload_n 0, 1) := by decide +kernel
theorem dX2_reckon_217 : decode cX2_reckon 217 = .ok (.getfield 40, 3) := by decide +kernel
theorem dX2_reckon_220 : decode cX2_reckon 220 = .ok (.iload_n 3, 1) := by decide +kernel
theorem dX2_reckon_221 : decode cX2_reckon 221 = .ok (.iconst 1, 1) := by decide +kernel
theorem dX2_reckon_222 : decode cX2_reckon 222 = .ok (.iadd, 1) := by decide +kernel
theorem dX2_reckon_223 : decode cX2_reckon 223 = .ok (.iaload, 1) := by decide +kernel
theorem dX2_reckon_224 : decode cX2_reckon 224 = .ok (.invokestatic 89, 3) := by decide +kernel
theorem dX2_reckon_227 : decode cX2_reckon 227 = .ok (.iastore, 1) := by decide +kernel
theorem dX2_reckon_228 : decode cX2_reckon 228 = .ok (.iinc 4 1, 3) := by decide +kernel
theorem dX2_reckon_231 : decode cX2_reckon 231 = .ok (.goto (-226), 3) := by decide +kernel
theorem dX2_reckon_234 : decode cX2_reckon 234 = .ok (.iload_n 3, 1) := by decide +kernel
theorem dX2_reckon_235 : decode cX2_reckon 235 = .ok (.ifCond .ne 12, 3) := by decide +kernel
theorem dX2_reckon_238 : decode cX2_reckon 238 = .ok (.aload_n 0, 1) := by decide +kernel
theorem dX2_reckon_239 : decode cX2_reckon 239 = .ok (.getfield 40, 3) := by decide +kernel
theorem dX2_reckon_242 : decode cX2_reckon 242 = .ok (.iconst 0, 1) := by decide +kernel
theorem dX2_reckon_243 : decode cX2_reckon 243 = .ok (.iaload, 1) := by decide +kernel
theorem dX2_reckon_244 : decode cX2_reckon 244 = .ok (.goto 4, 3) := by decide +kernel
theorem dX2_reckon_247 : decode cX2_reckon 247 = .ok (.iconst 0, 1) := by decide +kernel
theorem dX2_reckon_248 : decode cX2_reckon 248 = .ok (.ireturn, 1) := by decide +kernel
theorem dX2_joined_0 : decode cX2_joined 0 = .ok (.iload_n 0, 1) := by decide +kernel
theorem dX2_joined_1 : decode cX2_joined 1 = .ok (.lookupswitch 125 #[(37, 91), (42, 75), (43, 67), (45, 71), (47, 79), (60, 103), (62, 114)], 67) := by decide +kernel
theorem dX2_joined_68 : decode cX2_joined 68 = .ok (.iload_n 1, 1) := by decide +kernel
theorem dX2_joined_69 : decode cX2_joined 69 = .ok (.iload_n 2, 1) := by decide +kernel
theorem dX2_joined_70 : decode cX2_joined 70 = .ok (.iadd, 1) := by decide +kernel
theorem dX2_joined_71 : decode cX2_joined 71 = .ok (.ireturn, 1) := by decide +kernel
theorem dX2_joined_72 : decode cX2_joined 72 = .ok (.iload_n 1, 1) := by decide +kernel
theorem dX2_joined_73 : decode cX2_joined 73 = .ok (.iload_n 2, 1) := by decide +kernel
theorem dX2_joined_74 : decode cX2_joined 74 = .ok (.isub, 1) := by decide +kernel
theorem dX2_joined_75 : decode cX2_joined 75 = .ok (.ireturn, 1) := by decide +kernel
theorem dX2_joined_76 : decode cX2_joined 76 = .ok (.iload_n 1, 1) := by decide +kernel
theorem dX2_joined_77 : decode cX2_joined 77 = .ok (.iload_n 2, 1) := by decide +kernel
theorem dX2_joined_78 : decode cX2_joined 78 = .ok (.imul, 1) := by decide +kernel
theorem dX2_joined_79 : decode cX2_joined 79 = .ok (.ireturn, 1) := by decide +kernel
theorem dX2_joined_80 : decode cX2_joined 80 = .ok (.iload_n 2, 1) := by decide +kernel
theorem dX2_joined_81 : decode cX2_joined 81 = .ok (.ifCond .ne 7, 3) := by decide +kernel
theorem dX2_joined_84 : decode cX2_joined 84 = .ok (.iconst 0, 1) := by decide +kernel
theorem dX2_joined_85 : decode cX2_joined 85 = .ok (.goto 6, 3) := by decide +kernel
theorem dX2_joined_88 : decode cX2_joined 88 = .ok (.iload_n 1, 1) := by decide +kernel
theorem dX2_joined_89 : decode cX2_joined 89 = .ok (.iload_n 2, 1) := by decide +kernel
theorem dX2_joined_90 : decode cX2_joined 90 = .ok (.idiv, 1) := by decide +kernel
theorem dX2_joined_91 : decode cX2_joined 91 = .ok (.ireturn, 1) := by decide +kernel
theorem dX2_joined_92 : decode cX2_joined 92 = .ok (.iload_n 2, 1) := by decide +kernel
theorem dX2_joined_93 : decode cX2_joined 93 = .ok (.ifCond .ne 7, 3) := by decide +kernel
theorem dX2_joined_96 : decode cX2_joined 96 = .ok (.iconst 0, 1) := by decide +kernel
theorem dX2_joined_97 : decode cX2_joined 97 = .ok (.goto 6, 3) := by decide +kernel
theorem dX2_joined_100 : decode cX2_joined 100 = .ok (.iload_n 1, 1) := by decide +kernel
theorem dX2_joined_101 : decode cX2_joined 101 = .ok (.iload_n 2, 1) := by decide +kernel
theorem dX2_joined_102 : decode cX2_joined 102 = .ok (.irem, 1) := by decide +kernel
theorem dX2_joined_103 : decode cX2_joined 103 = .ok (.ireturn, 1) := by decide +kernel
theorem dX2_joined_104 : decode cX2_joined 104 = .ok (.iload_n 1, 1) := by decide +kernel
theorem dX2_joined_105 : decode cX2_joined 105 = .ok (.iload_n 2, 1) := by decide +kernel
theorem dX2_joined_106 : decode cX2_joined 106 = .ok (.if_icmp .ge 7, 3) := by decide +kernel
theorem dX2_joined_109 : decode cX2_joined 109 = .ok (.iconst 1, 1) := by decide +kernel
theorem dX2_joined_110 : decode cX2_joined 110 = .ok (.goto 4, 3) := by decide +kernel
theorem dX2_joined_113 : decode cX2_joined 113 = .ok (.iconst 0, 1) := by decide +kernel
theorem dX2_joined_114 : decode cX2_joined 114 = .ok (.ireturn, 1) := by decide +kernel
theorem dX2_joined_115 : decode cX2_joined 115 = .ok (.iload_n 1, 1) := by decide +kernel
theorem dX2_joined_116 : decode cX2_joined 116 = .ok (.iload_n 2, 1) := by decide +kernel
theorem dX2_joined_117 : decode cX2_joined 117 = .ok (.if_icmp .le 7, 3) := by decide +kernel
theorem dX2_joined_120 : decode cX2_joined 120 = .ok (.iconst 1, 1) := by decide +kernel
theorem dX2_joined_121 : decode cX2_joined 121 = .ok (.goto 4, 3) := by decide +kernel
theorem dX2_joined_124 : decode cX2_joined 124 = .ok (.iconst 0, 1) := by decide +kernel
theorem dX2_joined_125 : decode cX2_joined 125 = .ok (.ireturn, 1) := by decide +kernel
theorem dX2_joined_126 : decode cX2_joined 126 = .ok (.iload_n 1, 1) := by decide +kernel
theorem dX2_joined_127 : decode cX2_joined 127 = .ok (.iload_n 2, 1) := by decide +kernel
theorem dX2_joined_128 : decode cX2_joined 128 = .ok (.if_icmp .ne 7, 3) := by decide +kernel
theorem dX2_joined_131 : decode cX2_joined 131 = .ok (.iconst 1, 1) := by decide +kernel
theorem dX2_joined_132 : decode cX2_joined 132 = .ok (.goto 4, 3) := by decide +kernel
theorem dX2_joined_135 : decode cX2_joined 135 = .ok (.iconst 0, 1) := by decide +kernel
theorem dX2_joined_136 : decode cX2_joined 136 = .ok (.ireturn, 1) := by decide +kernel
theorem dX3_init_0 : decode cX3_init 0 = .ok (.aload_n 0, 1) := by decide +kernel
theorem dX3_init_1 : decode cX3_init 1 = .ok (.invokespecial 3, 3) := by decide +kernel
theorem dX3_init_4 : decode cX3_init 4 = .ok (.aload_n 0, 1) := by decide +kernel
theorem dX3_init_5 : decode cX3_init 5 = .ok (.aload_n 1, 1) := by decide +kernel
theorem dX3_init_6 : decode cX3_init 6 = .ok (.putfield 9, 3) := by decide +kernel
theorem dX3_init_9 : decode cX3_init 9 = .ok (.return_, 1) := by decide +kernel
set_option maxRecDepth 20000 in
theorem ggX3_read_X2_clear : GoodIn wsX3_read wsX2_clear := goodIn_r _ [6, 7, 8, 216, 217, 218, 219, 220, 221, 222, 223, 224, 225] (by decide +kernel) (by decide +kernel)
set_option maxRecDepth 20000 in
theorem gX3_read_X2_clear : GoodIn wsX3_read (wsV RX3 15 RX2 yX2_clear wsX2_clear) := goodIn_app (goodIn_of _ (by decide +kernel)) ggX3_read_X2_clear
set_option maxRecDepth 20000 in
theorem ggX3_read_X1_begins : GoodIn wsX3_read wsX1_begins := goodIn_r _ [13, 14, 15, 16, 17, 18, 12, 19, 20, 21, 22, 23, 24, 25, 26, 27, 28, 29, 30, 31, 32, 33, 34, 35, 36, 37, 38, 39, 40, 41, 42, 43, 44, 45, 46, 47, 48, 49, 50, 51, 52, 53, 226, 227, 228, 229, 230, 231, 232] (by decide +kernel) (by decide +kernel)
set_option maxRecDepth 20000 in
theorem gX3_read_X1_begins : GoodIn wsX3_read (wsV RX3 20 RX1 yX1_begins wsX1_begins) := goodIn_app (goodIn_of _ (by decide +kernel)) ggX3_read_X1_begins
set_option maxRecDepth 20000 in
theorem ggX3_read_X3_readRule : GoodIn wsX3_read wsX3_readRule := goodIn_r _ [58, 1, 59, 60, 61, 62, 63, 64, 65, 66, 67, 68, 69, 70, 71, 72, 73, 74, 75, 76, 77, 78, 79, 80, 81, 82, 83, 84, 85, 86, 87, 88, 89, 90, 91, 92, 93, 94, 95, 44, 96, 97, 43, 45, 98, 99, 100, 101, 102, 103, 104, 105, 106, 107, 108, 109, 110, 111, 112, 113, 114, 115, 116, 117, 118, 119, 120, 121, 122, 123, 124, 125, 126, 127, 128, 129, 130, 131, 132, 133, 134, 135, 136, 137, 138, 139, 140, 141, 142, 143, 144, 145, 146, 147, 148, 149, 150, 151, 152, 31, 32, 12, 33, 14, 34, 35, 36, 37, 20, 153, 39, 40, 41, 15, 42, 46, 29, 47, 48, 49, 50, 51, 52, 53, 154, 155, 156, 57, 157, 158, 159, 160, 161, 26, 27, 28, 162, 163, 164, 5, 165, 8, 166, 167, 168, 169, 170, 171, 172, 173, 22, 23, 24, 25, 30, 38, 174, 175, 176, 177, 178, 179, 180, 181, 182, 183, 184, 185, 186, 187, 188, 189, 190, 191, 192, 193, 194, 195, 196, 197, 198, 199, 200, 201, 202, 203, 204, 205, 206, 207, 208, 209, 210, 17, 18, 19, 211, 212, 213, 214, 215, 226, 227, 228, 229, 230, 216, 217, 218, 219, 220, 221, 222, 223, 224, 225, 231, 232] (by decide +kernel) (by decide +kernel)
set_option maxRecDepth 20000 in
theorem gX3_read_X3_readRule : GoodIn wsX3_read (wsV RX3 26 RX3 yX3_readRule wsX3_readRule) := goodIn_app (goodIn_of _ (by decide +kernel)) ggX3_read_X3_readRule
theorem dX3_read_0 : decode cX3_read 0 = .ok (.aload_n 1, 1) := by decide +kernel
theorem dX3_read_1 : decode cX3_read 1 = .ok (.invokevirtual 15, 3) := by decide +kernel
theorem dX3_read_4 : decode cX3_read 4 = .ok (.iconst 0, 1) := by decide +kernel
theorem dX3_read_5 : decode cX3_read 5 = .ok (.istore_n 2, 1) := by decide +kernel
theorem dX3_read_6 : decode cX3_read 6 = .ok (.iload_n 2, 1) := by decide +kernel
theorem dX3_read_7 : decode cX3_read 7 = .ok (.bipush 16, 2) := by decide +kernel
theorem dX3_read_9 : decode cX3_read 9 = .ok (.if_icmp .gt 26, 3) := by decide +kernel
theorem dX3_read_12 : decode cX3_read 12 = .ok (.aload_n 0, 1) := by decide +kernel
theorem dX3_read_13 : decode cX3_read 13 = .ok (.getfield 9, 3) := by decide +kernel
theorem dX3_read_16 : decode cX3_read 16 = .ok (.iload_n 2, 1) := by decide +kernel
theorem dX3_read_17 : decode cX3_read 17 = .ok (.invokevirtual 20, 3) := by decide +kernel
theorem dX3_read_20 : decode cX3_read 20 = .ok (.ifCond .eq 15, 3) := by decide +kernel
theorem dX3_read_23 : decode cX3_read 23 = .ok (.aload_n 0, 1) := by decide +kernel
theorem dX3_read_24 : decode cX3_read 24 = .ok (.aload_n 1, 1) := by decide +kernel
theorem dX3_read_25 : decode cX3_read 25 = .ok (.iload_n 2, 1) := by decide +kernel
theorem dX3_read_26 : decode cX3_read 26 = .ok (.invokevirtual 26, 3) := by decide +kernel
theorem dX3_read_29 : decode cX3_read 29 = .ok (.iinc 2 1, 3) := by decide +kernel
theorem dX3_read_32 : decode cX3_read 32 = .ok (.goto (-26), 3) := by decide +kernel
theorem dX3_read_35 : decode cX3_read 35 = .ok (.return_, 1) := by decide +kernel
set_option maxRecDepth 20000 in
theorem ggX3_readRule_J0_indexOf_0f7a4 : GoodIn wsX3_readRule wsJ0_indexOf_0f7a4 := goodIn_r _ [13, 14, 15, 16, 12, 17, 18, 19, 20, 21, 22, 23, 24, 25, 26, 27, 28, 29, 30, 31, 32, 33, 34, 35, 36, 37, 38, 39, 40, 41, 42, 43, 44, 45, 46, 47, 48, 49, 50, 51, 52, 53, 54, 55, 56, 57, 58, 59, 60, 61, 62, 63, 64, 65, 66, 67, 68, 69, 70, 71, 72, 73, 74, 75, 76, 77, 78, 79, 80, 81, 82, 83, 84, 85, 86, 87, 88, 89, 90, 91, 92, 93, 94, 95, 96, 97] (by decide +kernel) (by decide +kernel)
set_option maxRecDepth 20000 in
theorem gX3_readRule_J0_indexOf_0f7a4 : GoodIn wsX3_readRule (wsV RX3 36 RJ0 yJ0_indexOf_0f7a4 wsJ0_indexOf_0f7a4) := goodIn_app (goodIn_of _ (by decide +kernel)) ggX3_readRule_J0_indexOf_0f7a4
set_option maxRecDepth 20000 in
theorem ggX3_readRule_X1_failHere : GoodIn wsX3_readRule wsX1_failHere := goodIn_r _ [102, 103, 104, 105, 106, 101, 107, 108, 201, 202, 203, 204, 205] (by decide +kernel) (by decide +kernel)
set_option maxRecDepth 20000 in
theorem gX3_readRule_X1_failHere : GoodIn wsX3_readRule (wsV RX3 42 RX1 yX1_failHere wsX1_failHere) := goodIn_app (goodIn_of _ (by decide +kernel)) ggX3_readRule_X1_failHere
set_option maxRecDepth 20000 in
theorem ggX3_readRule_X1_next : GoodIn wsX3_readRule wsX1_next := goodIn_r _ [112, 103, 113, 114, 42, 39, 43, 115, 116, 117, 118, 119, 120, 121, 122, 123, 201, 202, 203, 204, 205, 216, 217] (by decide +kernel) (by decide +kernel)
set_option maxRecDepth 20000 in
theorem gX3_readRule_X1_next : GoodIn wsX3_readRule (wsV RX3 46 RX1 yX1_next wsX1_next) := goodIn_app (goodIn_of _ (by decide +kernel)) ggX3_readRule_X1_next
set_option maxRecDepth 20000 in
theorem ggX3_readRule_X3_readSum : GoodIn wsX3_readRule wsX3_readSum := goodIn_r _ [128, 1, 2, 129, 130, 131, 127, 132, 133, 134, 101, 135, 108, 116, 109, 110, 111, 112, 103, 113, 114, 42, 39, 43, 115, 117, 118, 119, 120, 121, 122, 123, 136, 137, 138, 139, 140, 141, 142, 143, 144, 9, 10, 11, 12, 13, 14, 15, 16, 17, 18, 19, 20, 21, 22, 23, 24, 25, 26, 27, 28, 29, 30, 31, 32, 33, 34, 35, 36, 37, 38, 40, 41, 44, 45, 46, 47, 48, 49, 50, 51, 52, 53, 54, 55, 56, 57, 58, 59, 60, 61, 62, 63, 64, 65, 66, 67, 68, 69, 70, 71, 72, 73, 74, 75, 76, 77, 78, 79, 80, 81, 82, 83, 84, 85, 86, 87, 88, 89, 90, 91, 92, 93, 94, 95, 96, 97, 145, 146, 147, 148, 98, 99, 100, 102, 104, 105, 106, 107, 124, 125, 126, 149, 150, 151, 152, 153, 154, 155, 156, 157, 158, 159, 160, 161, 162, 163, 164, 165, 166, 167, 168, 169, 170, 171, 172, 173, 174, 175, 200, 201, 202, 203, 204, 205, 216, 217, 206, 207, 208, 209, 210, 211, 212, 213, 214, 215] (by decide +kernel) (by decide +kernel)
set_option maxRecDepth 20000 in
theorem gX3_readRule_X3_readSum : GoodIn wsX3_readRule (wsV RX3 59 RX3 yX3_readSum wsX3_readSum) := goodIn_app (goodIn_of _ (by decide +kernel)) ggX3_readRule_X3_readSum
set_option maxRecDepth 20000 in
theorem ggX3_readRule_X1_take : GoodIn wsX3_readRule wsX1_take := goodIn_r _ [152, 153, 133, 134, 101, 135, 108, 116, 154, 99, 100, 102, 103, 104, 105, 106, 107, 155, 110, 111, 112, 113, 114, 42, 39, 43, 115, 117, 118, 119, 120, 121, 122, 123, 201, 202, 203, 204, 205, 216, 217] (by decide +kernel) (by decide +kernel)
set_option maxRecDepth 20000 in
theorem gX3_readRule_X1_take : GoodIn wsX3_readRule (wsV RX3 65 RX1 yX1_take wsX1_take) := goodIn_app (goodIn_of _ (by decide +kernel)) ggX3_readRule_X1_take
set_option maxRecDepth 20000 in
theorem ggX3_readRule_X3_readCondition : GoodIn wsX3_readRule wsX3_readCondition := goodIn_r _ [179, 1, 180, 181, 182, 127, 132, 133, 134, 101, 135, 108, 116, 136, 137, 138, 139, 140, 141, 142, 143, 109, 110, 111, 112, 103, 113, 114, 42, 39, 43, 115, 117, 118, 119, 120, 121, 122, 123, 183, 184, 185, 186, 160, 161, 162, 187, 188, 189, 190, 191, 2, 145, 146, 147, 148, 98, 99, 100, 102, 104, 105, 106, 107, 176, 177, 178, 149, 150, 151, 152, 153, 154, 155, 124, 125, 126, 128, 129, 130, 131, 144, 9, 10, 11, 12, 13, 14, 15, 16, 17, 18, 19, 20, 21, 22, 23, 24, 25, 26, 27, 28, 29, 30, 31, 32, 33, 34, 35, 36, 37, 38, 40, 41, 44, 45, 46, 47, 48, 49, 50, 51, 52, 53, 54, 55, 56, 57, 58, 59, 60, 61, 62, 63, 64, 65, 66, 67, 68, 69, 70, 71, 72, 73, 74, 75, 76, 77, 78, 79, 80, 81, 82, 83, 84, 85, 86, 87, 88, 89, 90, 91, 92, 93, 94, 95, 96, 97, 156, 157, 158, 159, 163, 164, 165, 166, 167, 168, 169, 170, 171, 172, 173, 174, 175, 192, 193, 194, 195, 196, 197, 198, 199, 200, 201, 202, 203, 204, 205, 206, 207, 208, 209, 210, 211, 212, 213, 214, 215, 216, 217] (by decide +kernel) (by decide +kernel)
set_option maxRecDepth 20000 in
theorem gX3_readRule_X3_readCondition : GoodIn wsX3_readRule (wsV RX3 68 RX3 yX3_readCondition wsX3_readCondition) := goodIn_app (goodIn_of _ (by decide +kernel)) ggX3_readRule_X3_readCondition
theorem dX3_readRule_0 : decode cX3_readRule 0 = .ok (.aload_n 0, 1) := by decide +kernel
theorem dX3_readRule_1 : decode cX3_readRule 1 = .ok (.getfield 9, 3) := by decide +kernel
theorem dX3_readRule_4 : decode cX3_readRule 4 = .ok (.getfield 30, 3) := by decide +kernel
theorem dX3_readRule_7 : decode cX3_readRule 7 = .ok (.istore_n 3, 1) := by decide +kernel
theorem dX3_readRule_8 : decode cX3_readRule 8 = .ok (.iload_n 3, 1) := by decide +kernel
theorem dX3_readRule_9 : decode cX3_readRule 9 = .ok (.iconst (-1), 1) := by decide +kernel
theorem dX3_readRule_10 : decode cX3_readRule 10 = .ok (.if_icmp .eq 13, 3) := by decide +kernel
theorem dX3_readRule_13 : decode cX3_readRule 13 = .ok (.ldc 34, 2) := by decide +kernel
theorem dX3_readRule_15 : decode cX3_readRule 15 = .ok (.iload_n 3, 1) := by decide +kernel
theorem dX3_readRule_16 : decode cX3_readRule 16 = .ok (.i2c, 1) := by decide +kernel
theorem dX3_readRule_17 : decode cX3_readRule 17 = .ok (.invokevirtual 36, 3) := by decide +kernel
theorem dX3_readRule_20 : decode cX3_readRule 20 = .ok (.ifCond .ge 14, 3) := by decide +kernel
theorem dX3_readRule_23 : decode cX3_readRule 23 = .ok (.aload_n 0, 1) := by decide +kernel
theorem dX3_readRule_24 : decode cX3_readRule 24 = .ok (.getfield 9, 3) := by decide +kernel
theorem dX3_readRule_27 : decode cX3_readRule 27 = .ok (.iconst 1, 1) := by decide +kernel
theorem dX3_readRule_28 : decode cX3_readRule 28 = .ok (.invokevirtual 42, 3) := by decide +kernel
theorem dX3_readRule_31 : decode cX3_readRule 31 = .ok (.goto 117, 3) := by decide +kernel
theorem dX3_readRule_34 : decode cX3_readRule 34 = .ok (.iload_n 2, 1) := by decide +kernel
theorem dX3_readRule_35 : decode cX3_readRule 35 = .ok (.bipush 16, 2) := by decide +kernel
theorem dX3_readRule_37 : decode cX3_readRule 37 = .ok (.if_icmp .lt 14, 3) := by decide +kernel
theorem dX3_readRule_40 : decode cX3_readRule 40 = .ok (.aload_n 0, 1) := by decide +kernel
theorem dX3_readRule_41 : decode cX3_readRule 41 = .ok (.getfield 9, 3) := by decide +kernel
theorem dX3_readRule_44 : decode cX3_readRule 44 = .ok (.iconst 4, 1) := by decide +kernel
theorem dX3_readRule_45 : decode cX3_readRule 45 = .ok (.invokevirtual 42, 3) := by decide +kernel
theorem dX3_readRule_48 : decode cX3_readRule 48 = .ok (.goto 100, 3) := by decide +kernel
theorem dX3_readRule_51 : decode cX3_readRule 51 = .ok (.aload_n 0, 1) := by decide +kernel
theorem dX3_readRule_52 : decode cX3_readRule 52 = .ok (.getfield 9, 3) := by decide +kernel
theorem dX3_readRule_55 : decode cX3_readRule 55 = .ok (.invokevirtual 46, 3) := by decide +kernel
theorem dX3_readRule_58 : decode cX3_readRule 58 = .ok (.aload_n 1, 1) := by decide +kernel
theorem dX3_readRule_59 : decode cX3_readRule 59 = .ok (.getfield 49, 3) := by decide +kernel
theorem dX3_readRule_62 : decode cX3_readRule 62 = .ok (.iload_n 2, 1) := by decide +kernel
theorem dX3_readRule_63 : decode cX3_readRule 63 = .ok (.iload_n 3, 1) := by decide +kernel
theorem dX3_readRule_64 : decode cX3_readRule 64 = .ok (.iastore, 1) := by decide +kernel
theorem dX3_readRule_65 : decode cX3_readRule 65 = .ok (.aload_n 1, 1) := by decide +kernel
theorem dX3_readRule_66 : decode cX3_readRule 66 = .ok (.getfield 53, 3) := by decide +kernel
theorem dX3_readRule_69 : decode cX3_readRule 69 = .ok (.iload_n 2, 1) := by decide +kernel
theorem dX3_readRule_70 : decode cX3_readRule 70 = .ok (.aload_n 1, 1) := by decide +kernel
theorem dX3_readRule_71 : decode cX3_readRule 71 = .ok (.getfield 56, 3) := by decide +kernel
theorem dX3_readRule_74 : decode cX3_readRule 74 = .ok (.iastore, 1) := by decide +kernel
theorem dX3_readRule_75 : decode cX3_readRule 75 = .ok (.iload_n 3, 1) := by decide +kernel
theorem dX3_readRule_76 : decode cX3_readRule 76 = .ok (.bipush 103, 2) := by decide +kernel
theorem dX3_readRule_78 : decode cX3_readRule 78 = .ok (.if_icmp .eq 15, 3) := by decide +kernel
theorem dX3_readRule_81 : decode cX3_readRule 81 = .ok (.iload_n 3, 1) := by decide +kernel
theorem dX3_readRule_82 : decode cX3_readRule 82 = .ok (.bipush 114, 2) := by decide +kernel
theorem dX3_readRule_84 : decode cX3_readRule 84 = .ok (.if_icmp .eq 9, 3) := by decide +kernel
theorem dX3_readRule_87 : decode cX3_readRule 87 = .ok (.aload_n 0, 1) := by decide +kernel
theorem dX3_readRule_88 : decode cX3_readRule 88 = .ok (.aload_n 1, 1) := by decide +kernel
theorem dX3_readRule_89 : decode cX3_readRule 89 = .ok (.iconst 0, 1) := by decide +kernel
theorem dX3_readRule_90 : decode cX3_readRule 90 = .ok (.invokevirtual 59, 3) := by decide +kernel
theorem dX3_readRule_93 : decode cX3_readRule 93 = .ok (.aload_n 1, 1) := by decide +kernel
theorem dX3_readRule_94 : decode cX3_readRule 94 = .ok (.getfield 62, 3) := by decide +kernel
theorem dX3_readRule_97 : decode cX3_readRule 97 = .ok (.iload_n 2, 1) := by decide +kernel
theorem dX3_readRule_98 : decode cX3_readRule 98 = .ok (.aload_n 1, 1) := by decide +kernel
theorem dX3_readRule_99 : decode cX3_readRule 99 = .ok (.getfield 56, 3) := by decide +kernel
theorem dX3_readRule_102 : decode cX3_readRule 102 = .ok (.iastore, 1) := by decide +kernel
theorem dX3_readRule_103 : decode cX3_readRule 103 = .ok (.aload_n 0, 1) := by decide +kernel
theorem dX3_readRule_104 : decode cX3_readRule 104 = .ok (.getfield 9, 3) := by decide +kernel
theorem dX3_readRule_107 : decode cX3_readRule 107 = .ok (.bipush 40, 2) := by decide +kernel
theorem dX3_readRule_109 : decode cX3_readRule 109 = .ok (.invokevirtual 65, 3) := by decide +kernel
theorem dX3_readRule_112 : decode cX3_readRule 112 = .ok (.ifCond .eq 19, 3) := by decide +kernel
theorem dX3_readRule_115 : decode cX3_readRule 115 = .ok (.aload_n 0, 1) := by decide +kernel
theorem dX3_readRule_116 : decode cX3_readRule 116 = .ok (.aload_n 1, 1) := by decide +kernel
theorem dX3_readRule_117 : decode cX3_readRule 117 = .ok (.iconst 1, 1) := by decide +kernel
theorem dX3_readRule_118 : decode cX3_readRule 118 = .ok (.invokevirtual 68, 3) := by decide +kernel
theorem dX3_readRule_121 : decode cX3_readRule 121 = .ok (.aload_n 0, 1) := by decide +kernel
theorem dX3_readRule_122 : decode cX3_readRule 122 = .ok (.getfield 9, 3) := by decide +kernel
theorem dX3_readRule_125 : decode cX3_readRule 125 = .ok (.bipush 41, 2) := by decide +kernel
theorem dX3_readRule_127 : decode cX3_readRule 127 = .ok (.invokevirtual 65, 3) := by decide +kernel
theorem dX3_readRule_130 : decode cX3_readRule 130 = .ok (.pop, 1) := by decide +kernel
theorem dX3_readRule_131 : decode cX3_readRule 131 = .ok (.aload_n 1, 1) := by decide +kernel
theorem dX3_readRule_132 : decode cX3_readRule 132 = .ok (.getfield 71, 3) := by decide +kernel
theorem dX3_readRule_135 : decode cX3_readRule 135 = .ok (.iload_n 2, 1) := by decide +kernel
theorem dX3_readRule_136 : decode cX3_readRule 136 = .ok (.aload_n 1, 1) := by decide +kernel
theorem dX3_readRule_137 : decode cX3_readRule 137 = .ok (.getfield 56, 3) := by decide +kernel
theorem dX3_readRule_140 : decode cX3_readRule 140 = .ok (.iastore, 1) := by decide +kernel
theorem dX3_readRule_141 : decode cX3_readRule 141 = .ok (.aload_n 1, 1) := by decide +kernel
theorem dX3_readRule_142 : decode cX3_readRule 142 = .ok (.iload_n 2, 1) := by decide +kernel
theorem dX3_readRule_143 : decode cX3_readRule 143 = .ok (.iconst 1, 1) := by decide +kernel
theorem dX3_readRule_144 : decode cX3_readRule 144 = .ok (.iadd, 1) := by decide +kernel
theorem dX3_readRule_145 : decode cX3_readRule 145 = .ok (.putfield 74, 3) := by decide +kernel
theorem dX3_readRule_148 : decode cX3_readRule 148 = .ok (.return_, 1) := by decide +kernel
set_option maxRecDepth 20000 in
theorem ggX3_opens_X1_failHere : GoodIn wsX3_opens wsX1_failHere := goodIn_r _ [6, 7, 8, 9, 10, 5, 11, 12, 32, 33, 34, 35, 36] (by decide +kernel) (by decide +kernel)
set_option maxRecDepth 20000 in
theorem gX3_opens_X1_failHere : GoodIn wsX3_opens (wsV RX3 42 RX1 yX1_failHere wsX1_failHere) := goodIn_app (goodIn_of _ (by decide +kernel)) ggX3_opens_X1_failHere
set_option maxRecDepth 20000 in
theorem ggX3_opens_X1_next : GoodIn wsX3_opens wsX1_next := goodIn_r _ [16, 7, 17, 18, 19, 20, 21, 22, 23, 24, 25, 26, 27, 28, 29, 30, 32, 33, 34, 35, 36, 37, 38] (by decide +kernel) (by decide +kernel)
set_option maxRecDepth 20000 in
theorem gX3_opens_X1_next : GoodIn wsX3_opens (wsV RX3 46 RX1 yX1_next wsX1_next) := goodIn_app (goodIn_of _ (by decide +kernel)) ggX3_opens_X1_next
theorem dX3_opens_0 : decode cX3_opens 0 = .ok (.iload_n 1, 1) := by decide +kernel
theorem dX3_opens_1 : decode cX3_opens 1 = .ok (.bipush 6, 2) := by decide +kernel
theorem dX3_opens_3 : decode cX3_opens 3 = .ok (.if_icmp .lt 13, 3) := by decide +kernel
theorem dX3_opens_6 : decode cX3_opens 6 = .ok (.aload_n 0, 1) := by decide +kernel
theorem dX3_opens_7 : decode cX3_opens 7 = .ok (.getfield 9, 3) := by decide +kernel
theorem dX3_opens_10 : decode cX3_opens 10 = .ok (.iconst 5, 1) := by decide +kernel
theorem dX3_opens_11 : decode cX3_opens 11 = .ok (.invokevirtual 42, 3) := by decide +kernel
theorem dX3_opens_14 : decode cX3_opens 14 = .ok (.iconst 0, 1) := by decide +kernel
theorem dX3_opens_15 : decode cX3_opens 15 = .ok (.ireturn, 1) := by decide +kernel
theorem dX3_opens_16 : decode cX3_opens 16 = .ok (.aload_n 0, 1) := by decide +kernel
theorem dX3_opens_17 : decode cX3_opens 17 = .ok (.getfield 9, 3) := by decide +kernel
theorem dX3_opens_20 : decode cX3_opens 20 = .ok (.invokevirtual 46, 3) := by decide +kernel
theorem dX3_opens_23 : decode cX3_opens 23 = .ok (.iconst 1, 1) := by decide +kernel
theorem dX3_opens_24 : decode cX3_opens 24 = .ok (.ireturn, 1) := by decide +kernel
set_option maxRecDepth 20000 in
theorem ggX3_readCondition_X3_readPart : GoodIn wsX3_readCondition wsX3_readPart := goodIn_r _ [46, 1, 47, 48, 49, 5, 6, 7, 8, 9, 10, 11, 12, 13, 14, 15, 16, 17, 18, 19, 20, 21, 22, 23, 24, 25, 26, 27, 28, 29, 30, 31, 32, 33, 34, 35, 36, 37, 38, 39, 40, 41, 42, 43, 44, 45, 0, 2, 3, 4, 50, 51, 52, 53, 54, 55, 56, 57, 58, 59, 60, 61, 62, 63, 64, 65, 66, 67, 68, 69, 70, 71, 72, 73, 74, 75, 76, 77, 78, 79, 80, 81, 82, 83, 84, 85, 86, 87, 88, 89, 90, 91, 92, 93, 94, 95, 96, 97, 98, 99, 100, 101, 102, 103, 104, 105, 106, 107, 108, 109, 110, 111, 112, 113, 114, 115, 116, 117, 118, 119, 120, 121, 122, 123, 124, 125, 126, 127, 128, 129, 130, 131, 132, 133, 134, 135, 136, 137, 138, 139, 140, 141, 142, 143, 144, 145, 146, 147, 148, 149, 150, 151, 152, 153, 154, 155, 156, 157, 158, 159, 160, 161, 162, 163, 164, 165, 166, 167, 168, 169, 170, 171, 172, 173, 174, 175, 176, 177, 178, 179, 180, 181, 182, 183, 184, 185, 186, 187, 188, 189, 190, 191, 192, 193, 194, 195, 196, 197, 198, 199, 200, 201, 202, 203, 204, 205, 206, 207, 208, 209, 210] (by decide +kernel) (by decide +kernel)
set_option maxRecDepth 20000 in
theorem gX3_readCondition_X3_readPart : GoodIn wsX3_readCondition (wsV RX3 77 RX3 yX3_readPart wsX3_readPart) := goodIn_app (goodIn_of _ (by decide +kernel)) ggX3_readCondition_X3_readPart
set_option maxRecDepth 20000 in
theorem ggX3_readCondition_X1_sees : GoodIn wsX3_readCondition wsX1_sees := goodIn_r _ [10, 11, 12, 194, 195, 196, 197, 198] (by decide +kernel) (by decide +kernel)
set_option maxRecDepth 20000 in
theorem gX3_readCondition_X1_sees : GoodIn wsX3_readCondition (wsV RX3 80 RX1 yX1_sees wsX1_sees) := goodIn_app (goodIn_of _ (by decide +kernel)) ggX3_readCondition_X1_sees
set_option maxRecDepth 20000 in
theorem ggX3_readCondition_X2_put : GoodIn wsX3_readCondition wsX2_put := goodIn_r _ [17, 18, 19, 20, 199, 200, 201, 202, 203, 204, 205, 206, 207, 208] (by decide +kernel) (by decide +kernel)
set_option maxRecDepth 20000 in
theorem gX3_readCondition_X2_put : GoodIn wsX3_readCondition (wsV RX3 83 RX2 yX2_put wsX2_put) := goodIn_app (goodIn_of _ (by decide +kernel)) ggX3_readCondition_X2_put
set_option maxRecDepth 20000 in
theorem ggX3_readCondition_X1_next : GoodIn wsX3_readCondition wsX1_next := goodIn_r _ [24, 25, 26, 27, 28, 29, 30, 31, 12, 32, 33, 34, 35, 36, 37, 38, 194, 195, 196, 197, 198, 209, 210] (by decide +kernel) (by decide +kernel)
set_option maxRecDepth 20000 in
theorem gX3_readCondition_X1_next : GoodIn wsX3_readCondition (wsV RX3 46 RX1 yX1_next wsX1_next) := goodIn_app (goodIn_of _ (by decide +kernel)) ggX3_readCondition_X1_next
set_option maxRecDepth 20000 in
theorem ggX3_readCondition_X2_leadHere : GoodIn wsX3_readCondition wsX2_leadHere := goodIn_r _ [42, 18, 20, 43, 44, 45, 199, 200, 201, 202, 203, 204, 205, 206, 207, 208] (by decide +kernel) (by decide +kernel)
set_option maxRecDepth 20000 in
theorem gX3_readCondition_X2_leadHere : GoodIn wsX3_readCondition (wsV RX3 87 RX2 yX2_leadHere wsX2_leadHere) := goodIn_app (goodIn_of _ (by decide +kernel)) ggX3_readCondition_X2_leadHere
theorem dX3_readCondition_0 : decode cX3_readCondition 0 = .ok (.aload_n 0, 1) := by decide +kernel
theorem dX3_readCondition_1 : decode cX3_readCondition 1 = .ok (.aload_n 1, 1) := by decide +kernel
theorem dX3_readCondition_2 : decode cX3_readCondition 2 = .ok (.iload_n 2, 1) := by decide +kernel
theorem dX3_readCondition_3 : decode cX3_readCondition 3 = .ok (.invokevirtual 77, 3) := by decide +kernel
theorem dX3_readCondition_6 : decode cX3_readCondition 6 = .ok (.iconst 1, 1) := by decide +kernel
theorem dX3_readCondition_7 : decode cX3_readCondition 7 = .ok (.istore_n 3, 1) := by decide +kernel
theorem dX3_readCondition_8 : decode cX3_readCondition 8 = .ok (.iload_n 3, 1) := by decide +kernel
theorem dX3_readCondition_9 : decode cX3_readCondition 9 = .ok (.sipush 240, 3) := by decide +kernel
theorem dX3_readCondition_12 : decode cX3_readCondition 12 = .ok (.if_icmp .ge 49, 3) := by decide +kernel
theorem dX3_readCondition_15 : decode cX3_readCondition 15 = .ok (.aload_n 0, 1) := by decide +kernel
theorem dX3_readCondition_16 : decode cX3_readCondition 16 = .ok (.getfield 9, 3) := by decide +kernel
theorem dX3_readCondition_19 : decode cX3_readCondition 19 = .ok (.bipush 124, 2) := by decide +kernel
theorem dX3_readCondition_21 : decode cX3_readCondition 21 = .ok (.invokevirtual 80, 3) := by decide +kernel
theorem dX3_readCondition_24 : decode cX3_readCondition 24 = .ok (.ifCond .eq 37, 3) := by decide +kernel
theorem dX3_readCondition_27 : decode cX3_readCondition 27 = .ok (.aload_n 1, 1) := by decide +kernel
theorem dX3_readCondition_28 : decode cX3_readCondition 28 = .ok (.bipush 124, 2) := by decide +kernel
theorem dX3_readCondition_30 : decode cX3_readCondition 30 = .ok (.iconst 0, 1) := by decide +kernel
theorem dX3_readCondition_31 : decode cX3_readCondition 31 = .ok (.invokevirtual 83, 3) := by decide +kernel
theorem dX3_readCondition_34 : decode cX3_readCondition 34 = .ok (.istore 4, 2) := by decide +kernel
theorem dX3_readCondition_36 : decode cX3_readCondition 36 = .ok (.aload_n 0, 1) := by decide +kernel
theorem dX3_readCondition_37 : decode cX3_readCondition 37 = .ok (.getfield 9, 3) := by decide +kernel
theorem dX3_readCondition_40 : decode cX3_readCondition 40 = .ok (.invokevirtual 46, 3) := by decide +kernel
theorem dX3_readCondition_43 : decode cX3_readCondition 43 = .ok (.aload_n 0, 1) := by decide +kernel
theorem dX3_readCondition_44 : decode cX3_readCondition 44 = .ok (.aload_n 1, 1) := by decide +kernel
theorem dX3_readCondition_45 : decode cX3_readCondition 45 = .ok (.iload_n 2, 1) := by decide +kernel
theorem dX3_readCondition_46 : decode cX3_readCondition 46 = .ok (.invokevirtual 77, 3) := by decide +kernel
theorem dX3_readCondition_49 : decode cX3_readCondition 49 = .ok (.aload_n 1, 1) := by decide +kernel
theorem dX3_readCondition_50 : decode cX3_readCondition 50 = .ok (.iload 4, 2) := by decide +kernel
theorem dX3_readCondition_52 : decode cX3_readCondition 52 = .ok (.invokevirtual 87, 3) := by decide +kernel
theorem dX3_readCondition_55 : decode cX3_readCondition 55 = .ok (.iinc 3 1, 3) := by decide +kernel
theorem dX3_readCondition_58 : decode cX3_readCondition 58 = .ok (.goto (-50), 3) := by decide +kernel
theorem dX3_readCondition_61 : decode cX3_readCondition 61 = .ok (.return_, 1) := by decide +kernel
set_option maxRecDepth 20000 in
theorem ggX3_readPart_X3_readTest : GoodIn wsX3_readPart wsX3_readTest := goodIn_r _ [50, 1, 51, 6, 7, 8, 9, 10, 11, 12, 52, 53, 54, 5, 55, 56, 57, 58, 59, 25, 60, 61, 62, 63, 21, 22, 23, 24, 26, 27, 28, 29, 30, 31, 32, 33, 34, 35, 36, 37, 38, 2, 3, 4, 13, 14, 15, 16, 17, 18, 19, 20, 64, 65, 66, 67, 68, 69, 70, 71, 72, 73, 74, 75, 76, 77, 78, 79, 80, 81, 82, 83, 84, 85, 86, 87, 88, 89, 90, 91, 92, 93, 94, 95, 96, 97, 98, 99, 100, 101, 102, 103, 104, 105, 106, 107, 108, 109, 110, 111, 112, 113, 114, 115, 116, 117, 118, 119, 120, 121, 122, 123, 124, 125, 126, 127, 128, 129, 130, 131, 132, 133, 134, 135, 136, 137, 138, 139, 140, 141, 142, 143, 144, 145, 146, 147, 148, 149, 150, 151, 152, 153, 154, 155, 156, 157, 158, 159, 160, 161, 162, 163, 164, 165, 166, 167, 168, 169, 170, 171, 43, 44, 45, 172, 173, 174, 175, 176, 177, 178, 179, 180, 181, 182, 183, 184, 185, 186, 187, 188, 189, 190, 191, 192, 46, 47, 48, 49, 39, 40, 41, 42, 0, 193, 194, 195, 196, 197, 198, 199, 200, 201, 202, 203, 204, 205, 206, 207, 208, 209, 210] (by decide +kernel) (by decide +kernel)
set_option maxRecDepth 20000 in
theorem gX3_readPart_X3_readTest : GoodIn wsX3_readPart (wsV RX3 90 RX3 yX3_readTest wsX3_readTest) := goodIn_app (goodIn_of _ (by decide +kernel)) ggX3_readPart_X3_readTest
set_option maxRecDepth 20000 in
theorem ggX3_readPart_X1_sees : GoodIn wsX3_readPart wsX1_sees := goodIn_r _ [10, 11, 12, 194, 195, 196, 197, 198] (by decide +kernel) (by decide +kernel)
set_option maxRecDepth 20000 in
theorem gX3_readPart_X1_sees : GoodIn wsX3_readPart (wsV RX3 80 RX1 yX1_sees wsX1_sees) := goodIn_app (goodIn_of _ (by decide +kernel)) ggX3_readPart_X1_sees
set_option maxRecDepth 20000 in
theorem ggX3_readPart_X2_put : GoodIn wsX3_readPart wsX2_put := goodIn_r _ [17, 18, 19, 20, 199, 200, 201, 202, 203, 204, 205, 206, 207, 208] (by decide +kernel) (by decide +kernel)
set_option maxRecDepth 20000 in
theorem gX3_readPart_X2_put : GoodIn wsX3_readPart (wsV RX3 83 RX2 yX2_put wsX2_put) := goodIn_app (goodIn_of _ (by decide +kernel)) ggX3_readPart_X2_put
set_option maxRecDepth 20000 in
theorem ggX3_readPart_X1_next : GoodIn wsX3_readPart wsX1_next := goodIn_r _ [24, 25, 26, 27, 28, 29, 30, 31, 12, 32, 33, 34, 35, 36, 37, 38, 194, 195, 196, 197, 198, 209, 210] (by decide +kernel) (by decide +kernel)
set_option maxRecDepth 20000 in
theorem gX3_readPart_X1_next : GoodIn wsX3_readPart (wsV RX3 46 RX1 yX1_next wsX1_next) := goodIn_app (goodIn_of _ (by decide +kernel)) ggX3_readPart_X1_next
set_option maxRecDepth 20000 in
theorem ggX3_readPart_X2_leadHere : GoodIn wsX3_readPart wsX2_leadHere := goodIn_r _ [42, 18, 20, 43, 44, 45, 199, 200, 201, 202, 203, 204, 205, 206, 207, 208] (by decide +kernel) (by decide +kernel)
set_option maxRecDepth 20000 in
theorem gX3_readPart_X2_leadHere : GoodIn wsX3_readPart (wsV RX3 87 RX2 yX2_leadHere wsX2_leadHere) := goodIn_app (goodIn_of _ (by decide +kernel)) ggX3_readPart_X2_leadHere
theorem dX3_readPart_0 : decode cX3_readPart 0 = .ok (.aload_n 0, 1) := by decide +kernel
theorem dX3_readPart_1 : decode cX3_readPart 1 = .ok (.aload_n 1, 1) := by decide +kernel
theorem dX3_readPart_2 : decode cX3_readPart 2 = .ok (.iload_n 2, 1) := by decide +kernel
theorem dX3_readPart_3 : decode cX3_readPart 3 = .ok (.invokevirtual 90, 3) := by decide +kernel
theorem dX3_readPart_6 : decode cX3_readPart 6 = .ok (.iconst 1, 1) := by decide +kernel
theorem dX3_readPart_7 : decode cX3_readPart 7 = .ok (.istore_n 3, 1) := by decide +kernel
theorem dX3_readPart_8 : decode cX3_readPart 8 = .ok (.iload_n 3, 1) := by decide +kernel
theorem dX3_readPart_9 : decode cX3_readPart 9 = .ok (.sipush 240, 3) := by decide +kernel
theorem dX3_readPart_12 : decode cX3_readPart 12 = .ok (.if_icmp .ge 49, 3) := by decide +kernel
theorem dX3_readPart_15 : decode cX3_readPart 15 = .ok (.aload_n 0, 1) := by decide +kernel
theorem dX3_readPart_16 : decode cX3_readPart 16 = .ok (.getfield 9, 3) := by decide +kernel
theorem dX3_readPart_19 : decode cX3_readPart 19 = .ok (.bipush 38, 2) := by decide +kernel
theorem dX3_readPart_21 : decode cX3_readPart 21 = .ok (.invokevirtual 80, 3) := by decide +kernel
theorem dX3_readPart_24 : decode cX3_readPart 24 = .ok (.ifCond .eq 37, 3) := by decide +kernel
theorem dX3_readPart_27 : decode cX3_readPart 27 = .ok (.aload_n 1, 1) := by decide +kernel
theorem dX3_readPart_28 : decode cX3_readPart 28 = .ok (.bipush 38, 2) := by decide +kernel
theorem dX3_readPart_30 : decode cX3_readPart 30 = .ok (.iconst 0, 1) := by decide +kernel
theorem dX3_readPart_31 : decode cX3_readPart 31 = .ok (.invokevirtual 83, 3) := by decide +kernel
theorem dX3_readPart_34 : decode cX3_readPart 34 = .ok (.istore 4, 2) := by decide +kernel
theorem dX3_readPart_36 : decode cX3_readPart 36 = .ok (.aload_n 0, 1) := by decide +kernel
theorem dX3_readPart_37 : decode cX3_readPart 37 = .ok (.getfield 9, 3) := by decide +kernel
theorem dX3_readPart_40 : decode cX3_readPart 40 = .ok (.invokevirtual 46, 3) := by decide +kernel
theorem dX3_readPart_43 : decode cX3_readPart 43 = .ok (.aload_n 0, 1) := by decide +kernel
theorem dX3_readPart_44 : decode cX3_readPart 44 = .ok (.aload_n 1, 1) := by decide +kernel
