set_option maxRecDepth 20000 in
theorem ggX12_fits_X12_has : GoodIn wsX12_fits wsX12_has := goodIn_r _ [11] (by decide +kernel) (by decide +kernel)
set_option maxRecDepth 20000 in
theorem gX12_fits_X12_has : GoodIn wsX12_fits (va_wsS RX12 308 yX12_has wsX12_has) := goodIn_app (goodIn_of _ (by decide +kernel)) ggX12_fits_X12_has
theorem dX12_fits_0 : decode cX12_fits 0 = .ok (.iconst 0, 1) := by decide +kernel
theorem dX12_fits_1 : decode cX12_fits 1 = .ok (.istore_n 3, 1) := by decide +kernel
theorem dX12_fits_2 : decode cX12_fits 2 = .ok (.iload_n 3, 1) := by decide +kernel
theorem dX12_fits_3 : decode cX12_fits 3 = .ok (.aload_n 0, 1) := by decide +kernel
theorem dX12_fits_4 : decode cX12_fits 4 = .ok (.getfield 274, 3) := by decide +kernel
theorem dX12_fits_7 : decode cX12_fits 7 = .ok (.if_icmp .ge 138, 3) := by decide +kernel
theorem dX12_fits_10 : decode cX12_fits 10 = .ok (.aload_n 0, 1) := by decide +kernel
theorem dX12_fits_11 : decode cX12_fits 11 = .ok (.getfield 62, 3) := by decide +kernel
theorem dX12_fits_14 : decode cX12_fits 14 = .ok (.iload_n 3, 1) := by decide +kernel
theorem dX12_fits_15 : decode cX12_fits 15 = .ok (.iaload, 1) := by decide +kernel
theorem dX12_fits_16 : decode cX12_fits 16 = .ok (.invokestatic 237, 3) := by decide +kernel
theorem dX12_fits_19 : decode cX12_fits 19 = .ok (.aload_n 0, 1) := by decide +kernel
theorem dX12_fits_20 : decode cX12_fits 20 = .ok (.getfield 65, 3) := by decide +kernel
theorem dX12_fits_23 : decode cX12_fits 23 = .ok (.iload_n 3, 1) := by decide +kernel
theorem dX12_fits_24 : decode cX12_fits 24 = .ok (.iaload, 1) := by decide +kernel
theorem dX12_fits_25 : decode cX12_fits 25 = .ok (.invokestatic 237, 3) := by decide +kernel
theorem dX12_fits_28 : decode cX12_fits 28 = .ok (.if_icmp .eq 6, 3) := by decide +kernel
theorem dX12_fits_31 : decode cX12_fits 31 = .ok (.goto 108, 3) := by decide +kernel
theorem dX12_fits_34 : decode cX12_fits 34 = .ok (.aload_n 0, 1) := by decide +kernel
theorem dX12_fits_35 : decode cX12_fits 35 = .ok (.getfield 62, 3) := by decide +kernel
theorem dX12_fits_38 : decode cX12_fits 38 = .ok (.iload_n 3, 1) := by decide +kernel
theorem dX12_fits_39 : decode cX12_fits 39 = .ok (.iaload, 1) := by decide +kernel
theorem dX12_fits_40 : decode cX12_fits 40 = .ok (.iload_n 1, 1) := by decide +kernel
theorem dX12_fits_41 : decode cX12_fits 41 = .ok (.invokestatic 308, 3) := by decide +kernel
theorem dX12_fits_44 : decode cX12_fits 44 = .ok (.ifCond .eq 7, 3) := by decide +kernel
theorem dX12_fits_47 : decode cX12_fits 47 = .ok (.iload_n 2, 1) := by decide +kernel
theorem dX12_fits_48 : decode cX12_fits 48 = .ok (.goto 22, 3) := by decide +kernel
theorem dX12_fits_51 : decode cX12_fits 51 = .ok (.aload_n 0, 1) := by decide +kernel
theorem dX12_fits_52 : decode cX12_fits 52 = .ok (.getfield 65, 3) := by decide +kernel
theorem dX12_fits_55 : decode cX12_fits 55 = .ok (.iload_n 3, 1) := by decide +kernel
theorem dX12_fits_56 : decode cX12_fits 56 = .ok (.iaload, 1) := by decide +kernel
theorem dX12_fits_57 : decode cX12_fits 57 = .ok (.iload_n 1, 1) := by decide +kernel
theorem dX12_fits_58 : decode cX12_fits 58 = .ok (.invokestatic 308, 3) := by decide +kernel
theorem dX12_fits_61 : decode cX12_fits 61 = .ok (.ifCond .eq 8, 3) := by decide +kernel
theorem dX12_fits_64 : decode cX12_fits 64 = .ok (.iload_n 2, 1) := by decide +kernel
theorem dX12_fits_65 : decode cX12_fits 65 = .ok (.ineg, 1) := by decide +kernel
theorem dX12_fits_66 : decode cX12_fits 66 = .ok (.goto 4, 3) := by decide +kernel
theorem dX12_fits_69 : decode cX12_fits 69 = .ok (.iconst 0, 1) := by decide +kernel
theorem dX12_fits_70 : decode cX12_fits 70 = .ok (.istore 4, 2) := by decide +kernel
theorem dX12_fits_72 : decode cX12_fits 72 = .ok (.aload_n 0, 1) := by decide +kernel
theorem dX12_fits_73 : decode cX12_fits 73 = .ok (.getfield 68, 3) := by decide +kernel
theorem dX12_fits_76 : decode cX12_fits 76 = .ok (.iload_n 3, 1) := by decide +kernel
theorem dX12_fits_77 : decode cX12_fits 77 = .ok (.iaload, 1) := by decide +kernel
theorem dX12_fits_78 : decode cX12_fits 78 = .ok (.bipush 60, 2) := by decide +kernel
theorem dX12_fits_80 : decode cX12_fits 80 = .ok (.if_icmp .ne 16, 3) := by decide +kernel
theorem dX12_fits_83 : decode cX12_fits 83 = .ok (.iload 4, 2) := by decide +kernel
theorem dX12_fits_85 : decode cX12_fits 85 = .ok (.ifCond .ge 7, 3) := by decide +kernel
theorem dX12_fits_88 : decode cX12_fits 88 = .ok (.iconst 1, 1) := by decide +kernel
theorem dX12_fits_89 : decode cX12_fits 89 = .ok (.goto 41, 3) := by decide +kernel
theorem dX12_fits_92 : decode cX12_fits 92 = .ok (.iconst 0, 1) := by decide +kernel
theorem dX12_fits_93 : decode cX12_fits 93 = .ok (.goto 37, 3) := by decide +kernel
theorem dX12_fits_96 : decode cX12_fits 96 = .ok (.aload_n 0, 1) := by decide +kernel
theorem dX12_fits_97 : decode cX12_fits 97 = .ok (.getfield 68, 3) := by decide +kernel
theorem dX12_fits_100 : decode cX12_fits 100 = .ok (.iload_n 3, 1) := by decide +kernel
theorem dX12_fits_101 : decode cX12_fits 101 = .ok (.iaload, 1) := by decide +kernel
theorem dX12_fits_102 : decode cX12_fits 102 = .ok (.bipush 62, 2) := by decide +kernel
theorem dX12_fits_104 : decode cX12_fits 104 = .ok (.if_icmp .ne 16, 3) := by decide +kernel
theorem dX12_fits_107 : decode cX12_fits 107 = .ok (.iload 4, 2) := by decide +kernel
theorem dX12_fits_109 : decode cX12_fits 109 = .ok (.ifCond .le 7, 3) := by decide +kernel
theorem dX12_fits_112 : decode cX12_fits 112 = .ok (.iconst 1, 1) := by decide +kernel
theorem dX12_fits_113 : decode cX12_fits 113 = .ok (.goto 17, 3) := by decide +kernel
theorem dX12_fits_116 : decode cX12_fits 116 = .ok (.iconst 0, 1) := by decide +kernel
theorem dX12_fits_117 : decode cX12_fits 117 = .ok (.goto 13, 3) := by decide +kernel
theorem dX12_fits_120 : decode cX12_fits 120 = .ok (.iload 4, 2) := by decide +kernel
theorem dX12_fits_122 : decode cX12_fits 122 = .ok (.ifCond .ne 7, 3) := by decide +kernel
theorem dX12_fits_125 : decode cX12_fits 125 = .ok (.iconst 1, 1) := by decide +kernel
theorem dX12_fits_126 : decode cX12_fits 126 = .ok (.goto 4, 3) := by decide +kernel
theorem dX12_fits_129 : decode cX12_fits 129 = .ok (.iconst 0, 1) := by decide +kernel
theorem dX12_fits_130 : decode cX12_fits 130 = .ok (.istore 5, 2) := by decide +kernel
theorem dX12_fits_132 : decode cX12_fits 132 = .ok (.iload 5, 2) := by decide +kernel
theorem dX12_fits_134 : decode cX12_fits 134 = .ok (.ifCond .ne 5, 3) := by decide +kernel
theorem dX12_fits_137 : decode cX12_fits 137 = .ok (.iconst 0, 1) := by decide +kernel
theorem dX12_fits_138 : decode cX12_fits 138 = .ok (.ireturn, 1) := by decide +kernel
theorem dX12_fits_139 : decode cX12_fits 139 = .ok (.iinc 3 1, 3) := by decide +kernel
theorem dX12_fits_142 : decode cX12_fits 142 = .ok (.goto (-140), 3) := by decide +kernel
theorem dX12_fits_145 : decode cX12_fits 145 = .ok (.iconst 1, 1) := by decide +kernel
theorem dX12_fits_146 : decode cX12_fits 146 = .ok (.ireturn, 1) := by decide +kernel
set_option maxRecDepth 20000 in
theorem ggX12_odd_X12_in : GoodIn wsX12_odd wsX12_in := goodIn_r _ [4] (by decide +kernel) (by decide +kernel)
set_option maxRecDepth 20000 in
theorem gX12_odd_X12_in : GoodIn wsX12_odd (va_wsS RX12 105 yX12_in wsX12_in) := goodIn_app (goodIn_of _ (by decide +kernel)) ggX12_odd_X12_in
set_option maxRecDepth 20000 in
theorem ggX12_odd_X12_fits : GoodIn wsX12_odd wsX12_fits := goodIn_r _ [8, 9, 10, 11, 12, 13, 14, 3, 15, 16, 17, 18, 23, 24, 25, 26, 27, 28, 29, 30, 31, 32, 33, 34, 35, 36, 37, 38, 39, 40, 41, 42, 43, 44, 45, 46, 47, 48, 49, 50, 51, 52, 53, 54, 55, 56, 57, 58, 59, 60, 61, 62, 63, 64, 65, 66, 67, 68, 69, 70, 71, 72, 73, 74] (by decide +kernel) (by decide +kernel)
set_option maxRecDepth 20000 in
theorem gX12_odd_X12_fits : GoodIn wsX12_odd (wsV RX12 339 RX12 yX12_fits wsX12_fits) := goodIn_app (goodIn_of _ (by decide +kernel)) ggX12_odd_X12_fits
set_option maxRecDepth 20000 in
theorem ggX12_odd_X12_named : GoodIn wsX12_odd wsX12_named := goodIn_r _ [22, 9, 10, 11, 23, 24, 25, 26, 27, 28, 29, 30, 31, 32, 33, 34, 35, 36, 37, 38, 39, 40, 41, 42, 43, 44, 45, 46, 47, 48, 49, 50, 51, 52, 53, 54, 55, 56, 57, 58, 59, 60, 61, 62, 63, 64, 65, 66, 67, 68, 69, 70, 71, 72, 73, 74] (by decide +kernel) (by decide +kernel)
set_option maxRecDepth 20000 in
theorem gX12_odd_X12_named : GoodIn wsX12_odd (wsV RX12 342 RX12 yX12_named wsX12_named) := goodIn_app (goodIn_of _ (by decide +kernel)) ggX12_odd_X12_named
set_option maxRecDepth 20000 in
theorem ggX12_odd_X12_has : GoodIn wsX12_odd wsX12_has := goodIn_r _ [18] (by decide +kernel) (by decide +kernel)
set_option maxRecDepth 20000 in
theorem gX12_odd_X12_has : GoodIn wsX12_odd (va_wsS RX12 308 yX12_has wsX12_has) := goodIn_app (goodIn_of _ (by decide +kernel)) ggX12_odd_X12_has
theorem dX12_odd_0 : decode cX12_odd 0 = .ok (.iload_n 1, 1) := by decide +kernel
theorem dX12_odd_1 : decode cX12_odd 1 = .ok (.iconst 0, 1) := by decide +kernel
theorem dX12_odd_2 : decode cX12_odd 2 = .ok (.iconst 2, 1) := by decide +kernel
theorem dX12_odd_3 : decode cX12_odd 3 = .ok (.invokestatic 105, 3) := by decide +kernel
theorem dX12_odd_6 : decode cX12_odd 6 = .ok (.ifCond .ne 5, 3) := by decide +kernel
theorem dX12_odd_9 : decode cX12_odd 9 = .ok (.iconst (-1), 1) := by decide +kernel
theorem dX12_odd_10 : decode cX12_odd 10 = .ok (.ireturn, 1) := by decide +kernel
theorem dX12_odd_11 : decode cX12_odd 11 = .ok (.iload_n 1, 1) := by decide +kernel
theorem dX12_odd_12 : decode cX12_odd 12 = .ok (.iconst 2, 1) := by decide +kernel
theorem dX12_odd_13 : decode cX12_odd 13 = .ok (.if_icmp .ne 18, 3) := by decide +kernel
theorem dX12_odd_16 : decode cX12_odd 16 = .ok (.aload_n 0, 1) := by decide +kernel
theorem dX12_odd_17 : decode cX12_odd 17 = .ok (.iconst 0, 1) := by decide +kernel
theorem dX12_odd_18 : decode cX12_odd 18 = .ok (.iconst 0, 1) := by decide +kernel
theorem dX12_odd_19 : decode cX12_odd 19 = .ok (.invokevirtual 339, 3) := by decide +kernel
theorem dX12_odd_22 : decode cX12_odd 22 = .ok (.ifCond .eq 7, 3) := by decide +kernel
theorem dX12_odd_25 : decode cX12_odd 25 = .ok (.iconst 1, 1) := by decide +kernel
theorem dX12_odd_26 : decode cX12_odd 26 = .ok (.goto 4, 3) := by decide +kernel
theorem dX12_odd_29 : decode cX12_odd 29 = .ok (.iconst 0, 1) := by decide +kernel
theorem dX12_odd_30 : decode cX12_odd 30 = .ok (.ireturn, 1) := by decide +kernel
theorem dX12_odd_31 : decode cX12_odd 31 = .ok (.iconst 0, 1) := by decide +kernel
theorem dX12_odd_32 : decode cX12_odd 32 = .ok (.istore_n 2, 1) := by decide +kernel
theorem dX12_odd_33 : decode cX12_odd 33 = .ok (.iconst 0, 1) := by decide +kernel
theorem dX12_odd_34 : decode cX12_odd 34 = .ok (.istore_n 3, 1) := by decide +kernel
theorem dX12_odd_35 : decode cX12_odd 35 = .ok (.iload_n 3, 1) := by decide +kernel
theorem dX12_odd_36 : decode cX12_odd 36 = .ok (.bipush 16, 2) := by decide +kernel
theorem dX12_odd_38 : decode cX12_odd 38 = .ok (.if_icmp .ge 43, 3) := by decide +kernel
theorem dX12_odd_41 : decode cX12_odd 41 = .ok (.aload_n 0, 1) := by decide +kernel
theorem dX12_odd_42 : decode cX12_odd 42 = .ok (.invokevirtual 342, 3) := by decide +kernel
theorem dX12_odd_45 : decode cX12_odd 45 = .ok (.iload_n 3, 1) := by decide +kernel
theorem dX12_odd_46 : decode cX12_odd 46 = .ok (.invokestatic 308, 3) := by decide +kernel
theorem dX12_odd_49 : decode cX12_odd 49 = .ok (.ifCond .eq 26, 3) := by decide +kernel
theorem dX12_odd_52 : decode cX12_odd 52 = .ok (.aload_n 0, 1) := by decide +kernel
theorem dX12_odd_53 : decode cX12_odd 53 = .ok (.iload_n 3, 1) := by decide +kernel
theorem dX12_odd_54 : decode cX12_odd 54 = .ok (.iload_n 1, 1) := by decide +kernel
theorem dX12_odd_55 : decode cX12_odd 55 = .ok (.ifCond .ne 7, 3) := by decide +kernel
theorem dX12_odd_58 : decode cX12_odd 58 = .ok (.iconst 1, 1) := by decide +kernel
theorem dX12_odd_59 : decode cX12_odd 59 = .ok (.goto 4, 3) := by decide +kernel
theorem dX12_odd_62 : decode cX12_odd 62 = .ok (.iconst (-1), 1) := by decide +kernel
theorem dX12_odd_63 : decode cX12_odd 63 = .ok (.invokevirtual 339, 3) := by decide +kernel
theorem dX12_odd_66 : decode cX12_odd 66 = .ok (.ifCond .eq 9, 3) := by decide +kernel
theorem dX12_odd_69 : decode cX12_odd 69 = .ok (.iload_n 2, 1) := by decide +kernel
theorem dX12_odd_70 : decode cX12_odd 70 = .ok (.iconst 1, 1) := by decide +kernel
theorem dX12_odd_71 : decode cX12_odd 71 = .ok (.iload_n 3, 1) := by decide +kernel
theorem dX12_odd_72 : decode cX12_odd 72 = .ok (.ishl, 1) := by decide +kernel
theorem dX12_odd_73 : decode cX12_odd 73 = .ok (.ior, 1) := by decide +kernel
theorem dX12_odd_74 : decode cX12_odd 74 = .ok (.istore_n 2, 1) := by decide +kernel
theorem dX12_odd_75 : decode cX12_odd 75 = .ok (.iinc 3 1, 3) := by decide +kernel
theorem dX12_odd_78 : decode cX12_odd 78 = .ok (.goto (-43), 3) := by decide +kernel
theorem dX12_odd_81 : decode cX12_odd 81 = .ok (.iload_n 2, 1) := by decide +kernel
theorem dX12_odd_82 : decode cX12_odd 82 = .ok (.ireturn, 1) := by decide +kernel
set_option maxRecDepth 20000 in
theorem ggX12_isOneAndOne_X12_bits : GoodIn wsX12_isOneAndOne wsX12_bits := goodIn_r _ [6] (by decide +kernel) (by decide +kernel)
set_option maxRecDepth 20000 in
theorem gX12_isOneAndOne_X12_bits : GoodIn wsX12_isOneAndOne (va_wsS RX12 237 yX12_bits wsX12_bits) := goodIn_app (goodIn_of _ (by decide +kernel)) ggX12_isOneAndOne_X12_bits
theorem dX12_isOneAndOne_0 : decode cX12_isOneAndOne 0 = .ok (.aload_n 0, 1) := by decide +kernel
theorem dX12_isOneAndOne_1 : decode cX12_isOneAndOne 1 = .ok (.getfield 62, 3) := by decide +kernel
theorem dX12_isOneAndOne_4 : decode cX12_isOneAndOne 4 = .ok (.iload_n 1, 1) := by decide +kernel
theorem dX12_isOneAndOne_5 : decode cX12_isOneAndOne 5 = .ok (.iaload, 1) := by decide +kernel
theorem dX12_isOneAndOne_6 : decode cX12_isOneAndOne 6 = .ok (.invokestatic 237, 3) := by decide +kernel
theorem dX12_isOneAndOne_9 : decode cX12_isOneAndOne 9 = .ok (.iconst 1, 1) := by decide +kernel
theorem dX12_isOneAndOne_10 : decode cX12_isOneAndOne 10 = .ok (.if_icmp .ne 20, 3) := by decide +kernel
theorem dX12_isOneAndOne_13 : decode cX12_isOneAndOne 13 = .ok (.aload_n 0, 1) := by decide +kernel
theorem dX12_isOneAndOne_14 : decode cX12_isOneAndOne 14 = .ok (.getfield 65, 3) := by decide +kernel
theorem dX12_isOneAndOne_17 : decode cX12_isOneAndOne 17 = .ok (.iload_n 1, 1) := by decide +kernel
theorem dX12_isOneAndOne_18 : decode cX12_isOneAndOne 18 = .ok (.iaload, 1) := by decide +kernel
theorem dX12_isOneAndOne_19 : decode cX12_isOneAndOne 19 = .ok (.invokestatic 237, 3) := by decide +kernel
theorem dX12_isOneAndOne_22 : decode cX12_isOneAndOne 22 = .ok (.iconst 1, 1) := by decide +kernel
theorem dX12_isOneAndOne_23 : decode cX12_isOneAndOne 23 = .ok (.if_icmp .ne 7, 3) := by decide +kernel
theorem dX12_isOneAndOne_26 : decode cX12_isOneAndOne 26 = .ok (.iconst 1, 1) := by decide +kernel
theorem dX12_isOneAndOne_27 : decode cX12_isOneAndOne 27 = .ok (.goto 4, 3) := by decide +kernel
theorem dX12_isOneAndOne_30 : decode cX12_isOneAndOne 30 = .ok (.iconst 0, 1) := by decide +kernel
theorem dX12_isOneAndOne_31 : decode cX12_isOneAndOne 31 = .ok (.ireturn, 1) := by decide +kernel
set_option maxRecDepth 20000 in
theorem ggX12_alikeTo_X12_isOneAndOne : GoodIn wsX12_alikeTo wsX12_isOneAndOne := goodIn_r _ [9, 3, 4, 10, 11, 8, 12, 13, 14, 15, 16, 17, 18, 19, 20, 21, 22, 23, 24, 25, 26, 27, 28, 29, 30, 31, 32, 33, 34, 35, 36, 37, 38, 39, 40, 41, 42, 43, 44, 45, 46, 47, 48, 49, 50, 51, 52, 53, 54, 55, 56, 57, 58, 59, 60, 61, 62, 63, 64] (by decide +kernel) (by decide +kernel)
set_option maxRecDepth 20000 in
theorem gX12_alikeTo_X12_isOneAndOne : GoodIn wsX12_alikeTo (wsV RX12 345 RX12 yX12_isOneAndOne wsX12_isOneAndOne) := goodIn_app (goodIn_of _ (by decide +kernel)) ggX12_alikeTo_X12_isOneAndOne
theorem dX12_alikeTo_0 : decode cX12_alikeTo 0 = .ok (.iconst 1, 1) := by decide +kernel
theorem dX12_alikeTo_1 : decode cX12_alikeTo 1 = .ok (.iload_n 1, 1) := by decide +kernel
theorem dX12_alikeTo_2 : decode cX12_alikeTo 2 = .ok (.ishl, 1) := by decide +kernel
theorem dX12_alikeTo_3 : decode cX12_alikeTo 3 = .ok (.istore_n 2, 1) := by decide +kernel
theorem dX12_alikeTo_4 : decode cX12_alikeTo 4 = .ok (.iconst 0, 1) := by decide +kernel
theorem dX12_alikeTo_5 : decode cX12_alikeTo 5 = .ok (.istore_n 3, 1) := by decide +kernel
theorem dX12_alikeTo_6 : decode cX12_alikeTo 6 = .ok (.iload_n 2, 1) := by decide +kernel
theorem dX12_alikeTo_7 : decode cX12_alikeTo 7 = .ok (.iload_n 3, 1) := by decide +kernel
theorem dX12_alikeTo_8 : decode cX12_alikeTo 8 = .ok (.if_icmp .eq 85, 3) := by decide +kernel
theorem dX12_alikeTo_11 : decode cX12_alikeTo 11 = .ok (.iload_n 2, 1) := by decide +kernel
theorem dX12_alikeTo_12 : decode cX12_alikeTo 12 = .ok (.istore_n 3, 1) := by decide +kernel
theorem dX12_alikeTo_13 : decode cX12_alikeTo 13 = .ok (.iconst 0, 1) := by decide +kernel
theorem dX12_alikeTo_14 : decode cX12_alikeTo 14 = .ok (.istore 4, 2) := by decide +kernel
theorem dX12_alikeTo_16 : decode cX12_alikeTo 16 = .ok (.iload 4, 2) := by decide +kernel
theorem dX12_alikeTo_18 : decode cX12_alikeTo 18 = .ok (.aload_n 0, 1) := by decide +kernel
theorem dX12_alikeTo_19 : decode cX12_alikeTo 19 = .ok (.getfield 274, 3) := by decide +kernel
theorem dX12_alikeTo_22 : decode cX12_alikeTo 22 = .ok (.if_icmp .ge 68, 3) := by decide +kernel
theorem dX12_alikeTo_25 : decode cX12_alikeTo 25 = .ok (.aload_n 0, 1) := by decide +kernel
theorem dX12_alikeTo_26 : decode cX12_alikeTo 26 = .ok (.iload 4, 2) := by decide +kernel
theorem dX12_alikeTo_28 : decode cX12_alikeTo 28 = .ok (.invokevirtual 345, 3) := by decide +kernel
theorem dX12_alikeTo_31 : decode cX12_alikeTo 31 = .ok (.ifCond .eq 53, 3) := by decide +kernel
theorem dX12_alikeTo_34 : decode cX12_alikeTo 34 = .ok (.aload_n 0, 1) := by decide +kernel
theorem dX12_alikeTo_35 : decode cX12_alikeTo 35 = .ok (.getfield 68, 3) := by decide +kernel
theorem dX12_alikeTo_38 : decode cX12_alikeTo 38 = .ok (.iload 4, 2) := by decide +kernel
theorem dX12_alikeTo_40 : decode cX12_alikeTo 40 = .ok (.iaload, 1) := by decide +kernel
theorem dX12_alikeTo_41 : decode cX12_alikeTo 41 = .ok (.bipush 61, 2) := by decide +kernel
theorem dX12_alikeTo_43 : decode cX12_alikeTo 43 = .ok (.if_icmp .ne 41, 3) := by decide +kernel
theorem dX12_alikeTo_46 : decode cX12_alikeTo 46 = .ok (.aload_n 0, 1) := by decide +kernel
theorem dX12_alikeTo_47 : decode cX12_alikeTo 47 = .ok (.getfield 62, 3) := by decide +kernel
theorem dX12_alikeTo_50 : decode cX12_alikeTo 50 = .ok (.iload 4, 2) := by decide +kernel
theorem dX12_alikeTo_52 : decode cX12_alikeTo 52 = .ok (.iaload, 1) := by decide +kernel
theorem dX12_alikeTo_53 : decode cX12_alikeTo 53 = .ok (.aload_n 0, 1) := by decide +kernel
theorem dX12_alikeTo_54 : decode cX12_alikeTo 54 = .ok (.getfield 65, 3) := by decide +kernel
theorem dX12_alikeTo_57 : decode cX12_alikeTo 57 = .ok (.iload 4, 2) := by decide +kernel
theorem dX12_alikeTo_59 : decode cX12_alikeTo 59 = .ok (.iaload, 1) := by decide +kernel
theorem dX12_alikeTo_60 : decode cX12_alikeTo 60 = .ok (.ior, 1) := by decide +kernel
theorem dX12_alikeTo_61 : decode cX12_alikeTo 61 = .ok (.iload_n 3, 1) := by decide +kernel
theorem dX12_alikeTo_62 : decode cX12_alikeTo 62 = .ok (.iand, 1) := by decide +kernel
theorem dX12_alikeTo_63 : decode cX12_alikeTo 63 = .ok (.ifCond .eq 21, 3) := by decide +kernel
theorem dX12_alikeTo_66 : decode cX12_alikeTo 66 = .ok (.iload_n 2, 1) := by decide +kernel
theorem dX12_alikeTo_67 : decode cX12_alikeTo 67 = .ok (.aload_n 0, 1) := by decide +kernel
theorem dX12_alikeTo_68 : decode cX12_alikeTo 68 = .ok (.getfield 62, 3) := by decide +kernel
theorem dX12_alikeTo_71 : decode cX12_alikeTo 71 = .ok (.iload 4, 2) := by decide +kernel
theorem dX12_alikeTo_73 : decode cX12_alikeTo 73 = .ok (.iaload, 1) := by decide +kernel
theorem dX12_alikeTo_74 : decode cX12_alikeTo 74 = .ok (.ior, 1) := by decide +kernel
theorem dX12_alikeTo_75 : decode cX12_alikeTo 75 = .ok (.aload_n 0, 1) := by decide +kernel
theorem dX12_alikeTo_76 : decode cX12_alikeTo 76 = .ok (.getfield 65, 3) := by decide +kernel
theorem dX12_alikeTo_79 : decode cX12_alikeTo 79 = .ok (.iload 4, 2) := by decide +kernel
theorem dX12_alikeTo_81 : decode cX12_alikeTo 81 = .ok (.iaload, 1) := by decide +kernel
theorem dX12_alikeTo_82 : decode cX12_alikeTo 82 = .ok (.ior, 1) := by decide +kernel
theorem dX12_alikeTo_83 : decode cX12_alikeTo 83 = .ok (.istore_n 2, 1) := by decide +kernel
theorem dX12_alikeTo_84 : decode cX12_alikeTo 84 = .ok (.iinc 4 1, 3) := by decide +kernel
theorem dX12_alikeTo_87 : decode cX12_alikeTo 87 = .ok (.goto (-71), 3) := by decide +kernel
theorem dX12_alikeTo_90 : decode cX12_alikeTo 90 = .ok (.goto (-84), 3) := by decide +kernel
theorem dX12_alikeTo_93 : decode cX12_alikeTo 93 = .ok (.iload_n 2, 1) := by decide +kernel
theorem dX12_alikeTo_94 : decode cX12_alikeTo 94 = .ok (.ireturn, 1) := by decide +kernel
set_option maxRecDepth 20000 in
theorem ggX12_lowest_X12_has : GoodIn wsX12_lowest wsX12_has := goodIn_r _ [4] (by decide +kernel) (by decide +kernel)
set_option maxRecDepth 20000 in
theorem gX12_lowest_X12_has : GoodIn wsX12_lowest (va_wsS RX12 308 yX12_has wsX12_has) := goodIn_app (goodIn_of _ (by decide +kernel)) ggX12_lowest_X12_has
theorem dX12_lowest_0 : decode cX12_lowest 0 = .ok (.iconst 0, 1) := by decide +kernel
theorem dX12_lowest_1 : decode cX12_lowest 1 = .ok (.istore_n 1, 1) := by decide +kernel
theorem dX12_lowest_2 : decode cX12_lowest 2 = .ok (.iload_n 0, 1) := by decide +kernel
theorem dX12_lowest_3 : decode cX12_lowest 3 = .ok (.iload_n 1, 1) := by decide +kernel
theorem dX12_lowest_4 : decode cX12_lowest 4 = .ok (.invokestatic 308, 3) := by decide +kernel
theorem dX12_lowest_7 : decode cX12_lowest 7 = .ok (.ifCond .ne 10, 3) := by decide +kernel
theorem dX12_lowest_10 : decode cX12_lowest 10 = .ok (.iload_n 1, 1) := by decide +kernel
theorem dX12_lowest_11 : decode cX12_lowest 11 = .ok (.iconst 1, 1) := by decide +kernel
theorem dX12_lowest_12 : decode cX12_lowest 12 = .ok (.iadd, 1) := by decide +kernel
theorem dX12_lowest_13 : decode cX12_lowest 13 = .ok (.istore_n 1, 1) := by decide +kernel
theorem dX12_lowest_14 : decode cX12_lowest 14 = .ok (.goto (-12), 3) := by decide +kernel
theorem dX12_lowest_17 : decode cX12_lowest 17 = .ok (.iload_n 1, 1) := by decide +kernel
theorem dX12_lowest_18 : decode cX12_lowest 18 = .ok (.ireturn, 1) := by decide +kernel
set_option maxRecDepth 20000 in
theorem ggX12_lighterThan_X12_isOneAndOne : GoodIn wsX12_lighterThan wsX12_isOneAndOne := goodIn_r _ [9, 4, 3, 10, 11, 8, 12, 23, 24, 25, 26, 27, 28, 29, 30, 31, 32, 33, 34, 35, 36, 37, 38, 39, 40, 41, 42, 43, 44, 45, 46, 47, 48, 49, 50, 51, 52, 53, 54, 55, 56, 57, 58, 59, 60, 61, 62, 63, 64, 65, 66, 67, 68, 69, 70, 71, 72, 73, 74] (by decide +kernel) (by decide +kernel)
set_option maxRecDepth 20000 in
theorem gX12_lighterThan_X12_isOneAndOne : GoodIn wsX12_lighterThan (wsV RX12 345 RX12 yX12_isOneAndOne wsX12_isOneAndOne) := goodIn_app (goodIn_of _ (by decide +kernel)) ggX12_lighterThan_X12_isOneAndOne
set_option maxRecDepth 20000 in
theorem ggX12_lighterThan_X12_alikeTo : GoodIn wsX12_lighterThan wsX12_alikeTo := goodIn_r _ [16, 1, 2, 4, 3, 5, 6, 7, 8, 9, 10, 11, 12, 23, 24, 25, 26, 27, 28, 29, 30, 31, 32, 33, 34, 35, 36, 37, 38, 39, 40, 41, 42, 43, 44, 45, 46, 47, 48, 49, 50, 51, 52, 53, 54, 55, 56, 57, 58, 59, 60, 61, 62, 63, 64, 65, 66, 67, 68, 69, 70, 71, 72, 73, 74] (by decide +kernel) (by decide +kernel)
set_option maxRecDepth 20000 in
theorem gX12_lighterThan_X12_alikeTo : GoodIn wsX12_lighterThan (wsV RX12 348 RX12 yX12_alikeTo wsX12_alikeTo) := goodIn_app (goodIn_of _ (by decide +kernel)) ggX12_lighterThan_X12_alikeTo
set_option maxRecDepth 20000 in
theorem ggX12_lighterThan_X12_lowest : GoodIn wsX12_lighterThan wsX12_lowest := goodIn_r _ [19, 20, 21, 8, 22] (by decide +kernel) (by decide +kernel)
set_option maxRecDepth 20000 in
theorem gX12_lighterThan_X12_lowest : GoodIn wsX12_lighterThan (va_wsS RX12 351 yX12_lowest wsX12_lowest) := goodIn_app (goodIn_of _ (by decide +kernel)) ggX12_lighterThan_X12_lowest
theorem dX12_lighterThan_0 : decode cX12_lighterThan 0 = .ok (.iconst 0, 1) := by decide +kernel
theorem dX12_lighterThan_1 : decode cX12_lighterThan 1 = .ok (.istore_n 2, 1) := by decide +kernel
theorem dX12_lighterThan_2 : decode cX12_lighterThan 2 = .ok (.iconst (-1), 1) := by decide +kernel
theorem dX12_lighterThan_3 : decode cX12_lighterThan 3 = .ok (.istore_n 3, 1) := by decide +kernel
theorem dX12_lighterThan_4 : decode cX12_lighterThan 4 = .ok (.iload_n 2, 1) := by decide +kernel
theorem dX12_lighterThan_5 : decode cX12_lighterThan 5 = .ok (.iload_n 3, 1) := by decide +kernel
theorem dX12_lighterThan_6 : decode cX12_lighterThan 6 = .ok (.if_icmp .eq 137, 3) := by decide +kernel
theorem dX12_lighterThan_9 : decode cX12_lighterThan 9 = .ok (.iload_n 2, 1) := by decide +kernel
theorem dX12_lighterThan_10 : decode cX12_lighterThan 10 = .ok (.istore_n 3, 1) := by decide +kernel
theorem dX12_lighterThan_11 : decode cX12_lighterThan 11 = .ok (.iconst 0, 1) := by decide +kernel
theorem dX12_lighterThan_12 : decode cX12_lighterThan 12 = .ok (.istore 4, 2) := by decide +kernel
theorem dX12_lighterThan_14 : decode cX12_lighterThan 14 = .ok (.iload 4, 2) := by decide +kernel
theorem dX12_lighterThan_16 : decode cX12_lighterThan 16 = .ok (.aload_n 0, 1) := by decide +kernel
theorem dX12_lighterThan_17 : decode cX12_lighterThan 17 = .ok (.getfield 274, 3) := by decide +kernel
theorem dX12_lighterThan_20 : decode cX12_lighterThan 20 = .ok (.if_icmp .ge 120, 3) := by decide +kernel
theorem dX12_lighterThan_23 : decode cX12_lighterThan 23 = .ok (.aload_n 0, 1) := by decide +kernel
theorem dX12_lighterThan_24 : decode cX12_lighterThan 24 = .ok (.iload 4, 2) := by decide +kernel
theorem dX12_lighterThan_26 : decode cX12_lighterThan 26 = .ok (.invokevirtual 345, 3) := by decide +kernel
theorem dX12_lighterThan_29 : decode cX12_lighterThan 29 = .ok (.ifCond .eq 105, 3) := by decide +kernel
theorem dX12_lighterThan_32 : decode cX12_lighterThan 32 = .ok (.aload_n 0, 1) := by decide +kernel
theorem dX12_lighterThan_33 : decode cX12_lighterThan 33 = .ok (.getfield 68, 3) := by decide +kernel
theorem dX12_lighterThan_36 : decode cX12_lighterThan 36 = .ok (.iload 4, 2) := by decide +kernel
theorem dX12_lighterThan_38 : decode cX12_lighterThan 38 = .ok (.iaload, 1) := by decide +kernel
theorem dX12_lighterThan_39 : decode cX12_lighterThan 39 = .ok (.bipush 61, 2) := by decide +kernel
theorem dX12_lighterThan_41 : decode cX12_lighterThan 41 = .ok (.if_icmp .ne 6, 3) := by decide +kernel
theorem dX12_lighterThan_44 : decode cX12_lighterThan 44 = .ok (.goto 90, 3) := by decide +kernel
theorem dX12_lighterThan_47 : decode cX12_lighterThan 47 = .ok (.aload_n 0, 1) := by decide +kernel
theorem dX12_lighterThan_48 : decode cX12_lighterThan 48 = .ok (.getfield 68, 3) := by decide +kernel
theorem dX12_lighterThan_51 : decode cX12_lighterThan 51 = .ok (.iload 4, 2) := by decide +kernel
theorem dX12_lighterThan_53 : decode cX12_lighterThan 53 = .ok (.iaload, 1) := by decide +kernel
theorem dX12_lighterThan_54 : decode cX12_lighterThan 54 = .ok (.bipush 60, 2) := by decide +kernel
theorem dX12_lighterThan_56 : decode cX12_lighterThan 56 = .ok (.if_icmp .ne 13, 3) := by decide +kernel
theorem dX12_lighterThan_59 : decode cX12_lighterThan 59 = .ok (.aload_n 0, 1) := by decide +kernel
theorem dX12_lighterThan_60 : decode cX12_lighterThan 60 = .ok (.getfield 65, 3) := by decide +kernel
theorem dX12_lighterThan_63 : decode cX12_lighterThan 63 = .ok (.iload 4, 2) := by decide +kernel
theorem dX12_lighterThan_65 : decode cX12_lighterThan 65 = .ok (.iaload, 1) := by decide +kernel
theorem dX12_lighterThan_66 : decode cX12_lighterThan 66 = .ok (.goto 10, 3) := by decide +kernel
theorem dX12_lighterThan_69 : decode cX12_lighterThan 69 = .ok (.aload_n 0, 1) := by decide +kernel
theorem dX12_lighterThan_70 : decode cX12_lighterThan 70 = .ok (.getfield 62, 3) := by decide +kernel
theorem dX12_lighterThan_73 : decode cX12_lighterThan 73 = .ok (.iload 4, 2) := by decide +kernel
theorem dX12_lighterThan_75 : decode cX12_lighterThan 75 = .ok (.iaload, 1) := by decide +kernel
theorem dX12_lighterThan_76 : decode cX12_lighterThan 76 = .ok (.istore 5, 2) := by decide +kernel
theorem dX12_lighterThan_78 : decode cX12_lighterThan 78 = .ok (.aload_n 0, 1) := by decide +kernel
theorem dX12_lighterThan_79 : decode cX12_lighterThan 79 = .ok (.getfield 68, 3) := by decide +kernel
theorem dX12_lighterThan_82 : decode cX12_lighterThan 82 = .ok (.iload 4, 2) := by decide +kernel
theorem dX12_lighterThan_84 : decode cX12_lighterThan 84 = .ok (.iaload, 1) := by decide +kernel
theorem dX12_lighterThan_85 : decode cX12_lighterThan 85 = .ok (.bipush 60, 2) := by decide +kernel
theorem dX12_lighterThan_87 : decode cX12_lighterThan 87 = .ok (.if_icmp .ne 13, 3) := by decide +kernel
theorem dX12_lighterThan_90 : decode cX12_lighterThan 90 = .ok (.aload_n 0, 1) := by decide +kernel
theorem dX12_lighterThan_91 : decode cX12_lighterThan 91 = .ok (.getfield 62, 3) := by decide +kernel
theorem dX12_lighterThan_94 : decode cX12_lighterThan 94 = .ok (.iload 4, 2) := by decide +kernel
theorem dX12_lighterThan_96 : decode cX12_lighterThan 96 = .ok (.iaload, 1) := by decide +kernel
theorem dX12_lighterThan_97 : decode cX12_lighterThan 97 = .ok (.goto 10, 3) := by decide +kernel
theorem dX12_lighterThan_100 : decode cX12_lighterThan 100 = .ok (.aload_n 0, 1) := by decide +kernel
theorem dX12_lighterThan_101 : decode cX12_lighterThan 101 = .ok (.getfield 65, 3) := by decide +kernel
theorem dX12_lighterThan_104 : decode cX12_lighterThan 104 = .ok (.iload 4, 2) := by decide +kernel
theorem dX12_lighterThan_106 : decode cX12_lighterThan 106 = .ok (.iaload, 1) := by decide +kernel
theorem dX12_lighterThan_107 : decode cX12_lighterThan 107 = .ok (.istore 6, 2) := by decide +kernel
theorem dX12_lighterThan_109 : decode cX12_lighterThan 109 = .ok (.iload_n 3, 1) := by decide +kernel
theorem dX12_lighterThan_110 : decode cX12_lighterThan 110 = .ok (.aload_n 0, 1) := by decide +kernel
theorem dX12_lighterThan_111 : decode cX12_lighterThan 111 = .ok (.iload_n 1, 1) := by decide +kernel
theorem dX12_lighterThan_112 : decode cX12_lighterThan 112 = .ok (.invokevirtual 348, 3) := by decide +kernel
theorem dX12_lighterThan_115 : decode cX12_lighterThan 115 = .ok (.ior, 1) := by decide +kernel
theorem dX12_lighterThan_116 : decode cX12_lighterThan 116 = .ok (.iload 5, 2) := by decide +kernel
theorem dX12_lighterThan_118 : decode cX12_lighterThan 118 = .ok (.iand, 1) := by decide +kernel
theorem dX12_lighterThan_119 : decode cX12_lighterThan 119 = .ok (.ifCond .eq 15, 3) := by decide +kernel
theorem dX12_lighterThan_122 : decode cX12_lighterThan 122 = .ok (.iload_n 2, 1) := by decide +kernel
theorem dX12_lighterThan_123 : decode cX12_lighterThan 123 = .ok (.aload_n 0, 1) := by decide +kernel
theorem dX12_lighterThan_124 : decode cX12_lighterThan 124 = .ok (.iload 6, 2) := by decide +kernel
theorem dX12_lighterThan_126 : decode cX12_lighterThan 126 = .ok (.invokestatic 351, 3) := by decide +kernel
theorem dX12_lighterThan_129 : decode cX12_lighterThan 129 = .ok (.invokevirtual 348, 3) := by decide +kernel
theorem dX12_lighterThan_132 : decode cX12_lighterThan 132 = .ok (.ior, 1) := by decide +kernel
theorem dX12_lighterThan_133 : decode cX12_lighterThan 133 = .ok (.istore_n 2, 1) := by decide +kernel
theorem dX12_lighterThan_134 : decode cX12_lighterThan 134 = .ok (.iinc 4 1, 3) := by decide +kernel
theorem dX12_lighterThan_137 : decode cX12_lighterThan 137 = .ok (.goto (-123), 3) := by decide +kernel
theorem dX12_lighterThan_140 : decode cX12_lighterThan 140 = .ok (.goto (-136), 3) := by decide +kernel
theorem dX12_lighterThan_143 : decode cX12_lighterThan 143 = .ok (.iload_n 2, 1) := by decide +kernel
theorem dX12_lighterThan_144 : decode cX12_lighterThan 144 = .ok (.ireturn, 1) := by decide +kernel
set_option maxRecDepth 20000 in
theorem ggX12_heavier_X12_in : GoodIn wsX12_heavier wsX12_in := goodIn_r _ [4] (by decide +kernel) (by decide +kernel)
set_option maxRecDepth 20000 in
theorem gX12_heavier_X12_in : GoodIn wsX12_heavier (va_wsS RX12 105 yX12_in wsX12_in) := goodIn_app (goodIn_of _ (by decide +kernel)) ggX12_heavier_X12_in
set_option maxRecDepth 20000 in
theorem ggX12_heavier_X12_lighterThan : GoodIn wsX12_heavier wsX12_lighterThan := goodIn_r _ [8, 9, 10, 11, 12, 13, 14, 15, 3, 16, 17, 18, 19, 20, 21, 22, 23, 24, 25, 26, 27, 28, 29, 30, 31, 32, 33, 34, 35, 36, 37, 38, 39, 40, 41, 42, 43, 44, 45, 46, 47, 48, 49, 50, 51, 52, 53, 54, 55, 56, 57, 58, 59, 60, 61, 62, 63, 64, 65, 66, 67, 68, 69, 70, 71, 72, 73, 74, 75, 76, 77, 78, 79, 80, 81] (by decide +kernel) (by decide +kernel)
set_option maxRecDepth 20000 in
theorem gX12_heavier_X12_lighterThan : GoodIn wsX12_heavier (wsV RX12 354 RX12 yX12_lighterThan wsX12_lighterThan) := goodIn_app (goodIn_of _ (by decide +kernel)) ggX12_heavier_X12_lighterThan
set_option maxRecDepth 20000 in
theorem ggX12_heavier_X12_has : GoodIn wsX12_heavier wsX12_has := goodIn_r _ [29] (by decide +kernel) (by decide +kernel)
set_option maxRecDepth 20000 in
theorem gX12_heavier_X12_has : GoodIn wsX12_heavier (va_wsS RX12 308 yX12_has wsX12_has) := goodIn_app (goodIn_of _ (by decide +kernel)) ggX12_heavier_X12_has
set_option maxRecDepth 20000 in
theorem ggX12_heavier_X12_alikeTo : GoodIn wsX12_heavier wsX12_alikeTo := goodIn_r _ [23, 9, 10, 12, 11, 13, 14, 15, 3, 16, 17, 18, 19, 30, 31, 32, 33, 34, 35, 36, 37, 38, 39, 40, 41, 42, 43, 44, 45, 46, 47, 48, 49, 50, 51, 52, 53, 54, 55, 56, 57, 58, 59, 60, 61, 62, 63, 64, 65, 66, 67, 68, 69, 70, 71, 72, 73, 74, 75, 76, 77, 78, 79, 80, 81] (by decide +kernel) (by decide +kernel)
set_option maxRecDepth 20000 in
theorem gX12_heavier_X12_alikeTo : GoodIn wsX12_heavier (wsV RX12 348 RX12 yX12_alikeTo wsX12_alikeTo) := goodIn_app (goodIn_of _ (by decide +kernel)) ggX12_heavier_X12_alikeTo
theorem dX12_heavier_0 : decode cX12_heavier 0 = .ok (.iload_n 1, 1) := by decide +kernel
theorem dX12_heavier_1 : decode cX12_heavier 1 = .ok (.iconst 0, 1) := by decide +kernel
theorem dX12_heavier_2 : decode cX12_heavier 2 = .ok (.bipush 15, 2) := by decide +kernel
theorem dX12_heavier_4 : decode cX12_heavier 4 = .ok (.invokestatic 105, 3) := by decide +kernel
theorem dX12_heavier_7 : decode cX12_heavier 7 = .ok (.ifCond .eq 12, 3) := by decide +kernel
theorem dX12_heavier_10 : decode cX12_heavier 10 = .ok (.iload_n 2, 1) := by decide +kernel
theorem dX12_heavier_11 : decode cX12_heavier 11 = .ok (.iconst 0, 1) := by decide +kernel
theorem dX12_heavier_12 : decode cX12_heavier 12 = .ok (.iconst 1, 1) := by decide +kernel
theorem dX12_heavier_13 : decode cX12_heavier 13 = .ok (.invokestatic 105, 3) := by decide +kernel
theorem dX12_heavier_16 : decode cX12_heavier 16 = .ok (.ifCond .ne 5, 3) := by decide +kernel
theorem dX12_heavier_19 : decode cX12_heavier 19 = .ok (.iconst (-1), 1) := by decide +kernel
theorem dX12_heavier_20 : decode cX12_heavier 20 = .ok (.ireturn, 1) := by decide +kernel
theorem dX12_heavier_21 : decode cX12_heavier 21 = .ok (.iconst 0, 1) := by decide +kernel
theorem dX12_heavier_22 : decode cX12_heavier 22 = .ok (.istore_n 3, 1) := by decide +kernel
theorem dX12_heavier_23 : decode cX12_heavier 23 = .ok (.iload_n 3, 1) := by decide +kernel
theorem dX12_heavier_24 : decode cX12_heavier 24 = .ok (.bipush 16, 2) := by decide +kernel
theorem dX12_heavier_26 : decode cX12_heavier 26 = .ok (.if_icmp .ge 24, 3) := by decide +kernel
theorem dX12_heavier_29 : decode cX12_heavier 29 = .ok (.aload_n 0, 1) := by decide +kernel
theorem dX12_heavier_30 : decode cX12_heavier 30 = .ok (.iload_n 3, 1) := by decide +kernel
theorem dX12_heavier_31 : decode cX12_heavier 31 = .ok (.invokevirtual 354, 3) := by decide +kernel
theorem dX12_heavier_34 : decode cX12_heavier 34 = .ok (.iload_n 3, 1) := by decide +kernel
theorem dX12_heavier_35 : decode cX12_heavier 35 = .ok (.invokestatic 308, 3) := by decide +kernel
theorem dX12_heavier_38 : decode cX12_heavier 38 = .ok (.ifCond .eq 6, 3) := by decide +kernel
theorem dX12_heavier_41 : decode cX12_heavier 41 = .ok (.bipush (-3), 2) := by decide +kernel
theorem dX12_heavier_43 : decode cX12_heavier 43 = .ok (.ireturn, 1) := by decide +kernel
theorem dX12_heavier_44 : decode cX12_heavier 44 = .ok (.iinc 3 1, 3) := by decide +kernel
theorem dX12_heavier_47 : decode cX12_heavier 47 = .ok (.goto (-24), 3) := by decide +kernel
theorem dX12_heavier_50 : decode cX12_heavier 50 = .ok (.iload_n 2, 1) := by decide +kernel
theorem dX12_heavier_51 : decode cX12_heavier 51 = .ok (.ifCond .ne 11, 3) := by decide +kernel
theorem dX12_heavier_54 : decode cX12_heavier 54 = .ok (.aload_n 0, 1) := by decide +kernel
theorem dX12_heavier_55 : decode cX12_heavier 55 = .ok (.iload_n 1, 1) := by decide +kernel
theorem dX12_heavier_56 : decode cX12_heavier 56 = .ok (.invokevirtual 354, 3) := by decide +kernel
theorem dX12_heavier_59 : decode cX12_heavier 59 = .ok (.goto 8, 3) := by decide +kernel
theorem dX12_heavier_62 : decode cX12_heavier 62 = .ok (.aload_n 0, 1) := by decide +kernel
theorem dX12_heavier_63 : decode cX12_heavier 63 = .ok (.iload_n 1, 1) := by decide +kernel
theorem dX12_heavier_64 : decode cX12_heavier 64 = .ok (.invokevirtual 348, 3) := by decide +kernel
theorem dX12_heavier_67 : decode cX12_heavier 67 = .ok (.ireturn, 1) := by decide +kernel
set_option maxRecDepth 20000 in
theorem ggX12_sorts_X12_isTold : GoodIn wsX12_sorts wsX12_isTold := goodIn_r _ [7, 2, 8, 9, 6, 10, 11, 12, 13, 14, 15, 16, 17, 18, 19, 20, 21, 22, 23, 24, 25, 26, 27, 28, 29, 30, 31, 32, 33, 34, 35, 36, 37, 38, 39, 40, 41, 42, 43, 44, 45, 46, 47, 48, 49, 50, 51, 52, 53, 54, 55, 56, 57, 58, 59, 60, 61, 62] (by decide +kernel) (by decide +kernel)
set_option maxRecDepth 20000 in
theorem gX12_sorts_X12_isTold : GoodIn wsX12_sorts (wsV RX12 109 RX12 yX12_isTold wsX12_isTold) := goodIn_app (goodIn_of _ (by decide +kernel)) ggX12_sorts_X12_isTold
theorem dX12_sorts_0 : decode cX12_sorts 0 = .ok (.iconst 0, 1) := by decide +kernel
theorem dX12_sorts_1 : decode cX12_sorts 1 = .ok (.istore_n 1, 1) := by decide +kernel
theorem dX12_sorts_2 : decode cX12_sorts 2 = .ok (.iconst 0, 1) := by decide +kernel
theorem dX12_sorts_3 : decode cX12_sorts 3 = .ok (.istore_n 2, 1) := by decide +kernel
theorem dX12_sorts_4 : decode cX12_sorts 4 = .ok (.iload_n 2, 1) := by decide +kernel
theorem dX12_sorts_5 : decode cX12_sorts 5 = .ok (.bipush 16, 2) := by decide +kernel
theorem dX12_sorts_7 : decode cX12_sorts 7 = .ok (.if_icmp .ge 86, 3) := by decide +kernel
theorem dX12_sorts_10 : decode cX12_sorts 10 = .ok (.aload_n 0, 1) := by decide +kernel
theorem dX12_sorts_11 : decode cX12_sorts 11 = .ok (.iload_n 2, 1) := by decide +kernel
theorem dX12_sorts_12 : decode cX12_sorts 12 = .ok (.invokevirtual 109, 3) := by decide +kernel
theorem dX12_sorts_15 : decode cX12_sorts 15 = .ok (.ifCond .ne 6, 3) := by decide +kernel
theorem dX12_sorts_18 : decode cX12_sorts 18 = .ok (.goto 69, 3) := by decide +kernel
theorem dX12_sorts_21 : decode cX12_sorts 21 = .ok (.iload_n 1, 1) := by decide +kernel
theorem dX12_sorts_22 : decode cX12_sorts 22 = .ok (.istore_n 3, 1) := by decide +kernel
theorem dX12_sorts_23 : decode cX12_sorts 23 = .ok (.iload_n 3, 1) := by decide +kernel
theorem dX12_sorts_24 : decode cX12_sorts 24 = .ok (.ifCond .le 44, 3) := by decide +kernel
theorem dX12_sorts_27 : decode cX12_sorts 27 = .ok (.aload_n 0, 1) := by decide +kernel
theorem dX12_sorts_28 : decode cX12_sorts 28 = .ok (.getfield 86, 3) := by decide +kernel
theorem dX12_sorts_31 : decode cX12_sorts 31 = .ok (.iload_n 3, 1) := by decide +kernel
theorem dX12_sorts_32 : decode cX12_sorts 32 = .ok (.iconst 1, 1) := by decide +kernel
theorem dX12_sorts_33 : decode cX12_sorts 33 = .ok (.isub, 1) := by decide +kernel
theorem dX12_sorts_34 : decode cX12_sorts 34 = .ok (.iaload, 1) := by decide +kernel
theorem dX12_sorts_35 : decode cX12_sorts 35 = .ok (.aload_n 0, 1) := by decide +kernel
theorem dX12_sorts_36 : decode cX12_sorts 36 = .ok (.getfield 7, 3) := by decide +kernel
theorem dX12_sorts_39 : decode cX12_sorts 39 = .ok (.bipush 16, 2) := by decide +kernel
theorem dX12_sorts_41 : decode cX12_sorts 41 = .ok (.iload_n 2, 1) := by decide +kernel
theorem dX12_sorts_42 : decode cX12_sorts 42 = .ok (.iadd, 1) := by decide +kernel
theorem dX12_sorts_43 : decode cX12_sorts 43 = .ok (.iaload, 1) := by decide +kernel
theorem dX12_sorts_44 : decode cX12_sorts 44 = .ok (.if_icmp .le 24, 3) := by decide +kernel
theorem dX12_sorts_47 : decode cX12_sorts 47 = .ok (.aload_n 0, 1) := by decide +kernel
theorem dX12_sorts_48 : decode cX12_sorts 48 = .ok (.getfield 86, 3) := by decide +kernel
theorem dX12_sorts_51 : decode cX12_sorts 51 = .ok (.iload_n 3, 1) := by decide +kernel
theorem dX12_sorts_52 : decode cX12_sorts 52 = .ok (.aload_n 0, 1) := by decide +kernel
theorem dX12_sorts_53 : decode cX12_sorts 53 = .ok (.getfield 86, 3) := by decide +kernel
theorem dX12_sorts_56 : decode cX12_sorts 56 = .ok (.iload_n 3, 1) := by decide +kernel
theorem dX12_sorts_57 : decode cX12_sorts 57 = .ok (.iconst 1, 1) := by decide +kernel
theorem dX12_sorts_58 : decode cX12_sorts 58 = .ok (.isub, 1) := by decide +kernel
theorem dX12_sorts_59 : decode cX12_sorts 59 = .ok (.iaload, 1) := by decide +kernel
theorem dX12_sorts_60 : decode cX12_sorts 60 = .ok (.iastore, 1) := by decide +kernel
theorem dX12_sorts_61 : decode cX12_sorts 61 = .ok (.iload_n 3, 1) := by decide +kernel
theorem dX12_sorts_62 : decode cX12_sorts 62 = .ok (.iconst 1, 1) := by decide +kernel
theorem dX12_sorts_63 : decode cX12_sorts 63 = .ok (.isub, 1) := by decide +kernel
theorem dX12_sorts_64 : decode cX12_sorts 64 = .ok (.istore_n 3, 1) := by decide +kernel
theorem dX12_sorts_65 : decode cX12_sorts 65 = .ok (.goto (-42), 3) := by decide +kernel
theorem dX12_sorts_68 : decode cX12_sorts 68 = .ok (.aload_n 0, 1) := by decide +kernel
theorem dX12_sorts_69 : decode cX12_sorts 69 = .ok (.getfield 86, 3) := by decide +kernel
theorem dX12_sorts_72 : decode cX12_sorts 72 = .ok (.iload_n 3, 1) := by decide +kernel
theorem dX12_sorts_73 : decode cX12_sorts 73 = .ok (.aload_n 0, 1) := by decide +kernel
theorem dX12_sorts_74 : decode cX12_sorts 74 = .ok (.getfield 7, 3) := by decide +kernel
theorem dX12_sorts_77 : decode cX12_sorts 77 = .ok (.bipush 16, 2) := by decide +kernel
theorem dX12_sorts_79 : decode cX12_sorts 79 = .ok (.iload_n 2, 1) := by decide +kernel
theorem dX12_sorts_80 : decode cX12_sorts 80 = .ok (.iadd, 1) := by decide +kernel
theorem dX12_sorts_81 : decode cX12_sorts 81 = .ok (.iaload, 1) := by decide +kernel
theorem dX12_sorts_82 : decode cX12_sorts 82 = .ok (.iastore, 1) := by decide +kernel
theorem dX12_sorts_83 : decode cX12_sorts 83 = .ok (.iload_n 1, 1) := by decide +kernel
theorem dX12_sorts_84 : decode cX12_sorts 84 = .ok (.iconst 1, 1) := by decide +kernel
theorem dX12_sorts_85 : decode cX12_sorts 85 = .ok (.iadd, 1) := by decide +kernel
theorem dX12_sorts_86 : decode cX12_sorts 86 = .ok (.istore_n 1, 1) := by decide +kernel
theorem dX12_sorts_87 : decode cX12_sorts 87 = .ok (.iinc 2 1, 3) := by decide +kernel
theorem dX12_sorts_90 : decode cX12_sorts 90 = .ok (.goto (-86), 3) := by decide +kernel
theorem dX12_sorts_93 : decode cX12_sorts 93 = .ok (.iload_n 1, 1) := by decide +kernel
theorem dX12_sorts_94 : decode cX12_sorts 94 = .ok (.ireturn, 1) := by decide +kernel
set_option maxRecDepth 20000 in
theorem ggX12_pairs_X12_in : GoodIn wsX12_pairs wsX12_in := goodIn_r _ [5] (by decide +kernel) (by decide +kernel)
set_option maxRecDepth 20000 in
theorem gX12_pairs_X12_in : GoodIn wsX12_pairs (va_wsS RX12 105 yX12_in wsX12_in) := goodIn_app (goodIn_of _ (by decide +kernel)) ggX12_pairs_X12_in
set_option maxRecDepth 20000 in
theorem ggX12_pairs_X12_sorts : GoodIn wsX12_pairs wsX12_sorts := goodIn_r _ [9, 1, 10, 11, 12, 13, 4, 14, 2, 3, 5, 15, 16, 17, 18, 19, 20, 21, 22, 23, 24, 25, 26, 27, 28, 29, 30, 31, 32, 33, 34, 35, 36, 37, 38, 39, 40, 41, 42, 43, 44, 45, 46, 47, 48, 49, 50, 51, 52, 53, 54, 55, 56, 57, 58, 59, 60, 61, 62, 63, 64, 65, 66] (by decide +kernel) (by decide +kernel)
set_option maxRecDepth 20000 in
theorem gX12_pairs_X12_sorts : GoodIn wsX12_pairs (wsV RX12 357 RX12 yX12_sorts wsX12_sorts) := goodIn_app (goodIn_of _ (by decide +kernel)) ggX12_pairs_X12_sorts
theorem dX12_pairs_0 : decode cX12_pairs 0 = .ok (.iload_n 1, 1) := by decide +kernel
theorem dX12_pairs_1 : decode cX12_pairs 1 = .ok (.iconst 0, 1) := by decide +kernel
theorem dX12_pairs_2 : decode cX12_pairs 2 = .ok (.sipush 999, 3) := by decide +kernel
theorem dX12_pairs_5 : decode cX12_pairs 5 = .ok (.invokestatic 105, 3) := by decide +kernel
theorem dX12_pairs_8 : decode cX12_pairs 8 = .ok (.ifCond .ne 5, 3) := by decide +kernel
theorem dX12_pairs_11 : decode cX12_pairs 11 = .ok (.iconst (-1), 1) := by decide +kernel
theorem dX12_pairs_12 : decode cX12_pairs 12 = .ok (.ireturn, 1) := by decide +kernel
theorem dX12_pairs_13 : decode cX12_pairs 13 = .ok (.aload_n 0, 1) := by decide +kernel
theorem dX12_pairs_14 : decode cX12_pairs 14 = .ok (.invokevirtual 357, 3) := by decide +kernel
theorem dX12_pairs_17 : decode cX12_pairs 17 = .ok (.istore_n 2, 1) := by decide +kernel
theorem dX12_pairs_18 : decode cX12_pairs 18 = .ok (.iconst 0, 1) := by decide +kernel
theorem dX12_pairs_19 : decode cX12_pairs 19 = .ok (.istore_n 3, 1) := by decide +kernel
theorem dX12_pairs_20 : decode cX12_pairs 20 = .ok (.iconst 0, 1) := by decide +kernel
theorem dX12_pairs_21 : decode cX12_pairs 21 = .ok (.istore 4, 2) := by decide +kernel
theorem dX12_pairs_23 : decode cX12_pairs 23 = .ok (.iload 4, 2) := by decide +kernel
theorem dX12_pairs_25 : decode cX12_pairs 25 = .ok (.iconst 1, 1) := by decide +kernel
theorem dX12_pairs_26 : decode cX12_pairs 26 = .ok (.iadd, 1) := by decide +kernel
theorem dX12_pairs_27 : decode cX12_pairs 27 = .ok (.iload_n 2, 1) := by decide +kernel
theorem dX12_pairs_28 : decode cX12_pairs 28 = .ok (.if_icmp .ge 61, 3) := by decide +kernel
theorem dX12_pairs_31 : decode cX12_pairs 31 = .ok (.aload_n 0, 1) := by decide +kernel
theorem dX12_pairs_32 : decode cX12_pairs 32 = .ok (.getfield 86, 3) := by decide +kernel
theorem dX12_pairs_35 : decode cX12_pairs 35 = .ok (.iload 4, 2) := by decide +kernel
theorem dX12_pairs_37 : decode cX12_pairs 37 = .ok (.iconst 1, 1) := by decide +kernel
theorem dX12_pairs_38 : decode cX12_pairs 38 = .ok (.iadd, 1) := by decide +kernel
theorem dX12_pairs_39 : decode cX12_pairs 39 = .ok (.iaload, 1) := by decide +kernel
theorem dX12_pairs_40 : decode cX12_pairs 40 = .ok (.aload_n 0, 1) := by decide +kernel
theorem dX12_pairs_41 : decode cX12_pairs 41 = .ok (.getfield 86, 3) := by decide +kernel
theorem dX12_pairs_44 : decode cX12_pairs 44 = .ok (.iload 4, 2) := by decide +kernel
theorem dX12_pairs_46 : decode cX12_pairs 46 = .ok (.iaload, 1) := by decide +kernel
theorem dX12_pairs_47 : decode cX12_pairs 47 = .ok (.isub, 1) := by decide +kernel
theorem dX12_pairs_48 : decode cX12_pairs 48 = .ok (.iload_n 1, 1) := by decide +kernel
theorem dX12_pairs_49 : decode cX12_pairs 49 = .ok (.if_icmp .gt 7, 3) := by decide +kernel
theorem dX12_pairs_52 : decode cX12_pairs 52 = .ok (.iconst 1, 1) := by decide +kernel
theorem dX12_pairs_53 : decode cX12_pairs 53 = .ok (.goto 4, 3) := by decide +kernel
theorem dX12_pairs_56 : decode cX12_pairs 56 = .ok (.iconst 0, 1) := by decide +kernel
theorem dX12_pairs_57 : decode cX12_pairs 57 = .ok (.istore 5, 2) := by decide +kernel
theorem dX12_pairs_59 : decode cX12_pairs 59 = .ok (.iload 5, 2) := by decide +kernel
theorem dX12_pairs_61 : decode cX12_pairs 61 = .ok (.ifCond .eq 7, 3) := by decide +kernel
theorem dX12_pairs_64 : decode cX12_pairs 64 = .ok (.iload_n 3, 1) := by decide +kernel
theorem dX12_pairs_65 : decode cX12_pairs 65 = .ok (.iconst 1, 1) := by decide +kernel
theorem dX12_pairs_66 : decode cX12_pairs 66 = .ok (.iadd, 1) := by decide +kernel
theorem dX12_pairs_67 : decode cX12_pairs 67 = .ok (.istore_n 3, 1) := by decide +kernel
theorem dX12_pairs_68 : decode cX12_pairs 68 = .ok (.iload 5, 2) := by decide +kernel
theorem dX12_pairs_70 : decode cX12_pairs 70 = .ok (.ifCond .eq 10, 3) := by decide +kernel
theorem dX12_pairs_73 : decode cX12_pairs 73 = .ok (.iload 4, 2) := by decide +kernel
theorem dX12_pairs_75 : decode cX12_pairs 75 = .ok (.iconst 2, 1) := by decide +kernel
theorem dX12_pairs_76 : decode cX12_pairs 76 = .ok (.iadd, 1) := by decide +kernel
theorem dX12_pairs_77 : decode cX12_pairs 77 = .ok (.goto 7, 3) := by decide +kernel
theorem dX12_pairs_80 : decode cX12_pairs 80 = .ok (.iload 4, 2) := by decide +kernel
theorem dX12_pairs_82 : decode cX12_pairs 82 = .ok (.iconst 1, 1) := by decide +kernel
theorem dX12_pairs_83 : decode cX12_pairs 83 = .ok (.iadd, 1) := by decide +kernel
theorem dX12_pairs_84 : decode cX12_pairs 84 = .ok (.istore 4, 2) := by decide +kernel
theorem dX12_pairs_86 : decode cX12_pairs 86 = .ok (.goto (-63), 3) := by decide +kernel
theorem dX12_pairs_89 : decode cX12_pairs 89 = .ok (.iload_n 3, 1) := by decide +kernel
theorem dX12_pairs_90 : decode cX12_pairs 90 = .ok (.ireturn, 1) := by decide +kernel
set_option maxRecDepth 20000 in
theorem ggX12_liars_X12_in : GoodIn wsX12_liars wsX12_in := goodIn_r _ [5] (by decide +kernel) (by decide +kernel)
set_option maxRecDepth 20000 in
theorem gX12_liars_X12_in : GoodIn wsX12_liars (va_wsS RX12 105 yX12_in wsX12_in) := goodIn_app (goodIn_of _ (by decide +kernel)) ggX12_liars_X12_in
set_option maxRecDepth 20000 in
theorem ggX12_liars_X12_size : GoodIn wsX12_liars wsX12_size := goodIn_r _ [8] (by decide +kernel) (by decide +kernel)
set_option maxRecDepth 20000 in
theorem gX12_liars_X12_size : GoodIn wsX12_liars (va_wsS RX12 314 yX12_size wsX12_size) := goodIn_app (goodIn_of _ (by decide +kernel)) ggX12_liars_X12_size
set_option maxRecDepth 20000 in
theorem ggX12_liars_X12_isTold : GoodIn wsX12_liars wsX12_isTold := goodIn_r _ [12, 1, 2, 3, 4, 5, 13, 14, 15, 16, 17, 18, 19, 20, 21, 22, 23, 24, 25, 26, 27, 28, 29, 30, 31, 32, 33, 34, 35, 36, 37, 38, 39, 40, 41, 42, 43, 44, 45, 46, 47, 48, 49, 50, 51, 52, 53, 54, 55, 56, 57, 58, 59, 60, 61, 62, 63, 64] (by decide +kernel) (by decide +kernel)
set_option maxRecDepth 20000 in
theorem gX12_liars_X12_isTold : GoodIn wsX12_liars (wsV RX12 109 RX12 yX12_isTold wsX12_isTold) := goodIn_app (goodIn_of _ (by decide +kernel)) ggX12_liars_X12_isTold
theorem dX12_liars_0 : decode cX12_liars 0 = .ok (.iload_n 1, 1) := by decide +kernel
theorem dX12_liars_1 : decode cX12_liars 1 = .ok (.iconst 0, 1) := by decide +kernel
theorem dX12_liars_2 : decode cX12_liars 2 = .ok (.iconst 2, 1) := by decide +kernel
theorem dX12_liars_3 : decode cX12_liars 3 = .ok (.invokestatic 105, 3) := by decide +kernel
theorem dX12_liars_6 : decode cX12_liars 6 = .ok (.ifCond .ne 5, 3) := by decide +kernel
theorem dX12_liars_9 : decode cX12_liars 9 = .ok (.iconst (-1), 1) := by decide +kernel
theorem dX12_liars_10 : decode cX12_liars 10 = .ok (.ireturn, 1) := by decide +kernel
theorem dX12_liars_11 : decode cX12_liars 11 = .ok (.iconst 0, 1) := by decide +kernel
theorem dX12_liars_12 : decode cX12_liars 12 = .ok (.istore_n 2, 1) := by decide +kernel
theorem dX12_liars_13 : decode cX12_liars 13 = .ok (.iconst 0, 1) := by decide +kernel
theorem dX12_liars_14 : decode cX12_liars 14 = .ok (.istore_n 3, 1) := by decide +kernel
theorem dX12_liars_15 : decode cX12_liars 15 = .ok (.bipush (-2), 2) := by decide +kernel
theorem dX12_liars_17 : decode cX12_liars 17 = .ok (.istore 4, 2) := by decide +kernel
theorem dX12_liars_19 : decode cX12_liars 19 = .ok (.iconst 0, 1) := by decide +kernel
theorem dX12_liars_20 : decode cX12_liars 20 = .ok (.istore 5, 2) := by decide +kernel
theorem dX12_liars_22 : decode cX12_liars 22 = .ok (.iload 5, 2) := by decide +kernel
theorem dX12_liars_24 : decode cX12_liars 24 = .ok (.bipush 16, 2) := by decide +kernel
theorem dX12_liars_26 : decode cX12_liars 26 = .ok (.if_icmp .ge 75, 3) := by decide +kernel
theorem dX12_liars_29 : decode cX12_liars 29 = .ok (.aload_n 0, 1) := by decide +kernel
theorem dX12_liars_30 : decode cX12_liars 30 = .ok (.getfield 7, 3) := by decide +kernel
theorem dX12_liars_33 : decode cX12_liars 33 = .ok (.bipush 32, 2) := by decide +kernel
theorem dX12_liars_35 : decode cX12_liars 35 = .ok (.iload 5, 2) := by decide +kernel
theorem dX12_liars_37 : decode cX12_liars 37 = .ok (.iadd, 1) := by decide +kernel
theorem dX12_liars_38 : decode cX12_liars 38 = .ok (.iaload, 1) := by decide +kernel
theorem dX12_liars_39 : decode cX12_liars 39 = .ok (.aload_n 0, 1) := by decide +kernel
theorem dX12_liars_40 : decode cX12_liars 40 = .ok (.getfield 7, 3) := by decide +kernel
theorem dX12_liars_43 : decode cX12_liars 43 = .ok (.bipush 16, 2) := by decide +kernel
theorem dX12_liars_45 : decode cX12_liars 45 = .ok (.iload 5, 2) := by decide +kernel
theorem dX12_liars_47 : decode cX12_liars 47 = .ok (.iadd, 1) := by decide +kernel
theorem dX12_liars_48 : decode cX12_liars 48 = .ok (.iaload, 1) := by decide +kernel
theorem dX12_liars_49 : decode cX12_liars 49 = .ok (.isub, 1) := by decide +kernel
theorem dX12_liars_50 : decode cX12_liars 50 = .ok (.invokestatic 314, 3) := by decide +kernel
theorem dX12_liars_53 : decode cX12_liars 53 = .ok (.istore 6, 2) := by decide +kernel
theorem dX12_liars_55 : decode cX12_liars 55 = .ok (.aload_n 0, 1) := by decide +kernel
theorem dX12_liars_56 : decode cX12_liars 56 = .ok (.iload 5, 2) := by decide +kernel
theorem dX12_liars_58 : decode cX12_liars 58 = .ok (.invokevirtual 109, 3) := by decide +kernel
theorem dX12_liars_61 : decode cX12_liars 61 = .ok (.ifCond .eq 34, 3) := by decide +kernel
theorem dX12_liars_64 : decode cX12_liars 64 = .ok (.iload 6, 2) := by decide +kernel
theorem dX12_liars_66 : decode cX12_liars 66 = .ok (.ifCond .ne 6, 3) := by decide +kernel
theorem dX12_liars_69 : decode cX12_liars 69 = .ok (.goto 26, 3) := by decide +kernel
theorem dX12_liars_72 : decode cX12_liars 72 = .ok (.iload_n 2, 1) := by decide +kernel
theorem dX12_liars_73 : decode cX12_liars 73 = .ok (.iconst 1, 1) := by decide +kernel
theorem dX12_liars_74 : decode cX12_liars 74 = .ok (.iload 5, 2) := by decide +kernel
theorem dX12_liars_76 : decode cX12_liars 76 = .ok (.ishl, 1) := by decide +kernel
theorem dX12_liars_77 : decode cX12_liars 77 = .ok (.ior, 1) := by decide +kernel
theorem dX12_liars_78 : decode cX12_liars 78 = .ok (.istore_n 2, 1) := by decide +kernel
theorem dX12_liars_79 : decode cX12_liars 79 = .ok (.iload 6, 2) := by decide +kernel
theorem dX12_liars_81 : decode cX12_liars 81 = .ok (.iload_n 3, 1) := by decide +kernel
theorem dX12_liars_82 : decode cX12_liars 82 = .ok (.if_icmp .gt 6, 3) := by decide +kernel
theorem dX12_liars_85 : decode cX12_liars 85 = .ok (.goto 10, 3) := by decide +kernel
theorem dX12_liars_88 : decode cX12_liars 88 = .ok (.iload 6, 2) := by decide +kernel
theorem dX12_liars_90 : decode cX12_liars 90 = .ok (.istore_n 3, 1) := by decide +kernel
theorem dX12_liars_91 : decode cX12_liars 91 = .ok (.iload 5, 2) := by decide +kernel
theorem dX12_liars_93 : decode cX12_liars 93 = .ok (.istore 4, 2) := by decide +kernel
theorem dX12_liars_95 : decode cX12_liars 95 = .ok (.iinc 5 1, 3) := by decide +kernel
theorem dX12_liars_98 : decode cX12_liars 98 = .ok (.goto (-76), 3) := by decide +kernel
theorem dX12_liars_101 : decode cX12_liars 101 = .ok (.iload_n 1, 1) := by decide +kernel
theorem dX12_liars_102 : decode cX12_liars 102 = .ok (.ifCond .ne 7, 3) := by decide +kernel
theorem dX12_liars_105 : decode cX12_liars 105 = .ok (.iload_n 2, 1) := by decide +kernel
theorem dX12_liars_106 : decode cX12_liars 106 = .ok (.goto 14, 3) := by decide +kernel
theorem dX12_liars_109 : decode cX12_liars 109 = .ok (.iload_n 1, 1) := by decide +kernel
theorem dX12_liars_110 : decode cX12_liars 110 = .ok (.iconst 1, 1) := by decide +kernel
theorem dX12_liars_111 : decode cX12_liars 111 = .ok (.if_icmp .ne 7, 3) := by decide +kernel
theorem dX12_liars_114 : decode cX12_liars 114 = .ok (.iload_n 3, 1) := by decide +kernel
theorem dX12_liars_115 : decode cX12_liars 115 = .ok (.goto 5, 3) := by decide +kernel
theorem dX12_liars_118 : decode cX12_liars 118 = .ok (.iload 4, 2) := by decide +kernel
theorem dX12_liars_120 : decode cX12_liars 120 = .ok (.ireturn, 1) := by decide +kernel
set_option maxRecDepth 20000 in
theorem ggX12_teams_X12_in : GoodIn wsX12_teams wsX12_in := goodIn_r _ [5] (by decide +kernel) (by decide +kernel)
set_option maxRecDepth 20000 in
theorem gX12_teams_X12_in : GoodIn wsX12_teams (va_wsS RX12 105 yX12_in wsX12_in) := goodIn_app (goodIn_of _ (by decide +kernel)) ggX12_teams_X12_in
set_option maxRecDepth 20000 in
theorem ggX12_teams_X12_toldSet : GoodIn wsX12_teams wsX12_toldSet := goodIn_r _ [9, 10, 11, 12, 4, 13, 14, 2, 3, 5, 28, 29, 30, 31, 32, 33, 34, 35, 36, 37, 38, 39, 40, 41, 42, 43, 44, 45, 46, 47, 48, 49, 50, 51, 52, 53, 54, 55, 56, 57, 58, 59, 60, 61, 62, 63, 64, 65, 66, 67, 68, 69, 70, 71, 72, 73, 74, 75, 76, 77, 78, 79] (by decide +kernel) (by decide +kernel)
set_option maxRecDepth 20000 in
theorem gX12_teams_X12_toldSet : GoodIn wsX12_teams (wsV RX12 231 RX12 yX12_toldSet wsX12_toldSet) := goodIn_app (goodIn_of _ (by decide +kernel)) ggX12_teams_X12_toldSet
set_option maxRecDepth 20000 in
theorem ggX12_teams_X12_sumOf : GoodIn wsX12_teams wsX12_sumOf := goodIn_r _ [18, 14, 19, 20, 4, 21, 28, 29, 30, 31, 32, 33, 34, 35, 36, 37, 38, 39, 40, 41, 42, 43, 44, 45, 46, 47, 48, 49, 50, 51, 52, 53, 54, 55, 56, 57, 58, 59, 60, 61, 62, 63, 64, 65, 66, 67, 68, 69, 70, 71, 72, 73, 74, 75, 76, 77, 78, 79] (by decide +kernel) (by decide +kernel)
set_option maxRecDepth 20000 in
theorem gX12_teams_X12_sumOf : GoodIn wsX12_teams (wsV RX12 311 RX12 yX12_sumOf wsX12_sumOf) := goodIn_app (goodIn_of _ (by decide +kernel)) ggX12_teams_X12_sumOf
set_option maxRecDepth 20000 in
theorem ggX12_teams_X12_lowest : GoodIn wsX12_teams wsX12_lowest := goodIn_r _ [24, 19, 20, 4, 21] (by decide +kernel) (by decide +kernel)
set_option maxRecDepth 20000 in
theorem gX12_teams_X12_lowest : GoodIn wsX12_teams (va_wsS RX12 351 yX12_lowest wsX12_lowest) := goodIn_app (goodIn_of _ (by decide +kernel)) ggX12_teams_X12_lowest
set_option maxRecDepth 20000 in
theorem ggX12_teams_X12_size : GoodIn wsX12_teams wsX12_size := goodIn_r _ [27] (by decide +kernel) (by decide +kernel)
set_option maxRecDepth 20000 in
theorem gX12_teams_X12_size : GoodIn wsX12_teams (va_wsS RX12 314 yX12_size wsX12_size) := goodIn_app (goodIn_of _ (by decide +kernel)) ggX12_teams_X12_size
theorem dX12_teams_0 : decode cX12_teams 0 = .ok (.iload_n 1, 1) := by decide +kernel
theorem dX12_teams_1 : decode cX12_teams 1 = .ok (.iconst 0, 1) := by decide +kernel
theorem dX12_teams_2 : decode cX12_teams 2 = .ok (.iconst 1, 1) := by decide +kernel
theorem dX12_teams_3 : decode cX12_teams 3 = .ok (.invokestatic 105, 3) := by decide +kernel
theorem dX12_teams_6 : decode cX12_teams 6 = .ok (.ifCond .ne 5, 3) := by decide +kernel
theorem dX12_teams_9 : decode cX12_teams 9 = .ok (.iconst (-1), 1) := by decide +kernel
theorem dX12_teams_10 : decode cX12_teams 10 = .ok (.ireturn, 1) := by decide +kernel
theorem dX12_teams_11 : decode cX12_teams 11 = .ok (.aload_n 0, 1) := by decide +kernel
theorem dX12_teams_12 : decode cX12_teams 12 = .ok (.invokevirtual 231, 3) := by decide +kernel
theorem dX12_teams_15 : decode cX12_teams 15 = .ok (.istore_n 2, 1) := by decide +kernel
theorem dX12_teams_16 : decode cX12_teams 16 = .ok (.iload_n 2, 1) := by decide +kernel
theorem dX12_teams_17 : decode cX12_teams 17 = .ok (.ifCond .ne 5, 3) := by decide +kernel
theorem dX12_teams_20 : decode cX12_teams 20 = .ok (.iconst 0, 1) := by decide +kernel
theorem dX12_teams_21 : decode cX12_teams 21 = .ok (.ireturn, 1) := by decide +kernel
theorem dX12_teams_22 : decode cX12_teams 22 = .ok (.aload_n 0, 1) := by decide +kernel
theorem dX12_teams_23 : decode cX12_teams 23 = .ok (.iload_n 2, 1) := by decide +kernel
theorem dX12_teams_24 : decode cX12_teams 24 = .ok (.invokevirtual 311, 3) := by decide +kernel
theorem dX12_teams_27 : decode cX12_teams 27 = .ok (.istore_n 3, 1) := by decide +kernel
theorem dX12_teams_28 : decode cX12_teams 28 = .ok (.iconst 1, 1) := by decide +kernel
theorem dX12_teams_29 : decode cX12_teams 29 = .ok (.iload_n 2, 1) := by decide +kernel
theorem dX12_teams_30 : decode cX12_teams 30 = .ok (.invokestatic 351, 3) := by decide +kernel
theorem dX12_teams_33 : decode cX12_teams 33 = .ok (.ishl, 1) := by decide +kernel
theorem dX12_teams_34 : decode cX12_teams 34 = .ok (.istore 4, 2) := by decide +kernel
theorem dX12_teams_36 : decode cX12_teams 36 = .ok (.iconst 0, 1) := by decide +kernel
theorem dX12_teams_37 : decode cX12_teams 37 = .ok (.istore 5, 2) := by decide +kernel
theorem dX12_teams_39 : decode cX12_teams 39 = .ok (.ldc_w 360, 3) := by decide +kernel
theorem dX12_teams_42 : decode cX12_teams 42 = .ok (.istore 6, 2) := by decide +kernel
theorem dX12_teams_44 : decode cX12_teams 44 = .ok (.iload 4, 2) := by decide +kernel
theorem dX12_teams_46 : decode cX12_teams 46 = .ok (.istore 7, 2) := by decide +kernel
theorem dX12_teams_48 : decode cX12_teams 48 = .ok (.iload 7, 2) := by decide +kernel
theorem dX12_teams_50 : decode cX12_teams 50 = .ok (.iload_n 2, 1) := by decide +kernel
theorem dX12_teams_51 : decode cX12_teams 51 = .ok (.if_icmp .gt 62, 3) := by decide +kernel
theorem dX12_teams_54 : decode cX12_teams 54 = .ok (.iload 7, 2) := by decide +kernel
theorem dX12_teams_56 : decode cX12_teams 56 = .ok (.iload_n 2, 1) := by decide +kernel
theorem dX12_teams_57 : decode cX12_teams 57 = .ok (.iconst (-1), 1) := by decide +kernel
theorem dX12_teams_58 : decode cX12_teams 58 = .ok (.ixor, 1) := by decide +kernel
theorem dX12_teams_59 : decode cX12_teams 59 = .ok (.iand, 1) := by decide +kernel
theorem dX12_teams_60 : decode cX12_teams 60 = .ok (.ifCond .ne 47, 3) := by decide +kernel
theorem dX12_teams_63 : decode cX12_teams 63 = .ok (.iload 7, 2) := by decide +kernel
theorem dX12_teams_65 : decode cX12_teams 65 = .ok (.iload 4, 2) := by decide +kernel
theorem dX12_teams_67 : decode cX12_teams 67 = .ok (.iand, 1) := by decide +kernel
theorem dX12_teams_68 : decode cX12_teams 68 = .ok (.ifCond .ne 6, 3) := by decide +kernel
theorem dX12_teams_71 : decode cX12_teams 71 = .ok (.goto 36, 3) := by decide +kernel
theorem dX12_teams_74 : decode cX12_teams 74 = .ok (.iload_n 3, 1) := by decide +kernel
theorem dX12_teams_75 : decode cX12_teams 75 = .ok (.iconst 2, 1) := by decide +kernel
theorem dX12_teams_76 : decode cX12_teams 76 = .ok (.aload_n 0, 1) := by decide +kernel
theorem dX12_teams_77 : decode cX12_teams 77 = .ok (.iload 7, 2) := by decide +kernel
theorem dX12_teams_79 : decode cX12_teams 79 = .ok (.invokevirtual 311, 3) := by decide +kernel
theorem dX12_teams_82 : decode cX12_teams 82 = .ok (.imul, 1) := by decide +kernel
theorem dX12_teams_83 : decode cX12_teams 83 = .ok (.isub, 1) := by decide +kernel
theorem dX12_teams_84 : decode cX12_teams 84 = .ok (.invokestatic 314, 3) := by decide +kernel
theorem dX12_teams_87 : decode cX12_teams 87 = .ok (.istore 8, 2) := by decide +kernel
theorem dX12_teams_89 : decode cX12_teams 89 = .ok (.iload 8, 2) := by decide +kernel
theorem dX12_teams_91 : decode cX12_teams 91 = .ok (.iload 6, 2) := by decide +kernel
theorem dX12_teams_93 : decode cX12_teams 93 = .ok (.if_icmp .lt 6, 3) := by decide +kernel
theorem dX12_teams_96 : decode cX12_teams 96 = .ok (.goto 11, 3) := by decide +kernel
theorem dX12_teams_99 : decode cX12_teams 99 = .ok (.iload 8, 2) := by decide +kernel
theorem dX12_teams_101 : decode cX12_teams 101 = .ok (.istore 6, 2) := by decide +kernel
theorem dX12_teams_103 : decode cX12_teams 103 = .ok (.iload 7, 2) := by decide +kernel
theorem dX12_teams_105 : decode cX12_teams 105 = .ok (.istore 5, 2) := by decide +kernel
theorem dX12_teams_107 : decode cX12_teams 107 = .ok (.iinc 7 1, 3) := by decide +kernel
theorem dX12_teams_110 : decode cX12_teams 110 = .ok (.goto (-62), 3) := by decide +kernel
theorem dX12_teams_113 : decode cX12_teams 113 = .ok (.iload_n 1, 1) := by decide +kernel
theorem dX12_teams_114 : decode cX12_teams 114 = .ok (.ifCond .ne 8, 3) := by decide +kernel
theorem dX12_teams_117 : decode cX12_teams 117 = .ok (.iload 6, 2) := by decide +kernel
theorem dX12_teams_119 : decode cX12_teams 119 = .ok (.goto 5, 3) := by decide +kernel
theorem dX12_teams_122 : decode cX12_teams 122 = .ok (.iload 5, 2) := by decide +kernel
theorem dX12_teams_124 : decode cX12_teams 124 = .ok (.ireturn, 1) := by decide +kernel
set_option maxRecDepth 20000 in
theorem ggX12_share_X12_in : GoodIn wsX12_share wsX12_in := goodIn_r _ [6] (by decide +kernel) (by decide +kernel)
set_option maxRecDepth 20000 in
theorem gX12_share_X12_in : GoodIn wsX12_share (va_wsS RX12 105 yX12_in wsX12_in) := goodIn_app (goodIn_of _ (by decide +kernel)) ggX12_share_X12_in
set_option maxRecDepth 20000 in
theorem ggX12_share_X12_isTold : GoodIn wsX12_share wsX12_isTold := goodIn_r _ [10, 2, 3, 4, 5, 6, 22, 23, 24, 25, 26, 27, 28, 29, 30, 31, 32, 33, 34, 35, 36, 37, 38, 39, 40, 41, 42, 43, 44, 45, 46, 47, 48, 49, 50, 51, 52, 53, 54, 55, 56, 57, 58, 59, 60, 61, 62, 63, 64, 65, 66, 67, 68, 69, 70, 71, 72, 73] (by decide +kernel) (by decide +kernel)
set_option maxRecDepth 20000 in
theorem gX12_share_X12_isTold : GoodIn wsX12_share (wsV RX12 109 RX12 yX12_isTold wsX12_isTold) := goodIn_app (goodIn_of _ (by decide +kernel)) ggX12_share_X12_isTold
set_option maxRecDepth 20000 in
theorem ggX12_share_X12_toldSet : GoodIn wsX12_share wsX12_toldSet := goodIn_r _ [14, 7, 8, 9, 5, 10, 2, 3, 4, 6, 22, 23, 24, 25, 26, 27, 28, 29, 30, 31, 32, 33, 34, 35, 36, 37, 38, 39, 40, 41, 42, 43, 44, 45, 46, 47, 48, 49, 50, 51, 52, 53, 54, 55, 56, 57, 58, 59, 60, 61, 62, 63, 64, 65, 66, 67, 68, 69, 70, 71, 72, 73] (by decide +kernel) (by decide +kernel)
set_option maxRecDepth 20000 in
theorem gX12_share_X12_toldSet : GoodIn wsX12_share (wsV RX12 231 RX12 yX12_toldSet wsX12_toldSet) := goodIn_app (goodIn_of _ (by decide +kernel)) ggX12_share_X12_toldSet
set_option maxRecDepth 20000 in
theorem ggX12_share_X12_sumOf : GoodIn wsX12_share wsX12_sumOf := goodIn_r _ [18, 2, 19, 20, 5, 21, 22, 23, 24, 25, 26, 27, 28, 29, 30, 31, 32, 33, 34, 35, 36, 37, 38, 39, 40, 41, 42, 43, 44, 45, 46, 47, 48, 49, 50, 51, 52, 53, 54, 55, 56, 57, 58, 59, 60, 61, 62, 63, 64, 65, 66, 67, 68, 69, 70, 71, 72, 73] (by decide +kernel) (by decide +kernel)
set_option maxRecDepth 20000 in
theorem gX12_share_X12_sumOf : GoodIn wsX12_share (wsV RX12 311 RX12 yX12_sumOf wsX12_sumOf) := goodIn_app (goodIn_of _ (by decide +kernel)) ggX12_share_X12_sumOf
theorem dX12_share_0 : decode cX12_share 0 = .ok (.iload_n 1, 1) := by decide +kernel
theorem dX12_share_1 : decode cX12_share 1 = .ok (.iconst 0, 1) := by decide +kernel
theorem dX12_share_2 : decode cX12_share 2 = .ok (.ldc_w 361, 3) := by decide +kernel
theorem dX12_share_5 : decode cX12_share 5 = .ok (.invokestatic 105, 3) := by decide +kernel
theorem dX12_share_8 : decode cX12_share 8 = .ok (.ifCond .eq 11, 3) := by decide +kernel
theorem dX12_share_11 : decode cX12_share 11 = .ok (.aload_n 0, 1) := by decide +kernel
theorem dX12_share_12 : decode cX12_share 12 = .ok (.iload_n 2, 1) := by decide +kernel
theorem dX12_share_13 : decode cX12_share 13 = .ok (.invokevirtual 109, 3) := by decide +kernel
theorem dX12_share_16 : decode cX12_share 16 = .ok (.ifCond .ne 5, 3) := by decide +kernel
theorem dX12_share_19 : decode cX12_share 19 = .ok (.iconst (-1), 1) := by decide +kernel
theorem dX12_share_20 : decode cX12_share 20 = .ok (.ireturn, 1) := by decide +kernel
theorem dX12_share_21 : decode cX12_share 21 = .ok (.aload_n 0, 1) := by decide +kernel
theorem dX12_share_22 : decode cX12_share 22 = .ok (.aload_n 0, 1) := by decide +kernel
theorem dX12_share_23 : decode cX12_share 23 = .ok (.invokevirtual 231, 3) := by decide +kernel
theorem dX12_share_26 : decode cX12_share 26 = .ok (.invokevirtual 311, 3) := by decide +kernel
theorem dX12_share_29 : decode cX12_share 29 = .ok (.istore_n 3, 1) := by decide +kernel
theorem dX12_share_30 : decode cX12_share 30 = .ok (.iload_n 1, 1) := by decide +kernel
theorem dX12_share_31 : decode cX12_share 31 = .ok (.istore 4, 2) := by decide +kernel
theorem dX12_share_33 : decode cX12_share 33 = .ok (.iconst 0, 1) := by decide +kernel
theorem dX12_share_34 : decode cX12_share 34 = .ok (.istore 5, 2) := by decide +kernel
theorem dX12_share_36 : decode cX12_share 36 = .ok (.iload 5, 2) := by decide +kernel
theorem dX12_share_38 : decode cX12_share 38 = .ok (.bipush 16, 2) := by decide +kernel
theorem dX12_share_40 : decode cX12_share 40 = .ok (.if_icmp .ge 37, 3) := by decide +kernel
theorem dX12_share_43 : decode cX12_share 43 = .ok (.aload_n 0, 1) := by decide +kernel
theorem dX12_share_44 : decode cX12_share 44 = .ok (.iload 5, 2) := by decide +kernel
theorem dX12_share_46 : decode cX12_share 46 = .ok (.invokevirtual 109, 3) := by decide +kernel
theorem dX12_share_49 : decode cX12_share 49 = .ok (.ifCond .eq 22, 3) := by decide +kernel
theorem dX12_share_52 : decode cX12_share 52 = .ok (.iload 4, 2) := by decide +kernel
theorem dX12_share_54 : decode cX12_share 54 = .ok (.iload_n 1, 1) := by decide +kernel
theorem dX12_share_55 : decode cX12_share 55 = .ok (.aload_n 0, 1) := by decide +kernel
theorem dX12_share_56 : decode cX12_share 56 = .ok (.getfield 7, 3) := by decide +kernel
theorem dX12_share_59 : decode cX12_share 59 = .ok (.bipush 16, 2) := by decide +kernel
theorem dX12_share_61 : decode cX12_share 61 = .ok (.iload 5, 2) := by decide +kernel
theorem dX12_share_63 : decode cX12_share 63 = .ok (.iadd, 1) := by decide +kernel
theorem dX12_share_64 : decode cX12_share 64 = .ok (.iaload, 1) := by decide +kernel
theorem dX12_share_65 : decode cX12_share 65 = .ok (.imul, 1) := by decide +kernel
theorem dX12_share_66 : decode cX12_share 66 = .ok (.iload_n 3, 1) := by decide +kernel
theorem dX12_share_67 : decode cX12_share 67 = .ok (.idiv, 1) := by decide +kernel
theorem dX12_share_68 : decode cX12_share 68 = .ok (.isub, 1) := by decide +kernel
theorem dX12_share_69 : decode cX12_share 69 = .ok (.istore 4, 2) := by decide +kernel
theorem dX12_share_71 : decode cX12_share 71 = .ok (.iinc 5 1, 3) := by decide +kernel
theorem dX12_share_74 : decode cX12_share 74 = .ok (.goto (-38), 3) := by decide +kernel
theorem dX12_share_77 : decode cX12_share 77 = .ok (.iload_n 1, 1) := by decide +kernel
theorem dX12_share_78 : decode cX12_share 78 = .ok (.aload_n 0, 1) := by decide +kernel
theorem dX12_share_79 : decode cX12_share 79 = .ok (.getfield 7, 3) := by decide +kernel
theorem dX12_share_82 : decode cX12_share 82 = .ok (.bipush 16, 2) := by decide +kernel
theorem dX12_share_84 : decode cX12_share 84 = .ok (.iload_n 2, 1) := by decide +kernel
theorem dX12_share_85 : decode cX12_share 85 = .ok (.iadd, 1) := by decide +kernel
theorem dX12_share_86 : decode cX12_share 86 = .ok (.iaload, 1) := by decide +kernel
theorem dX12_share_87 : decode cX12_share 87 = .ok (.imul, 1) := by decide +kernel
theorem dX12_share_88 : decode cX12_share 88 = .ok (.iload_n 3, 1) := by decide +kernel
theorem dX12_share_89 : decode cX12_share 89 = .ok (.irem, 1) := by decide +kernel
theorem dX12_share_90 : decode cX12_share 90 = .ok (.istore 5, 2) := by decide +kernel
theorem dX12_share_92 : decode cX12_share 92 = .ok (.iconst 0, 1) := by decide +kernel
theorem dX12_share_93 : decode cX12_share 93 = .ok (.istore 6, 2) := by decide +kernel
theorem dX12_share_95 : decode cX12_share 95 = .ok (.iconst 0, 1) := by decide +kernel
theorem dX12_share_96 : decode cX12_share 96 = .ok (.istore 7, 2) := by decide +kernel
theorem dX12_share_98 : decode cX12_share 98 = .ok (.iload 7, 2) := by decide +kernel
theorem dX12_share_100 : decode cX12_share 100 = .ok (.bipush 16, 2) := by decide +kernel
theorem dX12_share_102 : decode cX12_share 102 = .ok (.if_icmp .ge 69, 3) := by decide +kernel
theorem dX12_share_105 : decode cX12_share 105 = .ok (.aload_n 0, 1) := by decide +kernel
theorem dX12_share_106 : decode cX12_share 106 = .ok (.iload 7, 2) := by decide +kernel
theorem dX12_share_108 : decode cX12_share 108 = .ok (.invokevirtual 109, 3) := by decide +kernel
theorem dX12_share_111 : decode cX12_share 111 = .ok (.ifCond .eq 54, 3) := by decide +kernel
theorem dX12_share_114 : decode cX12_share 114 = .ok (.iload 7, 2) := by decide +kernel
theorem dX12_share_116 : decode cX12_share 116 = .ok (.iload_n 2, 1) := by decide +kernel
theorem dX12_share_117 : decode cX12_share 117 = .ok (.if_icmp .ne 6, 3) := by decide +kernel
theorem dX12_share_120 : decode cX12_share 120 = .ok (.goto 45, 3) := by decide +kernel
theorem dX12_share_123 : decode cX12_share 123 = .ok (.iload_n 1, 1) := by decide +kernel
theorem dX12_share_124 : decode cX12_share 124 = .ok (.aload_n 0, 1) := by decide +kernel
theorem dX12_share_125 : decode cX12_share 125 = .ok (.getfield 7, 3) := by decide +kernel
theorem dX12_share_128 : decode cX12_share 128 = .ok (.bipush 16, 2) := by decide +kernel
theorem dX12_share_130 : decode cX12_share 130 = .ok (.iload 7, 2) := by decide +kernel
theorem dX12_share_132 : decode cX12_share 132 = .ok (.iadd, 1) := by decide +kernel
theorem dX12_share_133 : decode cX12_share 133 = .ok (.iaload, 1) := by decide +kernel
theorem dX12_share_134 : decode cX12_share 134 = .ok (.imul, 1) := by decide +kernel
theorem dX12_share_135 : decode cX12_share 135 = .ok (.iload_n 3, 1) := by decide +kernel
theorem dX12_share_136 : decode cX12_share 136 = .ok (.irem, 1) := by decide +kernel
theorem dX12_share_137 : decode cX12_share 137 = .ok (.istore 8, 2) := by decide +kernel
theorem dX12_share_139 : decode cX12_share 139 = .ok (.iload 8, 2) := by decide +kernel
theorem dX12_share_141 : decode cX12_share 141 = .ok (.iload 5, 2) := by decide +kernel
theorem dX12_share_143 : decode cX12_share 143 = .ok (.if_icmp .gt 16, 3) := by decide +kernel
theorem dX12_share_146 : decode cX12_share 146 = .ok (.iload 8, 2) := by decide +kernel
theorem dX12_share_148 : decode cX12_share 148 = .ok (.iload 5, 2) := by decide +kernel
theorem dX12_share_150 : decode cX12_share 150 = .ok (.if_icmp .ne 15, 3) := by decide +kernel
theorem dX12_share_153 : decode cX12_share 153 = .ok (.iload 7, 2) := by decide +kernel
theorem dX12_share_155 : decode cX12_share 155 = .ok (.iload_n 2, 1) := by decide +kernel
theorem dX12_share_156 : decode cX12_share 156 = .ok (.if_icmp .ge 9, 3) := by decide +kernel
theorem dX12_share_159 : decode cX12_share 159 = .ok (.iload 6, 2) := by decide +kernel
theorem dX12_share_161 : decode cX12_share 161 = .ok (.iconst 1, 1) := by decide +kernel
theorem dX12_share_162 : decode cX12_share 162 = .ok (.iadd, 1) := by decide +kernel
theorem dX12_share_163 : decode cX12_share 163 = .ok (.istore 6, 2) := by decide +kernel
theorem dX12_share_165 : decode cX12_share 165 = .ok (.iinc 7 1, 3) := by decide +kernel
theorem dX12_share_168 : decode cX12_share 168 = .ok (.goto (-70), 3) := by decide +kernel
theorem dX12_share_171 : decode cX12_share 171 = .ok (.iload_n 1, 1) := by decide +kernel
theorem dX12_share_172 : decode cX12_share 172 = .ok (.aload_n 0, 1) := by decide +kernel
theorem dX12_share_173 : decode cX12_share 173 = .ok (.getfield 7, 3) := by decide +kernel
theorem dX12_share_176 : decode cX12_share 176 = .ok (.bipush 16, 2) := by decide +kernel
theorem dX12_share_178 : decode cX12_share 178 = .ok (.iload_n 2, 1) := by decide +kernel
theorem dX12_share_179 : decode cX12_share 179 = .ok (.iadd, 1) := by decide +kernel
theorem dX12_share_180 : decode cX12_share 180 = .ok (.iaload, 1) := by decide +kernel
theorem dX12_share_181 : decode cX12_share 181 = .ok (.imul, 1) := by decide +kernel
theorem dX12_share_182 : decode cX12_share 182 = .ok (.iload_n 3, 1) := by decide +kernel
theorem dX12_share_183 : decode cX12_share 183 = .ok (.idiv, 1) := by decide +kernel
theorem dX12_share_184 : decode cX12_share 184 = .ok (.iload 6, 2) := by decide +kernel
theorem dX12_share_186 : decode cX12_share 186 = .ok (.iload 4, 2) := by decide +kernel
theorem dX12_share_188 : decode cX12_share 188 = .ok (.if_icmp .ge 7, 3) := by decide +kernel
theorem dX12_share_191 : decode cX12_share 191 = .ok (.iconst 1, 1) := by decide +kernel
theorem dX12_share_192 : decode cX12_share 192 = .ok (.goto 4, 3) := by decide +kernel
theorem dX12_share_195 : decode cX12_share 195 = .ok (.iconst 0, 1) := by decide +kernel
theorem dX12_share_196 : decode cX12_share 196 = .ok (.iadd, 1) := by decide +kernel
theorem dX12_share_197 : decode cX12_share 197 = .ok (.ireturn, 1) := by decide +kernel
set_option maxRecDepth 20000 in
theorem ggX12_areAll_X12_octet : GoodIn wsX12_areAll wsX12_octet := goodIn_r _ [5, 6, 7, 8, 9, 10, 11, 12, 13, 14, 15, 16, 17, 18, 19, 20, 21, 22, 23, 24, 25, 26, 27, 28, 29, 30, 31, 32, 33, 34, 35, 36, 37, 38, 39, 40, 41, 42, 43, 44, 45, 46, 47, 48, 49, 50, 51, 52, 53, 54, 55, 56, 57, 58] (by decide +kernel) (by decide +kernel)
set_option maxRecDepth 20000 in
theorem gX12_areAll_X12_octet : GoodIn wsX12_areAll (wsV RX12 362 RX12 yX12_octet wsX12_octet) := goodIn_app (goodIn_of _ (by decide +kernel)) ggX12_areAll_X12_octet
theorem dX12_areAll_0 : decode cX12_areAll 0 = .ok (.iconst 0, 1) := by decide +kernel
theorem dX12_areAll_1 : decode cX12_areAll 1 = .ok (.istore_n 2, 1) := by decide +kernel
theorem dX12_areAll_2 : decode cX12_areAll 2 = .ok (.iload_n 2, 1) := by decide +kernel
theorem dX12_areAll_3 : decode cX12_areAll 3 = .ok (.iload_n 1, 1) := by decide +kernel
theorem dX12_areAll_4 : decode cX12_areAll 4 = .ok (.if_icmp .ge 19, 3) := by decide +kernel
theorem dX12_areAll_7 : decode cX12_areAll 7 = .ok (.aload_n 0, 1) := by decide +kernel
theorem dX12_areAll_8 : decode cX12_areAll 8 = .ok (.iload_n 2, 1) := by decide +kernel
theorem dX12_areAll_9 : decode cX12_areAll 9 = .ok (.invokevirtual 362, 3) := by decide +kernel
theorem dX12_areAll_12 : decode cX12_areAll 12 = .ok (.ifCond .ne 5, 3) := by decide +kernel
theorem dX12_areAll_15 : decode cX12_areAll 15 = .ok (.iconst 0, 1) := by decide +kernel
theorem dX12_areAll_16 : decode cX12_areAll 16 = .ok (.ireturn, 1) := by decide +kernel
theorem dX12_areAll_17 : decode cX12_areAll 17 = .ok (.iinc 2 1, 3) := by decide +kernel
theorem dX12_areAll_20 : decode cX12_areAll 20 = .ok (.goto (-18), 3) := by decide +kernel
theorem dX12_areAll_23 : decode cX12_areAll 23 = .ok (.iconst 1, 1) := by decide +kernel
theorem dX12_areAll_24 : decode cX12_areAll 24 = .ok (.ireturn, 1) := by decide +kernel
set_option maxRecDepth 20000 in
theorem ggX12_laysFewest_X12_octet : GoodIn wsX12_laysFewest wsX12_octet := goodIn_r _ [8, 9, 13, 14, 15, 16, 17, 18, 19, 20, 21, 22, 23, 24, 25, 26, 27, 28, 29, 30, 31, 32, 33, 34, 35, 36, 37, 38, 39, 40, 41, 42, 43, 44, 45, 46, 47, 48, 49, 50, 51, 52, 53, 54, 55, 56, 57, 58, 59, 60, 61, 62, 63, 64] (by decide +kernel) (by decide +kernel)
set_option maxRecDepth 20000 in
theorem gX12_laysFewest_X12_octet : GoodIn wsX12_laysFewest (wsV RX12 362 RX12 yX12_octet wsX12_octet) := goodIn_app (goodIn_of _ (by decide +kernel)) ggX12_laysFewest_X12_octet
set_option maxRecDepth 20000 in
theorem ggX12_laysFewest_X12_min : GoodIn wsX12_laysFewest wsX12_min := goodIn_r _ [12] (by decide +kernel) (by decide +kernel)
set_option maxRecDepth 20000 in
theorem gX12_laysFewest_X12_min : GoodIn wsX12_laysFewest (va_wsS RX12 249 yX12_min wsX12_min) := goodIn_app (goodIn_of _ (by decide +kernel)) ggX12_laysFewest_X12_min
theorem dX12_laysFewest_0 : decode cX12_laysFewest 0 = .ok (.iconst 0, 1) := by decide +kernel
theorem dX12_laysFewest_1 : decode cX12_laysFewest 1 = .ok (.istore_n 3, 1) := by decide +kernel
theorem dX12_laysFewest_2 : decode cX12_laysFewest 2 = .ok (.iload_n 3, 1) := by decide +kernel
theorem dX12_laysFewest_3 : decode cX12_laysFewest 3 = .ok (.sipush 4080, 3) := by decide +kernel
theorem dX12_laysFewest_6 : decode cX12_laysFewest 6 = .ok (.if_icmp .gt 18, 3) := by decide +kernel
theorem dX12_laysFewest_9 : decode cX12_laysFewest 9 = .ok (.aload_n 0, 1) := by decide +kernel
theorem dX12_laysFewest_10 : decode cX12_laysFewest 10 = .ok (.getfield 89, 3) := by decide +kernel
theorem dX12_laysFewest_13 : decode cX12_laysFewest 13 = .ok (.iload_n 3, 1) := by decide +kernel
theorem dX12_laysFewest_14 : decode cX12_laysFewest 14 = .ok (.ldc_w 360, 3) := by decide +kernel
theorem dX12_laysFewest_17 : decode cX12_laysFewest 17 = .ok (.iastore, 1) := by decide +kernel
theorem dX12_laysFewest_18 : decode cX12_laysFewest 18 = .ok (.iinc 3 1, 3) := by decide +kernel
theorem dX12_laysFewest_21 : decode cX12_laysFewest 21 = .ok (.goto (-19), 3) := by decide +kernel
theorem dX12_laysFewest_24 : decode cX12_laysFewest 24 = .ok (.aload_n 0, 1) := by decide +kernel
theorem dX12_laysFewest_25 : decode cX12_laysFewest 25 = .ok (.getfield 89, 3) := by decide +kernel
theorem dX12_laysFewest_28 : decode cX12_laysFewest 28 = .ok (.sipush 2040, 3) := by decide +kernel
theorem dX12_laysFewest_31 : decode cX12_laysFewest 31 = .ok (.iconst 0, 1) := by decide +kernel
theorem dX12_laysFewest_32 : decode cX12_laysFewest 32 = .ok (.iastore, 1) := by decide +kernel
theorem dX12_laysFewest_33 : decode cX12_laysFewest 33 = .ok (.iconst 0, 1) := by decide +kernel
theorem dX12_laysFewest_34 : decode cX12_laysFewest 34 = .ok (.istore_n 3, 1) := by decide +kernel
theorem dX12_laysFewest_35 : decode cX12_laysFewest 35 = .ok (.iconst 0, 1) := by decide +kernel
theorem dX12_laysFewest_36 : decode cX12_laysFewest 36 = .ok (.istore 4, 2) := by decide +kernel
theorem dX12_laysFewest_38 : decode cX12_laysFewest 38 = .ok (.iload 4, 2) := by decide +kernel
theorem dX12_laysFewest_40 : decode cX12_laysFewest 40 = .ok (.iload_n 1, 1) := by decide +kernel
theorem dX12_laysFewest_41 : decode cX12_laysFewest 41 = .ok (.if_icmp .ge 150, 3) := by decide +kernel
theorem dX12_laysFewest_44 : decode cX12_laysFewest 44 = .ok (.aload_n 0, 1) := by decide +kernel
theorem dX12_laysFewest_45 : decode cX12_laysFewest 45 = .ok (.iload 4, 2) := by decide +kernel
theorem dX12_laysFewest_47 : decode cX12_laysFewest 47 = .ok (.invokevirtual 362, 3) := by decide +kernel
theorem dX12_laysFewest_50 : decode cX12_laysFewest 50 = .ok (.istore 5, 2) := by decide +kernel
theorem dX12_laysFewest_52 : decode cX12_laysFewest 52 = .ok (.sipush 2040, 3) := by decide +kernel
theorem dX12_laysFewest_55 : decode cX12_laysFewest 55 = .ok (.iload_n 3, 1) := by decide +kernel
theorem dX12_laysFewest_56 : decode cX12_laysFewest 56 = .ok (.isub, 1) := by decide +kernel
theorem dX12_laysFewest_57 : decode cX12_laysFewest 57 = .ok (.istore 6, 2) := by decide +kernel
theorem dX12_laysFewest_59 : decode cX12_laysFewest 59 = .ok (.iload 6, 2) := by decide +kernel
theorem dX12_laysFewest_61 : decode cX12_laysFewest 61 = .ok (.sipush 2040, 3) := by decide +kernel
theorem dX12_laysFewest_64 : decode cX12_laysFewest 64 = .ok (.iload_n 3, 1) := by decide +kernel
theorem dX12_laysFewest_65 : decode cX12_laysFewest 65 = .ok (.iadd, 1) := by decide +kernel
theorem dX12_laysFewest_66 : decode cX12_laysFewest 66 = .ok (.if_icmp .gt 23, 3) := by decide +kernel
theorem dX12_laysFewest_69 : decode cX12_laysFewest 69 = .ok (.aload_n 0, 1) := by decide +kernel
theorem dX12_laysFewest_70 : decode cX12_laysFewest 70 = .ok (.getfield 92, 3) := by decide +kernel
theorem dX12_laysFewest_73 : decode cX12_laysFewest 73 = .ok (.iload 6, 2) := by decide +kernel
theorem dX12_laysFewest_75 : decode cX12_laysFewest 75 = .ok (.aload_n 0, 1) := by decide +kernel
theorem dX12_laysFewest_76 : decode cX12_laysFewest 76 = .ok (.getfield 89, 3) := by decide +kernel
theorem dX12_laysFewest_79 : decode cX12_laysFewest 79 = .ok (.iload 6, 2) := by decide +kernel
theorem dX12_laysFewest_81 : decode cX12_laysFewest 81 = .ok (.iaload, 1) := by decide +kernel
theorem dX12_laysFewest_82 : decode cX12_laysFewest 82 = .ok (.iastore, 1) := by decide +kernel
theorem dX12_laysFewest_83 : decode cX12_laysFewest 83 = .ok (.iinc 6 1, 3) := by decide +kernel
theorem dX12_laysFewest_86 : decode cX12_laysFewest 86 = .ok (.goto (-27), 3) := by decide +kernel
theorem dX12_laysFewest_89 : decode cX12_laysFewest 89 = .ok (.sipush 2040, 3) := by decide +kernel
theorem dX12_laysFewest_92 : decode cX12_laysFewest 92 = .ok (.iload_n 3, 1) := by decide +kernel
theorem dX12_laysFewest_93 : decode cX12_laysFewest 93 = .ok (.isub, 1) := by decide +kernel
theorem dX12_laysFewest_94 : decode cX12_laysFewest 94 = .ok (.istore 6, 2) := by decide +kernel
theorem dX12_laysFewest_96 : decode cX12_laysFewest 96 = .ok (.iload 6, 2) := by decide +kernel
theorem dX12_laysFewest_98 : decode cX12_laysFewest 98 = .ok (.sipush 2040, 3) := by decide +kernel
theorem dX12_laysFewest_101 : decode cX12_laysFewest 101 = .ok (.iload_n 3, 1) := by decide +kernel
theorem dX12_laysFewest_102 : decode cX12_laysFewest 102 = .ok (.iadd, 1) := by decide +kernel
theorem dX12_laysFewest_103 : decode cX12_laysFewest 103 = .ok (.if_icmp .gt 77, 3) := by decide +kernel
theorem dX12_laysFewest_106 : decode cX12_laysFewest 106 = .ok (.aload_n 0, 1) := by decide +kernel
theorem dX12_laysFewest_107 : decode cX12_laysFewest 107 = .ok (.getfield 89, 3) := by decide +kernel
theorem dX12_laysFewest_110 : decode cX12_laysFewest 110 = .ok (.iload 6, 2) := by decide +kernel
theorem dX12_laysFewest_112 : decode cX12_laysFewest 112 = .ok (.iload 5, 2) := by decide +kernel
theorem dX12_laysFewest_114 : decode cX12_laysFewest 114 = .ok (.iadd, 1) := by decide +kernel
theorem dX12_laysFewest_115 : decode cX12_laysFewest 115 = .ok (.aload_n 0, 1) := by decide +kernel
theorem dX12_laysFewest_116 : decode cX12_laysFewest 116 = .ok (.getfield 89, 3) := by decide +kernel
theorem dX12_laysFewest_119 : decode cX12_laysFewest 119 = .ok (.iload 6, 2) := by decide +kernel
theorem dX12_laysFewest_121 : decode cX12_laysFewest 121 = .ok (.iload 5, 2) := by decide +kernel
theorem dX12_laysFewest_123 : decode cX12_laysFewest 123 = .ok (.iadd, 1) := by decide +kernel
theorem dX12_laysFewest_124 : decode cX12_laysFewest 124 = .ok (.iaload, 1) := by decide +kernel
theorem dX12_laysFewest_125 : decode cX12_laysFewest 125 = .ok (.aload_n 0, 1) := by decide +kernel
theorem dX12_laysFewest_126 : decode cX12_laysFewest 126 = .ok (.getfield 92, 3) := by decide +kernel
theorem dX12_laysFewest_129 : decode cX12_laysFewest 129 = .ok (.iload 6, 2) := by decide +kernel
theorem dX12_laysFewest_131 : decode cX12_laysFewest 131 = .ok (.iaload, 1) := by decide +kernel
theorem dX12_laysFewest_132 : decode cX12_laysFewest 132 = .ok (.iconst 1, 1) := by decide +kernel
theorem dX12_laysFewest_133 : decode cX12_laysFewest 133 = .ok (.iadd, 1) := by decide +kernel
theorem dX12_laysFewest_134 : decode cX12_laysFewest 134 = .ok (.invokestatic 249, 3) := by decide +kernel
theorem dX12_laysFewest_137 : decode cX12_laysFewest 137 = .ok (.iastore, 1) := by decide +kernel
theorem dX12_laysFewest_138 : decode cX12_laysFewest 138 = .ok (.iload_n 2, 1) := by decide +kernel
theorem dX12_laysFewest_139 : decode cX12_laysFewest 139 = .ok (.ifCond .eq 35, 3) := by decide +kernel
theorem dX12_laysFewest_142 : decode cX12_laysFewest 142 = .ok (.aload_n 0, 1) := by decide +kernel
theorem dX12_laysFewest_143 : decode cX12_laysFewest 143 = .ok (.getfield 89, 3) := by decide +kernel
theorem dX12_laysFewest_146 : decode cX12_laysFewest 146 = .ok (.iload 6, 2) := by decide +kernel
theorem dX12_laysFewest_148 : decode cX12_laysFewest 148 = .ok (.iload 5, 2) := by decide +kernel
theorem dX12_laysFewest_150 : decode cX12_laysFewest 150 = .ok (.isub, 1) := by decide +kernel
theorem dX12_laysFewest_151 : decode cX12_laysFewest 151 = .ok (.aload_n 0, 1) := by decide +kernel
theorem dX12_laysFewest_152 : decode cX12_laysFewest 152 = .ok (.getfield 89, 3) := by decide +kernel
theorem dX12_laysFewest_155 : decode cX12_laysFewest 155 = .ok (.iload 6, 2) := by decide +kernel
theorem dX12_laysFewest_157 : decode cX12_laysFewest 157 = .ok (.iload 5, 2) := by decide +kernel
theorem dX12_laysFewest_159 : decode cX12_laysFewest 159 = .ok (.isub, 1) := by decide +kernel
theorem dX12_laysFewest_160 : decode cX12_laysFewest 160 = .ok (.iaload, 1) := by decide +kernel
theorem dX12_laysFewest_161 : decode cX12_laysFewest 161 = .ok (.aload_n 0, 1) := by decide +kernel
theorem dX12_laysFewest_162 : decode cX12_laysFewest 162 = .ok (.getfield 92, 3) := by decide +kernel
theorem dX12_laysFewest_165 : decode cX12_laysFewest 165 = .ok (.iload 6, 2) := by decide +kernel
theorem dX12_laysFewest_167 : decode cX12_laysFewest 167 = .ok (.iaload, 1) := by decide +kernel
theorem dX12_laysFewest_168 : decode cX12_laysFewest 168 = .ok (.iconst 1, 1) := by decide +kernel
theorem dX12_laysFewest_169 : decode cX12_laysFewest 169 = .ok (.iadd, 1) := by decide +kernel
theorem dX12_laysFewest_170 : decode cX12_laysFewest 170 = .ok (.invokestatic 249, 3) := by decide +kernel
theorem dX12_laysFewest_173 : decode cX12_laysFewest 173 = .ok (.iastore, 1) := by decide +kernel
theorem dX12_laysFewest_174 : decode cX12_laysFewest 174 = .ok (.iinc 6 1, 3) := by decide +kernel
theorem dX12_laysFewest_177 : decode cX12_laysFewest 177 = .ok (.goto (-81), 3) := by decide +kernel
theorem dX12_laysFewest_180 : decode cX12_laysFewest 180 = .ok (.iload_n 3, 1) := by decide +kernel
theorem dX12_laysFewest_181 : decode cX12_laysFewest 181 = .ok (.iload 5, 2) := by decide +kernel
theorem dX12_laysFewest_183 : decode cX12_laysFewest 183 = .ok (.iadd, 1) := by decide +kernel
theorem dX12_laysFewest_184 : decode cX12_laysFewest 184 = .ok (.istore_n 3, 1) := by decide +kernel
theorem dX12_laysFewest_185 : decode cX12_laysFewest 185 = .ok (.iinc 4 1, 3) := by decide +kernel
theorem dX12_laysFewest_188 : decode cX12_laysFewest 188 = .ok (.goto (-150), 3) := by decide +kernel
theorem dX12_laysFewest_191 : decode cX12_laysFewest 191 = .ok (.return_, 1) := by decide +kernel
set_option maxRecDepth 20000 in
theorem ggX12_stones_X12_in : GoodIn wsX12_stones wsX12_in := goodIn_r _ [7] (by decide +kernel) (by decide +kernel)
set_option maxRecDepth 20000 in
theorem gX12_stones_X12_in : GoodIn wsX12_stones (va_wsS RX12 105 yX12_in wsX12_in) := goodIn_app (goodIn_of _ (by decide +kernel)) ggX12_stones_X12_in
set_option maxRecDepth 20000 in
theorem ggX12_stones_X12_areAll : GoodIn wsX12_stones wsX12_areAll := goodIn_r _ [11, 12, 13, 14, 6, 15, 16, 25, 26, 27, 28, 29, 30, 31, 32, 33, 34, 35, 36, 37, 38, 39, 40, 41, 42, 43, 44, 45, 46, 47, 48, 49, 50, 51, 52, 53, 54, 55, 56, 57, 58, 59, 60, 61, 62, 63, 64, 65, 66, 67, 68, 69, 70, 71, 72, 73, 74, 75, 76] (by decide +kernel) (by decide +kernel)
set_option maxRecDepth 20000 in
theorem gX12_stones_X12_areAll : GoodIn wsX12_stones (wsV RX12 365 RX12 yX12_areAll wsX12_areAll) := goodIn_app (goodIn_of _ (by decide +kernel)) ggX12_stones_X12_areAll
set_option maxRecDepth 20000 in
theorem ggX12_stones_X12_laysFewest : GoodIn wsX12_stones wsX12_laysFewest := goodIn_r _ [20, 2, 3, 21, 12, 13, 14, 6, 15, 16, 22, 23, 24, 25, 26, 27, 28, 29, 30, 31, 32, 33, 34, 35, 36, 37, 38, 39, 40, 41, 42, 43, 44, 45, 46, 47, 48, 49, 50, 51, 52, 53, 54, 55, 56, 57, 58, 59, 60, 61, 62, 63, 64, 65, 66, 67, 68, 69, 70, 71, 72, 73, 74, 75, 76] (by decide +kernel) (by decide +kernel)
set_option maxRecDepth 20000 in
theorem gX12_stones_X12_laysFewest : GoodIn wsX12_stones (wsV RX12 368 RX12 yX12_laysFewest wsX12_laysFewest) := goodIn_app (goodIn_of _ (by decide +kernel)) ggX12_stones_X12_laysFewest
theorem dX12_stones_0 : decode cX12_stones 0 = .ok (.iload_n 1, 1) := by decide +kernel
theorem dX12_stones_1 : decode cX12_stones 1 = .ok (.iconst 1, 1) := by decide +kernel
theorem dX12_stones_2 : decode cX12_stones 2 = .ok (.bipush 8, 2) := by decide +kernel
theorem dX12_stones_4 : decode cX12_stones 4 = .ok (.invokestatic 105, 3) := by decide +kernel
theorem dX12_stones_7 : decode cX12_stones 7 = .ok (.ifCond .eq 11, 3) := by decide +kernel
theorem dX12_stones_10 : decode cX12_stones 10 = .ok (.iload_n 1, 1) := by decide +kernel
theorem dX12_stones_11 : decode cX12_stones 11 = .ok (.aload_n 0, 1) := by decide +kernel
theorem dX12_stones_12 : decode cX12_stones 12 = .ok (.getfield 119, 3) := by decide +kernel
theorem dX12_stones_15 : decode cX12_stones 15 = .ok (.if_icmp .le 5, 3) := by decide +kernel
theorem dX12_stones_18 : decode cX12_stones 18 = .ok (.iconst (-1), 1) := by decide +kernel
theorem dX12_stones_19 : decode cX12_stones 19 = .ok (.ireturn, 1) := by decide +kernel
theorem dX12_stones_20 : decode cX12_stones 20 = .ok (.aload_n 0, 1) := by decide +kernel
theorem dX12_stones_21 : decode cX12_stones 21 = .ok (.iconst 0, 1) := by decide +kernel
theorem dX12_stones_22 : decode cX12_stones 22 = .ok (.putfield 119, 3) := by decide +kernel
theorem dX12_stones_25 : decode cX12_stones 25 = .ok (.aload_n 0, 1) := by decide +kernel
theorem dX12_stones_26 : decode cX12_stones 26 = .ok (.iload_n 1, 1) := by decide +kernel
theorem dX12_stones_27 : decode cX12_stones 27 = .ok (.invokevirtual 365, 3) := by decide +kernel
theorem dX12_stones_30 : decode cX12_stones 30 = .ok (.ifCond .ne 6, 3) := by decide +kernel
theorem dX12_stones_33 : decode cX12_stones 33 = .ok (.bipush (-2), 2) := by decide +kernel
theorem dX12_stones_35 : decode cX12_stones 35 = .ok (.ireturn, 1) := by decide +kernel
theorem dX12_stones_36 : decode cX12_stones 36 = .ok (.aload_n 0, 1) := by decide +kernel
theorem dX12_stones_37 : decode cX12_stones 37 = .ok (.iload_n 1, 1) := by decide +kernel
theorem dX12_stones_38 : decode cX12_stones 38 = .ok (.iload_n 2, 1) := by decide +kernel
theorem dX12_stones_39 : decode cX12_stones 39 = .ok (.invokevirtual 368, 3) := by decide +kernel
theorem dX12_stones_42 : decode cX12_stones 42 = .ok (.iconst 0, 1) := by decide +kernel
theorem dX12_stones_43 : decode cX12_stones 43 = .ok (.istore_n 3, 1) := by decide +kernel
theorem dX12_stones_44 : decode cX12_stones 44 = .ok (.iload_n 3, 1) := by decide +kernel
theorem dX12_stones_45 : decode cX12_stones 45 = .ok (.sipush 2040, 3) := by decide +kernel
theorem dX12_stones_48 : decode cX12_stones 48 = .ok (.if_icmp .ge 28, 3) := by decide +kernel
theorem dX12_stones_51 : decode cX12_stones 51 = .ok (.aload_n 0, 1) := by decide +kernel
theorem dX12_stones_52 : decode cX12_stones 52 = .ok (.getfield 89, 3) := by decide +kernel
theorem dX12_stones_55 : decode cX12_stones 55 = .ok (.sipush 2040, 3) := by decide +kernel
theorem dX12_stones_58 : decode cX12_stones 58 = .ok (.iload_n 3, 1) := by decide +kernel
theorem dX12_stones_59 : decode cX12_stones 59 = .ok (.iadd, 1) := by decide +kernel
theorem dX12_stones_60 : decode cX12_stones 60 = .ok (.iconst 1, 1) := by decide +kernel
theorem dX12_stones_61 : decode cX12_stones 61 = .ok (.iadd, 1) := by decide +kernel
theorem dX12_stones_62 : decode cX12_stones 62 = .ok (.iaload, 1) := by decide +kernel
theorem dX12_stones_63 : decode cX12_stones 63 = .ok (.ldc_w 360, 3) := by decide +kernel
theorem dX12_stones_66 : decode cX12_stones 66 = .ok (.if_icmp .ge 10, 3) := by decide +kernel
theorem dX12_stones_69 : decode cX12_stones 69 = .ok (.iload_n 3, 1) := by decide +kernel
theorem dX12_stones_70 : decode cX12_stones 70 = .ok (.iconst 1, 1) := by decide +kernel
theorem dX12_stones_71 : decode cX12_stones 71 = .ok (.iadd, 1) := by decide +kernel
theorem dX12_stones_72 : decode cX12_stones 72 = .ok (.istore_n 3, 1) := by decide +kernel
theorem dX12_stones_73 : decode cX12_stones 73 = .ok (.goto (-29), 3) := by decide +kernel
theorem dX12_stones_76 : decode cX12_stones 76 = .ok (.iload_n 3, 1) := by decide +kernel
theorem dX12_stones_77 : decode cX12_stones 77 = .ok (.ireturn, 1) := by decide +kernel
set_option maxRecDepth 20000 in
theorem ggX12_fewest_X12_in : GoodIn wsX12_fewest wsX12_in := goodIn_r _ [7] (by decide +kernel) (by decide +kernel)
set_option maxRecDepth 20000 in
theorem gX12_fewest_X12_in : GoodIn wsX12_fewest (va_wsS RX12 105 yX12_in wsX12_in) := goodIn_app (goodIn_of _ (by decide +kernel)) ggX12_fewest_X12_in
set_option maxRecDepth 20000 in
theorem ggX12_fewest_X12_areAll : GoodIn wsX12_fewest wsX12_areAll := goodIn_r _ [11, 12, 13, 14, 6, 15, 16, 25, 26, 27, 28, 29, 30, 31, 32, 33, 34, 35, 36, 37, 38, 39, 40, 41, 42, 43, 44, 45, 46, 47, 48, 49, 50, 51, 52, 53, 54, 55, 56, 57, 58, 59, 60, 61, 62, 63, 64, 65, 66, 67, 68, 69, 70, 71, 72, 73, 74, 75, 76] (by decide +kernel) (by decide +kernel)
set_option maxRecDepth 20000 in
theorem gX12_fewest_X12_areAll : GoodIn wsX12_fewest (wsV RX12 365 RX12 yX12_areAll wsX12_areAll) := goodIn_app (goodIn_of _ (by decide +kernel)) ggX12_fewest_X12_areAll
set_option maxRecDepth 20000 in
theorem ggX12_fewest_X12_laysFewest : GoodIn wsX12_fewest wsX12_laysFewest := goodIn_r _ [20, 2, 3, 21, 12, 13, 14, 6, 15, 16, 22, 23, 24, 25, 26, 27, 28, 29, 30, 31, 32, 33, 34, 35, 36, 37, 38, 39, 40, 41, 42, 43, 44, 45, 46, 47, 48, 49, 50, 51, 52, 53, 54, 55, 56, 57, 58, 59, 60, 61, 62, 63, 64, 65, 66, 67, 68, 69, 70, 71, 72, 73, 74, 75, 76] (by decide +kernel) (by decide +kernel)
set_option maxRecDepth 20000 in
theorem gX12_fewest_X12_laysFewest : GoodIn wsX12_fewest (wsV RX12 368 RX12 yX12_laysFewest wsX12_laysFewest) := goodIn_app (goodIn_of _ (by decide +kernel)) ggX12_fewest_X12_laysFewest
theorem dX12_fewest_0 : decode cX12_fewest 0 = .ok (.iload_n 1, 1) := by decide +kernel
theorem dX12_fewest_1 : decode cX12_fewest 1 = .ok (.iconst 1, 1) := by decide +kernel
theorem dX12_fewest_2 : decode cX12_fewest 2 = .ok (.bipush 8, 2) := by decide +kernel
theorem dX12_fewest_4 : decode cX12_fewest 4 = .ok (.invokestatic 105, 3) := by decide +kernel
theorem dX12_fewest_7 : decode cX12_fewest 7 = .ok (.ifCond .eq 22, 3) := by decide +kernel
theorem dX12_fewest_10 : decode cX12_fewest 10 = .ok (.iload_n 2, 1) := by decide +kernel
theorem dX12_fewest_11 : decode cX12_fewest 11 = .ok (.iconst 1, 1) := by decide +kernel
theorem dX12_fewest_12 : decode cX12_fewest 12 = .ok (.sipush 2040, 3) := by decide +kernel
theorem dX12_fewest_15 : decode cX12_fewest 15 = .ok (.invokestatic 105, 3) := by decide +kernel
theorem dX12_fewest_18 : decode cX12_fewest 18 = .ok (.ifCond .eq 11, 3) := by decide +kernel
theorem dX12_fewest_21 : decode cX12_fewest 21 = .ok (.iload_n 1, 1) := by decide +kernel
theorem dX12_fewest_22 : decode cX12_fewest 22 = .ok (.aload_n 0, 1) := by decide +kernel
theorem dX12_fewest_23 : decode cX12_fewest 23 = .ok (.getfield 119, 3) := by decide +kernel
theorem dX12_fewest_26 : decode cX12_fewest 26 = .ok (.if_icmp .le 5, 3) := by decide +kernel
theorem dX12_fewest_29 : decode cX12_fewest 29 = .ok (.iconst (-1), 1) := by decide +kernel
theorem dX12_fewest_30 : decode cX12_fewest 30 = .ok (.ireturn, 1) := by decide +kernel
theorem dX12_fewest_31 : decode cX12_fewest 31 = .ok (.aload_n 0, 1) := by decide +kernel
theorem dX12_fewest_32 : decode cX12_fewest 32 = .ok (.iconst 0, 1) := by decide +kernel
theorem dX12_fewest_33 : decode cX12_fewest 33 = .ok (.putfield 119, 3) := by decide +kernel
theorem dX12_fewest_36 : decode cX12_fewest 36 = .ok (.aload_n 0, 1) := by decide +kernel
theorem dX12_fewest_37 : decode cX12_fewest 37 = .ok (.iload_n 1, 1) := by decide +kernel
theorem dX12_fewest_38 : decode cX12_fewest 38 = .ok (.invokevirtual 365, 3) := by decide +kernel
theorem dX12_fewest_41 : decode cX12_fewest 41 = .ok (.ifCond .ne 6, 3) := by decide +kernel
theorem dX12_fewest_44 : decode cX12_fewest 44 = .ok (.bipush (-3), 2) := by decide +kernel
theorem dX12_fewest_46 : decode cX12_fewest 46 = .ok (.ireturn, 1) := by decide +kernel
theorem dX12_fewest_47 : decode cX12_fewest 47 = .ok (.aload_n 0, 1) := by decide +kernel
theorem dX12_fewest_48 : decode cX12_fewest 48 = .ok (.iload_n 1, 1) := by decide +kernel
theorem dX12_fewest_49 : decode cX12_fewest 49 = .ok (.iconst 1, 1) := by decide +kernel
theorem dX12_fewest_50 : decode cX12_fewest 50 = .ok (.invokevirtual 368, 3) := by decide +kernel
theorem dX12_fewest_53 : decode cX12_fewest 53 = .ok (.aload_n 0, 1) := by decide +kernel
theorem dX12_fewest_54 : decode cX12_fewest 54 = .ok (.getfield 89, 3) := by decide +kernel
theorem dX12_fewest_57 : decode cX12_fewest 57 = .ok (.sipush 2040, 3) := by decide +kernel
theorem dX12_fewest_60 : decode cX12_fewest 60 = .ok (.iload_n 2, 1) := by decide +kernel
theorem dX12_fewest_61 : decode cX12_fewest 61 = .ok (.iadd, 1) := by decide +kernel
theorem dX12_fewest_62 : decode cX12_fewest 62 = .ok (.iaload, 1) := by decide +kernel
theorem dX12_fewest_63 : decode cX12_fewest 63 = .ok (.ldc_w 360, 3) := by decide +kernel
theorem dX12_fewest_66 : decode cX12_fewest 66 = .ok (.if_icmp .lt 8, 3) := by decide +kernel
theorem dX12_fewest_69 : decode cX12_fewest 69 = .ok (.bipush (-2), 2) := by decide +kernel
theorem dX12_fewest_71 : decode cX12_fewest 71 = .ok (.goto 13, 3) := by decide +kernel
theorem dX12_fewest_74 : decode cX12_fewest 74 = .ok (.aload_n 0, 1) := by decide +kernel
theorem dX12_fewest_75 : decode cX12_fewest 75 = .ok (.getfield 89, 3) := by decide +kernel
theorem dX12_fewest_78 : decode cX12_fewest 78 = .ok (.sipush 2040, 3) := by decide +kernel
theorem dX12_fewest_81 : decode cX12_fewest 81 = .ok (.iload_n 2, 1) := by decide +kernel
theorem dX12_fewest_82 : decode cX12_fewest 82 = .ok (.iadd, 1) := by decide +kernel
theorem dX12_fewest_83 : decode cX12_fewest 83 = .ok (.iaload, 1) := by decide +kernel
theorem dX12_fewest_84 : decode cX12_fewest 84 = .ok (.ireturn, 1) := by decide +kernel
theorem dX12_armOf_0 : decode cX12_armOf 0 = .ok (.iload_n 0, 1) := by decide +kernel
theorem dX12_armOf_1 : decode cX12_armOf 1 = .ok (.iconst 5, 1) := by decide +kernel
theorem dX12_armOf_2 : decode cX12_armOf 2 = .ok (.if_icmp .ge 9, 3) := by decide +kernel
theorem dX12_armOf_5 : decode cX12_armOf 5 = .ok (.iconst (-1), 1) := by decide +kernel
theorem dX12_armOf_6 : decode cX12_armOf 6 = .ok (.iload_n 0, 1) := by decide +kernel
theorem dX12_armOf_7 : decode cX12_armOf 7 = .ok (.isub, 1) := by decide +kernel
theorem dX12_armOf_8 : decode cX12_armOf 8 = .ok (.goto 6, 3) := by decide +kernel
theorem dX12_armOf_11 : decode cX12_armOf 11 = .ok (.iload_n 0, 1) := by decide +kernel
theorem dX12_armOf_12 : decode cX12_armOf 12 = .ok (.iconst 4, 1) := by decide +kernel
theorem dX12_armOf_13 : decode cX12_armOf 13 = .ok (.isub, 1) := by decide +kernel
theorem dX12_armOf_14 : decode cX12_armOf 14 = .ok (.ireturn, 1) := by decide +kernel
set_option maxRecDepth 20000 in
theorem ggX12_tiltOf_X12_has : GoodIn wsX12_tiltOf wsX12_has := goodIn_r _ [6] (by decide +kernel) (by decide +kernel)
set_option maxRecDepth 20000 in
theorem gX12_tiltOf_X12_has : GoodIn wsX12_tiltOf (va_wsS RX12 308 yX12_has wsX12_has) := goodIn_app (goodIn_of _ (by decide +kernel)) ggX12_tiltOf_X12_has
set_option maxRecDepth 20000 in
theorem ggX12_tiltOf_X12_octet : GoodIn wsX12_tiltOf wsX12_octet := goodIn_r _ [10, 11, 18, 19, 20, 21, 22, 23, 24, 25, 26, 27, 28, 29, 30, 31, 32, 33, 34, 35, 36, 37, 38, 39, 40, 41, 42, 43, 44, 45, 46, 47, 48, 49, 50, 51, 52, 53, 54, 55, 56, 57, 58, 59, 60, 61, 62, 63, 64, 65, 66, 67, 68, 69] (by decide +kernel) (by decide +kernel)
set_option maxRecDepth 20000 in
theorem gX12_tiltOf_X12_octet : GoodIn wsX12_tiltOf (wsV RX12 362 RX12 yX12_octet wsX12_octet) := goodIn_app (goodIn_of _ (by decide +kernel)) ggX12_tiltOf_X12_octet
set_option maxRecDepth 20000 in
theorem ggX12_tiltOf_X12_armOf : GoodIn wsX12_tiltOf wsX12_armOf := goodIn_r _ [14] (by decide +kernel) (by decide +kernel)
set_option maxRecDepth 20000 in
theorem gX12_tiltOf_X12_armOf : GoodIn wsX12_tiltOf (va_wsS RX12 372 yX12_armOf wsX12_armOf) := goodIn_app (goodIn_of _ (by decide +kernel)) ggX12_tiltOf_X12_armOf
set_option maxRecDepth 20000 in
theorem ggX12_tiltOf_X12_size : GoodIn wsX12_tiltOf wsX12_size := goodIn_r _ [17] (by decide +kernel) (by decide +kernel)
set_option maxRecDepth 20000 in
theorem gX12_tiltOf_X12_size : GoodIn wsX12_tiltOf (va_wsS RX12 314 yX12_size wsX12_size) := goodIn_app (goodIn_of _ (by decide +kernel)) ggX12_tiltOf_X12_size
theorem dX12_tiltOf_0 : decode cX12_tiltOf 0 = .ok (.iconst 0, 1) := by decide +kernel
theorem dX12_tiltOf_1 : decode cX12_tiltOf 1 = .ok (.istore_n 2, 1) := by decide +kernel
theorem dX12_tiltOf_2 : decode cX12_tiltOf 2 = .ok (.iconst 0, 1) := by decide +kernel
theorem dX12_tiltOf_3 : decode cX12_tiltOf 3 = .ok (.istore_n 3, 1) := by decide +kernel
theorem dX12_tiltOf_4 : decode cX12_tiltOf 4 = .ok (.iconst 0, 1) := by decide +kernel
theorem dX12_tiltOf_5 : decode cX12_tiltOf 5 = .ok (.istore 4, 2) := by decide +kernel
theorem dX12_tiltOf_7 : decode cX12_tiltOf 7 = .ok (.iload 4, 2) := by decide +kernel
theorem dX12_tiltOf_9 : decode cX12_tiltOf 9 = .ok (.iload_n 1, 1) := by decide +kernel
theorem dX12_tiltOf_10 : decode cX12_tiltOf 10 = .ok (.if_icmp .ge 59, 3) := by decide +kernel
theorem dX12_tiltOf_13 : decode cX12_tiltOf 13 = .ok (.iload_n 3, 1) := by decide +kernel
theorem dX12_tiltOf_14 : decode cX12_tiltOf 14 = .ok (.aload_n 0, 1) := by decide +kernel
theorem dX12_tiltOf_15 : decode cX12_tiltOf 15 = .ok (.getfield 95, 3) := by decide +kernel
theorem dX12_tiltOf_18 : decode cX12_tiltOf 18 = .ok (.iload 4, 2) := by decide +kernel
theorem dX12_tiltOf_20 : decode cX12_tiltOf 20 = .ok (.iaload, 1) := by decide +kernel
theorem dX12_tiltOf_21 : decode cX12_tiltOf 21 = .ok (.invokestatic 308, 3) := by decide +kernel
theorem dX12_tiltOf_24 : decode cX12_tiltOf 24 = .ok (.ifCond .eq 7, 3) := by decide +kernel
theorem dX12_tiltOf_27 : decode cX12_tiltOf 27 = .ok (.ldc_w 360, 3) := by decide +kernel
theorem dX12_tiltOf_30 : decode cX12_tiltOf 30 = .ok (.ireturn, 1) := by decide +kernel
theorem dX12_tiltOf_31 : decode cX12_tiltOf 31 = .ok (.iload_n 3, 1) := by decide +kernel
theorem dX12_tiltOf_32 : decode cX12_tiltOf 32 = .ok (.iconst 1, 1) := by decide +kernel
theorem dX12_tiltOf_33 : decode cX12_tiltOf 33 = .ok (.aload_n 0, 1) := by decide +kernel
theorem dX12_tiltOf_34 : decode cX12_tiltOf 34 = .ok (.getfield 95, 3) := by decide +kernel
theorem dX12_tiltOf_37 : decode cX12_tiltOf 37 = .ok (.iload 4, 2) := by decide +kernel
theorem dX12_tiltOf_39 : decode cX12_tiltOf 39 = .ok (.iaload, 1) := by decide +kernel
theorem dX12_tiltOf_40 : decode cX12_tiltOf 40 = .ok (.ishl, 1) := by decide +kernel
theorem dX12_tiltOf_41 : decode cX12_tiltOf 41 = .ok (.ior, 1) := by decide +kernel
theorem dX12_tiltOf_42 : decode cX12_tiltOf 42 = .ok (.istore_n 3, 1) := by decide +kernel
theorem dX12_tiltOf_43 : decode cX12_tiltOf 43 = .ok (.iload_n 2, 1) := by decide +kernel
theorem dX12_tiltOf_44 : decode cX12_tiltOf 44 = .ok (.aload_n 0, 1) := by decide +kernel
theorem dX12_tiltOf_45 : decode cX12_tiltOf 45 = .ok (.iload 4, 2) := by decide +kernel
theorem dX12_tiltOf_47 : decode cX12_tiltOf 47 = .ok (.invokevirtual 362, 3) := by decide +kernel
theorem dX12_tiltOf_50 : decode cX12_tiltOf 50 = .ok (.aload_n 0, 1) := by decide +kernel
theorem dX12_tiltOf_51 : decode cX12_tiltOf 51 = .ok (.getfield 95, 3) := by decide +kernel
theorem dX12_tiltOf_54 : decode cX12_tiltOf 54 = .ok (.iload 4, 2) := by decide +kernel
theorem dX12_tiltOf_56 : decode cX12_tiltOf 56 = .ok (.iaload, 1) := by decide +kernel
theorem dX12_tiltOf_57 : decode cX12_tiltOf 57 = .ok (.invokestatic 372, 3) := by decide +kernel
theorem dX12_tiltOf_60 : decode cX12_tiltOf 60 = .ok (.imul, 1) := by decide +kernel
theorem dX12_tiltOf_61 : decode cX12_tiltOf 61 = .ok (.iadd, 1) := by decide +kernel
theorem dX12_tiltOf_62 : decode cX12_tiltOf 62 = .ok (.istore_n 2, 1) := by decide +kernel
theorem dX12_tiltOf_63 : decode cX12_tiltOf 63 = .ok (.iinc 4 1, 3) := by decide +kernel
theorem dX12_tiltOf_66 : decode cX12_tiltOf 66 = .ok (.goto (-59), 3) := by decide +kernel
theorem dX12_tiltOf_69 : decode cX12_tiltOf 69 = .ok (.iload_n 2, 1) := by decide +kernel
theorem dX12_tiltOf_70 : decode cX12_tiltOf 70 = .ok (.invokestatic 314, 3) := by decide +kernel
theorem dX12_tiltOf_73 : decode cX12_tiltOf 73 = .ok (.ireturn, 1) := by decide +kernel
set_option maxRecDepth 20000 in
theorem ggX12_seesaw_X12_in : GoodIn wsX12_seesaw wsX12_in := goodIn_r _ [7] (by decide +kernel) (by decide +kernel)
set_option maxRecDepth 20000 in
theorem gX12_seesaw_X12_in : GoodIn wsX12_seesaw (va_wsS RX12 105 yX12_in wsX12_in) := goodIn_app (goodIn_of _ (by decide +kernel)) ggX12_seesaw_X12_in
set_option maxRecDepth 20000 in
theorem ggX12_seesaw_X12_areAll : GoodIn wsX12_seesaw wsX12_areAll := goodIn_r _ [11, 12, 13, 14, 6, 15, 16, 33, 34, 35, 36, 37, 38, 39, 40, 41, 42, 43, 44, 45, 46, 47, 48, 49, 50, 51, 52, 53, 54, 55, 56, 57, 58, 59, 60, 61, 62, 63, 64, 65, 66, 67, 68, 69, 70, 71, 72, 73, 74, 75, 76, 77, 78, 79, 80, 81, 82, 83, 84] (by decide +kernel) (by decide +kernel)
set_option maxRecDepth 20000 in
theorem gX12_seesaw_X12_areAll : GoodIn wsX12_seesaw (wsV RX12 365 RX12 yX12_areAll wsX12_areAll) := goodIn_app (goodIn_of _ (by decide +kernel)) ggX12_seesaw_X12_areAll
set_option maxRecDepth 20000 in
theorem ggX12_seesaw_X12_tiltOf : GoodIn wsX12_seesaw wsX12_tiltOf := goodIn_r _ [20, 3, 2, 21, 22, 6, 23, 12, 13, 14, 15, 16, 24, 25, 26, 27, 28, 29, 33, 34, 35, 36, 37, 38, 39, 40, 41, 42, 43, 44, 45, 46, 47, 48, 49, 50, 51, 52, 53, 54, 55, 56, 57, 58, 59, 60, 61, 62, 63, 64, 65, 66, 67, 68, 69, 70, 71, 72, 73, 74, 75, 76, 77, 78, 79, 80, 81, 82, 83, 84] (by decide +kernel) (by decide +kernel)
set_option maxRecDepth 20000 in
theorem gX12_seesaw_X12_tiltOf : GoodIn wsX12_seesaw (wsV RX12 375 RX12 yX12_tiltOf wsX12_tiltOf) := goodIn_app (goodIn_of _ (by decide +kernel)) ggX12_seesaw_X12_tiltOf
set_option maxRecDepth 20000 in
theorem ggX12_seesaw_X12_min : GoodIn wsX12_seesaw wsX12_min := goodIn_r _ [32] (by decide +kernel) (by decide +kernel)
set_option maxRecDepth 20000 in
theorem gX12_seesaw_X12_min : GoodIn wsX12_seesaw (va_wsS RX12 249 yX12_min wsX12_min) := goodIn_app (goodIn_of _ (by decide +kernel)) ggX12_seesaw_X12_min
theorem dX12_seesaw_0 : decode cX12_seesaw 0 = .ok (.iload_n 1, 1) := by decide +kernel
theorem dX12_seesaw_1 : decode cX12_seesaw 1 = .ok (.iconst 1, 1) := by decide +kernel
theorem dX12_seesaw_2 : decode cX12_seesaw 2 = .ok (.iconst 5, 1) := by decide +kernel
theorem dX12_seesaw_3 : decode cX12_seesaw 3 = .ok (.invokestatic 105, 3) := by decide +kernel
theorem dX12_seesaw_6 : decode cX12_seesaw 6 = .ok (.ifCond .eq 11, 3) := by decide +kernel
theorem dX12_seesaw_9 : decode cX12_seesaw 9 = .ok (.iload_n 1, 1) := by decide +kernel
theorem dX12_seesaw_10 : decode cX12_seesaw 10 = .ok (.aload_n 0, 1) := by decide +kernel
theorem dX12_seesaw_11 : decode cX12_seesaw 11 = .ok (.getfield 119, 3) := by decide +kernel
theorem dX12_seesaw_14 : decode cX12_seesaw 14 = .ok (.if_icmp .le 5, 3) := by decide +kernel
theorem dX12_seesaw_17 : decode cX12_seesaw 17 = .ok (.iconst (-1), 1) := by decide +kernel
theorem dX12_seesaw_18 : decode cX12_seesaw 18 = .ok (.ireturn, 1) := by decide +kernel
theorem dX12_seesaw_19 : decode cX12_seesaw 19 = .ok (.aload_n 0, 1) := by decide +kernel
theorem dX12_seesaw_20 : decode cX12_seesaw 20 = .ok (.iconst 0, 1) := by decide +kernel
theorem dX12_seesaw_21 : decode cX12_seesaw 21 = .ok (.putfield 119, 3) := by decide +kernel
theorem dX12_seesaw_24 : decode cX12_seesaw 24 = .ok (.aload_n 0, 1) := by decide +kernel
theorem dX12_seesaw_25 : decode cX12_seesaw 25 = .ok (.iload_n 1, 1) := by decide +kernel
theorem dX12_seesaw_26 : decode cX12_seesaw 26 = .ok (.invokevirtual 365, 3) := by decide +kernel
theorem dX12_seesaw_29 : decode cX12_seesaw 29 = .ok (.ifCond .ne 6, 3) := by decide +kernel
theorem dX12_seesaw_32 : decode cX12_seesaw 32 = .ok (.bipush (-2), 2) := by decide +kernel
theorem dX12_seesaw_34 : decode cX12_seesaw 34 = .ok (.ireturn, 1) := by decide +kernel
theorem dX12_seesaw_35 : decode cX12_seesaw 35 = .ok (.iconst 1, 1) := by decide +kernel
theorem dX12_seesaw_36 : decode cX12_seesaw 36 = .ok (.istore_n 2, 1) := by decide +kernel
theorem dX12_seesaw_37 : decode cX12_seesaw 37 = .ok (.iconst 0, 1) := by decide +kernel
theorem dX12_seesaw_38 : decode cX12_seesaw 38 = .ok (.istore_n 3, 1) := by decide +kernel
theorem dX12_seesaw_39 : decode cX12_seesaw 39 = .ok (.iload_n 3, 1) := by decide +kernel
theorem dX12_seesaw_40 : decode cX12_seesaw 40 = .ok (.iload_n 1, 1) := by decide +kernel
theorem dX12_seesaw_41 : decode cX12_seesaw 41 = .ok (.if_icmp .ge 14, 3) := by decide +kernel
theorem dX12_seesaw_44 : decode cX12_seesaw 44 = .ok (.iload_n 2, 1) := by decide +kernel
theorem dX12_seesaw_45 : decode cX12_seesaw 45 = .ok (.bipush 10, 2) := by decide +kernel
theorem dX12_seesaw_47 : decode cX12_seesaw 47 = .ok (.imul, 1) := by decide +kernel
theorem dX12_seesaw_48 : decode cX12_seesaw 48 = .ok (.istore_n 2, 1) := by decide +kernel
theorem dX12_seesaw_49 : decode cX12_seesaw 49 = .ok (.iinc 3 1, 3) := by decide +kernel
theorem dX12_seesaw_52 : decode cX12_seesaw 52 = .ok (.goto (-13), 3) := by decide +kernel
theorem dX12_seesaw_55 : decode cX12_seesaw 55 = .ok (.ldc_w 360, 3) := by decide +kernel
theorem dX12_seesaw_58 : decode cX12_seesaw 58 = .ok (.istore_n 3, 1) := by decide +kernel
theorem dX12_seesaw_59 : decode cX12_seesaw 59 = .ok (.iconst 0, 1) := by decide +kernel
theorem dX12_seesaw_60 : decode cX12_seesaw 60 = .ok (.istore 4, 2) := by decide +kernel
theorem dX12_seesaw_62 : decode cX12_seesaw 62 = .ok (.iload 4, 2) := by decide +kernel
theorem dX12_seesaw_64 : decode cX12_seesaw 64 = .ok (.iload_n 2, 1) := by decide +kernel
theorem dX12_seesaw_65 : decode cX12_seesaw 65 = .ok (.if_icmp .ge 57, 3) := by decide +kernel
theorem dX12_seesaw_68 : decode cX12_seesaw 68 = .ok (.iload 4, 2) := by decide +kernel
theorem dX12_seesaw_70 : decode cX12_seesaw 70 = .ok (.istore 5, 2) := by decide +kernel
theorem dX12_seesaw_72 : decode cX12_seesaw 72 = .ok (.iconst 0, 1) := by decide +kernel
theorem dX12_seesaw_73 : decode cX12_seesaw 73 = .ok (.istore 6, 2) := by decide +kernel
theorem dX12_seesaw_75 : decode cX12_seesaw 75 = .ok (.iload 6, 2) := by decide +kernel
theorem dX12_seesaw_77 : decode cX12_seesaw 77 = .ok (.iload_n 1, 1) := by decide +kernel
theorem dX12_seesaw_78 : decode cX12_seesaw 78 = .ok (.if_icmp .ge 28, 3) := by decide +kernel
theorem dX12_seesaw_81 : decode cX12_seesaw 81 = .ok (.aload_n 0, 1) := by decide +kernel
theorem dX12_seesaw_82 : decode cX12_seesaw 82 = .ok (.getfield 95, 3) := by decide +kernel
theorem dX12_seesaw_85 : decode cX12_seesaw 85 = .ok (.iload 6, 2) := by decide +kernel
theorem dX12_seesaw_87 : decode cX12_seesaw 87 = .ok (.iload 5, 2) := by decide +kernel
theorem dX12_seesaw_89 : decode cX12_seesaw 89 = .ok (.bipush 10, 2) := by decide +kernel
theorem dX12_seesaw_91 : decode cX12_seesaw 91 = .ok (.irem, 1) := by decide +kernel
theorem dX12_seesaw_92 : decode cX12_seesaw 92 = .ok (.iastore, 1) := by decide +kernel
theorem dX12_seesaw_93 : decode cX12_seesaw 93 = .ok (.iload 5, 2) := by decide +kernel
theorem dX12_seesaw_95 : decode cX12_seesaw 95 = .ok (.bipush 10, 2) := by decide +kernel
theorem dX12_seesaw_97 : decode cX12_seesaw 97 = .ok (.idiv, 1) := by decide +kernel
theorem dX12_seesaw_98 : decode cX12_seesaw 98 = .ok (.istore 5, 2) := by decide +kernel
theorem dX12_seesaw_100 : decode cX12_seesaw 100 = .ok (.iinc 6 1, 3) := by decide +kernel
theorem dX12_seesaw_103 : decode cX12_seesaw 103 = .ok (.goto (-28), 3) := by decide +kernel
theorem dX12_seesaw_106 : decode cX12_seesaw 106 = .ok (.iload_n 3, 1) := by decide +kernel
theorem dX12_seesaw_107 : decode cX12_seesaw 107 = .ok (.aload_n 0, 1) := by decide +kernel
theorem dX12_seesaw_108 : decode cX12_seesaw 108 = .ok (.iload_n 1, 1) := by decide +kernel
theorem dX12_seesaw_109 : decode cX12_seesaw 109 = .ok (.invokevirtual 375, 3) := by decide +kernel
theorem dX12_seesaw_112 : decode cX12_seesaw 112 = .ok (.invokestatic 249, 3) := by decide +kernel
theorem dX12_seesaw_115 : decode cX12_seesaw 115 = .ok (.istore_n 3, 1) := by decide +kernel
theorem dX12_seesaw_116 : decode cX12_seesaw 116 = .ok (.iinc 4 1, 3) := by decide +kernel
theorem dX12_seesaw_119 : decode cX12_seesaw 119 = .ok (.goto (-57), 3) := by decide +kernel
theorem dX12_seesaw_122 : decode cX12_seesaw 122 = .ok (.iload_n 3, 1) := by decide +kernel
theorem dX12_seesaw_123 : decode cX12_seesaw 123 = .ok (.ireturn, 1) := by decide +kernel
set_option maxRecDepth 20000 in
theorem ggX12_row_X12_in : GoodIn wsX12_row wsX12_in := goodIn_r _ [6] (by decide +kernel) (by decide +kernel)
set_option maxRecDepth 20000 in
theorem gX12_row_X12_in : GoodIn wsX12_row (va_wsS RX12 105 yX12_in wsX12_in) := goodIn_app (goodIn_of _ (by decide +kernel)) ggX12_row_X12_in
set_option maxRecDepth 20000 in
theorem ggX12_row_X12_octet : GoodIn wsX12_row wsX12_octet := goodIn_r _ [10, 11, 15, 16, 17, 18, 19, 20, 21, 22, 23, 24, 25, 26, 27, 28, 29, 30, 31, 32, 33, 34, 35, 36, 37, 38, 39, 40, 41, 42, 43, 44, 45, 46, 47, 48, 49, 50, 51, 52, 53, 54, 55, 56, 57, 58, 59, 60, 61, 62, 63, 64, 65, 66] (by decide +kernel) (by decide +kernel)
set_option maxRecDepth 20000 in
theorem gX12_row_X12_octet : GoodIn wsX12_row (wsV RX12 362 RX12 yX12_octet wsX12_octet) := goodIn_app (goodIn_of _ (by decide +kernel)) ggX12_row_X12_octet
set_option maxRecDepth 20000 in
theorem ggX12_row_X12_max : GoodIn wsX12_row wsX12_max := goodIn_r _ [14] (by decide +kernel) (by decide +kernel)
set_option maxRecDepth 20000 in
theorem gX12_row_X12_max : GoodIn wsX12_row (va_wsS RX12 252 yX12_max wsX12_max) := goodIn_app (goodIn_of _ (by decide +kernel)) ggX12_row_X12_max
theorem dX12_row_0 : decode cX12_row 0 = .ok (.iload_n 1, 1) := by decide +kernel
theorem dX12_row_1 : decode cX12_row 1 = .ok (.iconst 1, 1) := by decide +kernel
theorem dX12_row_2 : decode cX12_row 2 = .ok (.bipush 16, 2) := by decide +kernel
theorem dX12_row_4 : decode cX12_row 4 = .ok (.invokestatic 105, 3) := by decide +kernel
theorem dX12_row_7 : decode cX12_row 7 = .ok (.ifCond .eq 20, 3) := by decide +kernel
theorem dX12_row_10 : decode cX12_row 10 = .ok (.iload_n 2, 1) := by decide +kernel
theorem dX12_row_11 : decode cX12_row 11 = .ok (.iconst 0, 1) := by decide +kernel
theorem dX12_row_12 : decode cX12_row 12 = .ok (.iconst 1, 1) := by decide +kernel
theorem dX12_row_13 : decode cX12_row 13 = .ok (.invokestatic 105, 3) := by decide +kernel
theorem dX12_row_16 : decode cX12_row 16 = .ok (.ifCond .eq 11, 3) := by decide +kernel
theorem dX12_row_19 : decode cX12_row 19 = .ok (.iload_n 1, 1) := by decide +kernel
theorem dX12_row_20 : decode cX12_row 20 = .ok (.aload_n 0, 1) := by decide +kernel
theorem dX12_row_21 : decode cX12_row 21 = .ok (.getfield 119, 3) := by decide +kernel
theorem dX12_row_24 : decode cX12_row 24 = .ok (.if_icmp .le 5, 3) := by decide +kernel
theorem dX12_row_27 : decode cX12_row 27 = .ok (.iconst (-1), 1) := by decide +kernel
theorem dX12_row_28 : decode cX12_row 28 = .ok (.ireturn, 1) := by decide +kernel
theorem dX12_row_29 : decode cX12_row 29 = .ok (.aload_n 0, 1) := by decide +kernel
theorem dX12_row_30 : decode cX12_row 30 = .ok (.iconst 0, 1) := by decide +kernel
theorem dX12_row_31 : decode cX12_row 31 = .ok (.putfield 119, 3) := by decide +kernel
theorem dX12_row_34 : decode cX12_row 34 = .ok (.iconst 0, 1) := by decide +kernel
theorem dX12_row_35 : decode cX12_row 35 = .ok (.istore_n 3, 1) := by decide +kernel
theorem dX12_row_36 : decode cX12_row 36 = .ok (.iconst 0, 1) := by decide +kernel
theorem dX12_row_37 : decode cX12_row 37 = .ok (.istore 4, 2) := by decide +kernel
theorem dX12_row_39 : decode cX12_row 39 = .ok (.iconst 0, 1) := by decide +kernel
theorem dX12_row_40 : decode cX12_row 40 = .ok (.istore 5, 2) := by decide +kernel
theorem dX12_row_42 : decode cX12_row 42 = .ok (.iconst 0, 1) := by decide +kernel
theorem dX12_row_43 : decode cX12_row 43 = .ok (.istore 6, 2) := by decide +kernel
theorem dX12_row_45 : decode cX12_row 45 = .ok (.iload 6, 2) := by decide +kernel
theorem dX12_row_47 : decode cX12_row 47 = .ok (.iload_n 1, 1) := by decide +kernel
theorem dX12_row_48 : decode cX12_row 48 = .ok (.if_icmp .ge 127, 3) := by decide +kernel
theorem dX12_row_51 : decode cX12_row 51 = .ok (.aload_n 0, 1) := by decide +kernel
theorem dX12_row_52 : decode cX12_row 52 = .ok (.getfield 98, 3) := by decide +kernel
theorem dX12_row_55 : decode cX12_row 55 = .ok (.iload 6, 2) := by decide +kernel
theorem dX12_row_57 : decode cX12_row 57 = .ok (.iconst 1, 1) := by decide +kernel
theorem dX12_row_58 : decode cX12_row 58 = .ok (.iastore, 1) := by decide +kernel
theorem dX12_row_59 : decode cX12_row 59 = .ok (.iconst 0, 1) := by decide +kernel
theorem dX12_row_60 : decode cX12_row 60 = .ok (.istore 7, 2) := by decide +kernel
theorem dX12_row_62 : decode cX12_row 62 = .ok (.iload 7, 2) := by decide +kernel
theorem dX12_row_64 : decode cX12_row 64 = .ok (.iload 6, 2) := by decide +kernel
theorem dX12_row_66 : decode cX12_row 66 = .ok (.if_icmp .ge 50, 3) := by decide +kernel
theorem dX12_row_69 : decode cX12_row 69 = .ok (.aload_n 0, 1) := by decide +kernel
theorem dX12_row_70 : decode cX12_row 70 = .ok (.iload 7, 2) := by decide +kernel
theorem dX12_row_72 : decode cX12_row 72 = .ok (.invokevirtual 362, 3) := by decide +kernel
theorem dX12_row_75 : decode cX12_row 75 = .ok (.aload_n 0, 1) := by decide +kernel
theorem dX12_row_76 : decode cX12_row 76 = .ok (.iload 6, 2) := by decide +kernel
theorem dX12_row_78 : decode cX12_row 78 = .ok (.invokevirtual 362, 3) := by decide +kernel
theorem dX12_row_81 : decode cX12_row 81 = .ok (.if_icmp .gt 29, 3) := by decide +kernel
theorem dX12_row_84 : decode cX12_row 84 = .ok (.aload_n 0, 1) := by decide +kernel
theorem dX12_row_85 : decode cX12_row 85 = .ok (.getfield 98, 3) := by decide +kernel
theorem dX12_row_88 : decode cX12_row 88 = .ok (.iload 6, 2) := by decide +kernel
theorem dX12_row_90 : decode cX12_row 90 = .ok (.aload_n 0, 1) := by decide +kernel
theorem dX12_row_91 : decode cX12_row 91 = .ok (.getfield 98, 3) := by decide +kernel
theorem dX12_row_94 : decode cX12_row 94 = .ok (.iload 6, 2) := by decide +kernel
theorem dX12_row_96 : decode cX12_row 96 = .ok (.iaload, 1) := by decide +kernel
theorem dX12_row_97 : decode cX12_row 97 = .ok (.aload_n 0, 1) := by decide +kernel
theorem dX12_row_98 : decode cX12_row 98 = .ok (.getfield 98, 3) := by decide +kernel
theorem dX12_row_101 : decode cX12_row 101 = .ok (.iload 7, 2) := by decide +kernel
theorem dX12_row_103 : decode cX12_row 103 = .ok (.iaload, 1) := by decide +kernel
theorem dX12_row_104 : decode cX12_row 104 = .ok (.iconst 1, 1) := by decide +kernel
theorem dX12_row_105 : decode cX12_row 105 = .ok (.iadd, 1) := by decide +kernel
theorem dX12_row_106 : decode cX12_row 106 = .ok (.invokestatic 252, 3) := by decide +kernel
theorem dX12_row_109 : decode cX12_row 109 = .ok (.iastore, 1) := by decide +kernel
theorem dX12_row_110 : decode cX12_row 110 = .ok (.iinc 7 1, 3) := by decide +kernel
theorem dX12_row_113 : decode cX12_row 113 = .ok (.goto (-51), 3) := by decide +kernel
theorem dX12_row_116 : decode cX12_row 116 = .ok (.iload_n 3, 1) := by decide +kernel
theorem dX12_row_117 : decode cX12_row 117 = .ok (.aload_n 0, 1) := by decide +kernel
theorem dX12_row_118 : decode cX12_row 118 = .ok (.getfield 98, 3) := by decide +kernel
theorem dX12_row_121 : decode cX12_row 121 = .ok (.iload 6, 2) := by decide +kernel
theorem dX12_row_123 : decode cX12_row 123 = .ok (.iaload, 1) := by decide +kernel
theorem dX12_row_124 : decode cX12_row 124 = .ok (.invokestatic 252, 3) := by decide +kernel
theorem dX12_row_127 : decode cX12_row 127 = .ok (.istore_n 3, 1) := by decide +kernel
theorem dX12_row_128 : decode cX12_row 128 = .ok (.iload 6, 2) := by decide +kernel
theorem dX12_row_130 : decode cX12_row 130 = .ok (.ifCond .le 27, 3) := by decide +kernel
theorem dX12_row_133 : decode cX12_row 133 = .ok (.aload_n 0, 1) := by decide +kernel
theorem dX12_row_134 : decode cX12_row 134 = .ok (.iload 6, 2) := by decide +kernel
theorem dX12_row_136 : decode cX12_row 136 = .ok (.iconst 1, 1) := by decide +kernel
theorem dX12_row_137 : decode cX12_row 137 = .ok (.isub, 1) := by decide +kernel
theorem dX12_row_138 : decode cX12_row 138 = .ok (.invokevirtual 362, 3) := by decide +kernel
theorem dX12_row_141 : decode cX12_row 141 = .ok (.aload_n 0, 1) := by decide +kernel
theorem dX12_row_142 : decode cX12_row 142 = .ok (.iload 6, 2) := by decide +kernel
theorem dX12_row_144 : decode cX12_row 144 = .ok (.invokevirtual 362, 3) := by decide +kernel
theorem dX12_row_147 : decode cX12_row 147 = .ok (.if_icmp .gt 10, 3) := by decide +kernel
theorem dX12_row_150 : decode cX12_row 150 = .ok (.iload 4, 2) := by decide +kernel
theorem dX12_row_152 : decode cX12_row 152 = .ok (.iconst 1, 1) := by decide +kernel
theorem dX12_row_153 : decode cX12_row 153 = .ok (.iadd, 1) := by decide +kernel
theorem dX12_row_154 : decode cX12_row 154 = .ok (.goto 4, 3) := by decide +kernel
theorem dX12_row_157 : decode cX12_row 157 = .ok (.iconst 1, 1) := by decide +kernel
theorem dX12_row_158 : decode cX12_row 158 = .ok (.istore 4, 2) := by decide +kernel
theorem dX12_row_160 : decode cX12_row 160 = .ok (.iload 5, 2) := by decide +kernel
theorem dX12_row_162 : decode cX12_row 162 = .ok (.iload 4, 2) := by decide +kernel
theorem dX12_row_164 : decode cX12_row 164 = .ok (.invokestatic 252, 3) := by decide +kernel
theorem dX12_row_167 : decode cX12_row 167 = .ok (.istore 5, 2) := by decide +kernel
theorem dX12_row_169 : decode cX12_row 169 = .ok (.iinc 6 1, 3) := by decide +kernel
theorem dX12_row_172 : decode cX12_row 172 = .ok (.goto (-127), 3) := by decide +kernel
theorem dX12_row_175 : decode cX12_row 175 = .ok (.iload_n 2, 1) := by decide +kernel
theorem dX12_row_176 : decode cX12_row 176 = .ok (.ifCond .ne 9, 3) := by decide +kernel
theorem dX12_row_179 : decode cX12_row 179 = .ok (.iload_n 1, 1) := by decide +kernel
theorem dX12_row_180 : decode cX12_row 180 = .ok (.iload_n 3, 1) := by decide +kernel
theorem dX12_row_181 : decode cX12_row 181 = .ok (.isub, 1) := by decide +kernel
theorem dX12_row_182 : decode cX12_row 182 = .ok (.goto 5, 3) := by decide +kernel
theorem dX12_row_185 : decode cX12_row 185 = .ok (.iload 5, 2) := by decide +kernel
theorem dX12_row_187 : decode cX12_row 187 = .ok (.ireturn, 1) := by decide +kernel
set_option maxRecDepth 20000 in
theorem ggX12_falseOne_X12_in : GoodIn wsX12_falseOne wsX12_in := goodIn_r _ [4] (by decide +kernel) (by decide +kernel)
set_option maxRecDepth 20000 in
theorem gX12_falseOne_X12_in : GoodIn wsX12_falseOne (va_wsS RX12 105 yX12_in wsX12_in) := goodIn_app (goodIn_of _ (by decide +kernel)) ggX12_falseOne_X12_in
theorem dX12_falseOne_0 : decode cX12_falseOne 0 = .ok (.iload_n 1, 1) := by decide +kernel
theorem dX12_falseOne_1 : decode cX12_falseOne 1 = .ok (.iconst 1, 1) := by decide +kernel
theorem dX12_falseOne_2 : decode cX12_falseOne 2 = .ok (.sipush 9999, 3) := by decide +kernel
theorem dX12_falseOne_5 : decode cX12_falseOne 5 = .ok (.invokestatic 105, 3) := by decide +kernel
theorem dX12_falseOne_8 : decode cX12_falseOne 8 = .ok (.ifCond .ne 5, 3) := by decide +kernel
theorem dX12_falseOne_11 : decode cX12_falseOne 11 = .ok (.iconst (-1), 1) := by decide +kernel
theorem dX12_falseOne_12 : decode cX12_falseOne 12 = .ok (.ireturn, 1) := by decide +kernel
theorem dX12_falseOne_13 : decode cX12_falseOne 13 = .ok (.iload_n 2, 1) := by decide +kernel
theorem dX12_falseOne_14 : decode cX12_falseOne 14 = .ok (.ifCond .ne 11, 3) := by decide +kernel
theorem dX12_falseOne_17 : decode cX12_falseOne 17 = .ok (.iload_n 1, 1) := by decide +kernel
theorem dX12_falseOne_18 : decode cX12_falseOne 18 = .ok (.iconst 3, 1) := by decide +kernel
theorem dX12_falseOne_19 : decode cX12_falseOne 19 = .ok (.if_icmp .ge 6, 3) := by decide +kernel
theorem dX12_falseOne_22 : decode cX12_falseOne 22 = .ok (.bipush (-2), 2) := by decide +kernel
theorem dX12_falseOne_24 : decode cX12_falseOne 24 = .ok (.ireturn, 1) := by decide +kernel
theorem dX12_falseOne_25 : decode cX12_falseOne 25 = .ok (.iconst 0, 1) := by decide +kernel
theorem dX12_falseOne_26 : decode cX12_falseOne 26 = .ok (.istore_n 3, 1) := by decide +kernel
theorem dX12_falseOne_27 : decode cX12_falseOne 27 = .ok (.iconst 1, 1) := by decide +kernel
theorem dX12_falseOne_28 : decode cX12_falseOne 28 = .ok (.istore 4, 2) := by decide +kernel
theorem dX12_falseOne_30 : decode cX12_falseOne 30 = .ok (.iload_n 2, 1) := by decide +kernel
theorem dX12_falseOne_31 : decode cX12_falseOne 31 = .ok (.ifCond .eq 12, 3) := by decide +kernel
theorem dX12_falseOne_34 : decode cX12_falseOne 34 = .ok (.iload 4, 2) := by decide +kernel
theorem dX12_falseOne_36 : decode cX12_falseOne 36 = .ok (.iload_n 1, 1) := by decide +kernel
theorem dX12_falseOne_37 : decode cX12_falseOne 37 = .ok (.if_icmp .ge 29, 3) := by decide +kernel
theorem dX12_falseOne_40 : decode cX12_falseOne 40 = .ok (.goto 13, 3) := by decide +kernel
theorem dX12_falseOne_43 : decode cX12_falseOne 43 = .ok (.iload 4, 2) := by decide +kernel
theorem dX12_falseOne_45 : decode cX12_falseOne 45 = .ok (.iconst 3, 1) := by decide +kernel
theorem dX12_falseOne_46 : decode cX12_falseOne 46 = .ok (.isub, 1) := by decide +kernel
theorem dX12_falseOne_47 : decode cX12_falseOne 47 = .ok (.iconst 2, 1) := by decide +kernel
theorem dX12_falseOne_48 : decode cX12_falseOne 48 = .ok (.idiv, 1) := by decide +kernel
theorem dX12_falseOne_49 : decode cX12_falseOne 49 = .ok (.iload_n 1, 1) := by decide +kernel
theorem dX12_falseOne_50 : decode cX12_falseOne 50 = .ok (.if_icmp .ge 16, 3) := by decide +kernel
theorem dX12_falseOne_53 : decode cX12_falseOne 53 = .ok (.iload_n 3, 1) := by decide +kernel
theorem dX12_falseOne_54 : decode cX12_falseOne 54 = .ok (.iconst 1, 1) := by decide +kernel
theorem dX12_falseOne_55 : decode cX12_falseOne 55 = .ok (.iadd, 1) := by decide +kernel
theorem dX12_falseOne_56 : decode cX12_falseOne 56 = .ok (.istore_n 3, 1) := by decide +kernel
theorem dX12_falseOne_57 : decode cX12_falseOne 57 = .ok (.iconst 3, 1) := by decide +kernel
theorem dX12_falseOne_58 : decode cX12_falseOne 58 = .ok (.iload 4, 2) := by decide +kernel
theorem dX12_falseOne_60 : decode cX12_falseOne 60 = .ok (.imul, 1) := by decide +kernel
theorem dX12_falseOne_61 : decode cX12_falseOne 61 = .ok (.istore 4, 2) := by decide +kernel
theorem dX12_falseOne_63 : decode cX12_falseOne 63 = .ok (.goto (-33), 3) := by decide +kernel
theorem dX12_falseOne_66 : decode cX12_falseOne 66 = .ok (.iload_n 3, 1) := by decide +kernel
theorem dX12_falseOne_67 : decode cX12_falseOne 67 = .ok (.ireturn, 1) := by decide +kernel
set_option maxRecDepth 20000 in
theorem ggX12_scales_X12_in : GoodIn wsX12_scales wsX12_in := goodIn_r _ [5] (by decide +kernel) (by decide +kernel)
set_option maxRecDepth 20000 in
theorem gX12_scales_X12_in : GoodIn wsX12_scales (va_wsS RX12 105 yX12_in wsX12_in) := goodIn_app (goodIn_of _ (by decide +kernel)) ggX12_scales_X12_in
set_option maxRecDepth 20000 in
theorem ggX12_scales_X12_has : GoodIn wsX12_scales wsX12_has := goodIn_r _ [8] (by decide +kernel) (by decide +kernel)
set_option maxRecDepth 20000 in
theorem gX12_scales_X12_has : GoodIn wsX12_scales (va_wsS RX12 308 yX12_has wsX12_has) := goodIn_app (goodIn_of _ (by decide +kernel)) ggX12_scales_X12_has
set_option maxRecDepth 20000 in
theorem ggX12_scales_X12_octet : GoodIn wsX12_scales wsX12_octet := goodIn_r _ [12, 13, 17, 18, 19, 20, 21, 22, 23, 24, 25, 26, 27, 28, 29, 30, 31, 32, 33, 34, 35, 36, 37, 38, 39, 40, 41, 42, 43, 44, 45, 46, 47, 48, 49, 50, 51, 52, 53, 54, 55, 56, 57, 58, 59, 60, 61, 62, 63, 64, 65, 66, 67, 68] (by decide +kernel) (by decide +kernel)
set_option maxRecDepth 20000 in
theorem gX12_scales_X12_octet : GoodIn wsX12_scales (wsV RX12 362 RX12 yX12_octet wsX12_octet) := goodIn_app (goodIn_of _ (by decide +kernel)) ggX12_scales_X12_octet
set_option maxRecDepth 20000 in
theorem ggX12_scales_X12_max : GoodIn wsX12_scales wsX12_max := goodIn_r _ [16] (by decide +kernel) (by decide +kernel)
set_option maxRecDepth 20000 in
theorem gX12_scales_X12_max : GoodIn wsX12_scales (va_wsS RX12 252 yX12_max wsX12_max) := goodIn_app (goodIn_of _ (by decide +kernel)) ggX12_scales_X12_max
theorem dX12_scales_0 : decode cX12_scales 0 = .ok (.iload_n 1, 1) := by decide +kernel
theorem dX12_scales_1 : decode cX12_scales 1 = .ok (.iconst 1, 1) := by decide +kernel
theorem dX12_scales_2 : decode cX12_scales 2 = .ok (.bipush 10, 2) := by decide +kernel
theorem dX12_scales_4 : decode cX12_scales 4 = .ok (.invokestatic 105, 3) := by decide +kernel
theorem dX12_scales_7 : decode cX12_scales 7 = .ok (.ifCond .eq 31, 3) := by decide +kernel
theorem dX12_scales_10 : decode cX12_scales 10 = .ok (.iload_n 2, 1) := by decide +kernel
theorem dX12_scales_11 : decode cX12_scales 11 = .ok (.iconst 0, 1) := by decide +kernel
theorem dX12_scales_12 : decode cX12_scales 12 = .ok (.sipush 1023, 3) := by decide +kernel
theorem dX12_scales_15 : decode cX12_scales 15 = .ok (.invokestatic 105, 3) := by decide +kernel
theorem dX12_scales_18 : decode cX12_scales 18 = .ok (.ifCond .eq 20, 3) := by decide +kernel
theorem dX12_scales_21 : decode cX12_scales 21 = .ok (.iload_n 3, 1) := by decide +kernel
theorem dX12_scales_22 : decode cX12_scales 22 = .ok (.iconst 0, 1) := by decide +kernel
theorem dX12_scales_23 : decode cX12_scales 23 = .ok (.iconst 1, 1) := by decide +kernel
theorem dX12_scales_24 : decode cX12_scales 24 = .ok (.invokestatic 105, 3) := by decide +kernel
theorem dX12_scales_27 : decode cX12_scales 27 = .ok (.ifCond .eq 11, 3) := by decide +kernel
theorem dX12_scales_30 : decode cX12_scales 30 = .ok (.iload_n 1, 1) := by decide +kernel
theorem dX12_scales_31 : decode cX12_scales 31 = .ok (.aload_n 0, 1) := by decide +kernel
theorem dX12_scales_32 : decode cX12_scales 32 = .ok (.getfield 119, 3) := by decide +kernel
theorem dX12_scales_35 : decode cX12_scales 35 = .ok (.if_icmp .le 5, 3) := by decide +kernel
theorem dX12_scales_38 : decode cX12_scales 38 = .ok (.iconst (-1), 1) := by decide +kernel
theorem dX12_scales_39 : decode cX12_scales 39 = .ok (.ireturn, 1) := by decide +kernel
theorem dX12_scales_40 : decode cX12_scales 40 = .ok (.aload_n 0, 1) := by decide +kernel
theorem dX12_scales_41 : decode cX12_scales 41 = .ok (.iconst 0, 1) := by decide +kernel
theorem dX12_scales_42 : decode cX12_scales 42 = .ok (.putfield 119, 3) := by decide +kernel
theorem dX12_scales_45 : decode cX12_scales 45 = .ok (.iconst 0, 1) := by decide +kernel
theorem dX12_scales_46 : decode cX12_scales 46 = .ok (.istore 4, 2) := by decide +kernel
theorem dX12_scales_48 : decode cX12_scales 48 = .ok (.iconst 0, 1) := by decide +kernel
theorem dX12_scales_49 : decode cX12_scales 49 = .ok (.istore 5, 2) := by decide +kernel
theorem dX12_scales_51 : decode cX12_scales 51 = .ok (.iconst 0, 1) := by decide +kernel
theorem dX12_scales_52 : decode cX12_scales 52 = .ok (.istore 6, 2) := by decide +kernel
theorem dX12_scales_54 : decode cX12_scales 54 = .ok (.iconst 0, 1) := by decide +kernel
theorem dX12_scales_55 : decode cX12_scales 55 = .ok (.istore 7, 2) := by decide +kernel
theorem dX12_scales_57 : decode cX12_scales 57 = .ok (.iload 7, 2) := by decide +kernel
theorem dX12_scales_59 : decode cX12_scales 59 = .ok (.iload_n 1, 1) := by decide +kernel
theorem dX12_scales_60 : decode cX12_scales 60 = .ok (.if_icmp .ge 59, 3) := by decide +kernel
theorem dX12_scales_63 : decode cX12_scales 63 = .ok (.iload 4, 2) := by decide +kernel
theorem dX12_scales_65 : decode cX12_scales 65 = .ok (.iload_n 2, 1) := by decide +kernel
theorem dX12_scales_66 : decode cX12_scales 66 = .ok (.iload 7, 2) := by decide +kernel
theorem dX12_scales_68 : decode cX12_scales 68 = .ok (.invokestatic 308, 3) := by decide +kernel
theorem dX12_scales_71 : decode cX12_scales 71 = .ok (.ifCond .eq 12, 3) := by decide +kernel
theorem dX12_scales_74 : decode cX12_scales 74 = .ok (.aload_n 0, 1) := by decide +kernel
theorem dX12_scales_75 : decode cX12_scales 75 = .ok (.iload 7, 2) := by decide +kernel
theorem dX12_scales_77 : decode cX12_scales 77 = .ok (.invokevirtual 362, 3) := by decide +kernel
theorem dX12_scales_80 : decode cX12_scales 80 = .ok (.goto 10, 3) := by decide +kernel
theorem dX12_scales_83 : decode cX12_scales 83 = .ok (.aload_n 0, 1) := by decide +kernel
theorem dX12_scales_84 : decode cX12_scales 84 = .ok (.iload 7, 2) := by decide +kernel
theorem dX12_scales_86 : decode cX12_scales 86 = .ok (.invokevirtual 362, 3) := by decide +kernel
theorem dX12_scales_89 : decode cX12_scales 89 = .ok (.ineg, 1) := by decide +kernel
theorem dX12_scales_90 : decode cX12_scales 90 = .ok (.iadd, 1) := by decide +kernel
theorem dX12_scales_91 : decode cX12_scales 91 = .ok (.istore 4, 2) := by decide +kernel
theorem dX12_scales_93 : decode cX12_scales 93 = .ok (.iload 4, 2) := by decide +kernel
theorem dX12_scales_95 : decode cX12_scales 95 = .ok (.ifCond .le 9, 3) := by decide +kernel
theorem dX12_scales_98 : decode cX12_scales 98 = .ok (.iload 5, 2) := by decide +kernel
theorem dX12_scales_100 : decode cX12_scales 100 = .ok (.iconst 1, 1) := by decide +kernel
theorem dX12_scales_101 : decode cX12_scales 101 = .ok (.iadd, 1) := by decide +kernel
theorem dX12_scales_102 : decode cX12_scales 102 = .ok (.istore 5, 2) := by decide +kernel
theorem dX12_scales_104 : decode cX12_scales 104 = .ok (.iload 6, 2) := by decide +kernel
theorem dX12_scales_106 : decode cX12_scales 106 = .ok (.iload 4, 2) := by decide +kernel
theorem dX12_scales_108 : decode cX12_scales 108 = .ok (.invokestatic 252, 3) := by decide +kernel
theorem dX12_scales_111 : decode cX12_scales 111 = .ok (.istore 6, 2) := by decide +kernel
theorem dX12_scales_113 : decode cX12_scales 113 = .ok (.iinc 7 1, 3) := by decide +kernel
theorem dX12_scales_116 : decode cX12_scales 116 = .ok (.goto (-59), 3) := by decide +kernel
theorem dX12_scales_119 : decode cX12_scales 119 = .ok (.iload_n 3, 1) := by decide +kernel
theorem dX12_scales_120 : decode cX12_scales 120 = .ok (.ifCond .ne 8, 3) := by decide +kernel
theorem dX12_scales_123 : decode cX12_scales 123 = .ok (.iload 5, 2) := by decide +kernel
theorem dX12_scales_125 : decode cX12_scales 125 = .ok (.goto 5, 3) := by decide +kernel
theorem dX12_scales_128 : decode cX12_scales 128 = .ok (.iload 6, 2) := by decide +kernel
theorem dX12_scales_130 : decode cX12_scales 130 = .ok (.ireturn, 1) := by decide +kernel
set_option maxRecDepth 20000 in
theorem ggX12_seed_X12_in : GoodIn wsX12_seed wsX12_in := goodIn_r _ [6] (by decide +kernel) (by decide +kernel)
set_option maxRecDepth 20000 in
theorem gX12_seed_X12_in : GoodIn wsX12_seed (va_wsS RX12 105 yX12_in wsX12_in) := goodIn_app (goodIn_of _ (by decide +kernel)) ggX12_seed_X12_in
theorem dX12_seed_0 : decode cX12_seed 0 = .ok (.iload_n 1, 1) := by decide +kernel
theorem dX12_seed_1 : decode cX12_seed 1 = .ok (.iconst 0, 1) := by decide +kernel
theorem dX12_seed_2 : decode cX12_seed 2 = .ok (.ldc_w 326, 3) := by decide +kernel
theorem dX12_seed_5 : decode cX12_seed 5 = .ok (.invokestatic 105, 3) := by decide +kernel
theorem dX12_seed_8 : decode cX12_seed 8 = .ok (.ifCond .ne 5, 3) := by decide +kernel
theorem dX12_seed_11 : decode cX12_seed 11 = .ok (.iconst 0, 1) := by decide +kernel
theorem dX12_seed_12 : decode cX12_seed 12 = .ok (.ireturn, 1) := by decide +kernel
theorem dX12_seed_13 : decode cX12_seed 13 = .ok (.aload_n 0, 1) := by decide +kernel
theorem dX12_seed_14 : decode cX12_seed 14 = .ok (.getfield 7, 3) := by decide +kernel
theorem dX12_seed_17 : decode cX12_seed 17 = .ok (.bipush 97, 2) := by decide +kernel
theorem dX12_seed_19 : decode cX12_seed 19 = .ok (.iload_n 1, 1) := by decide +kernel
theorem dX12_seed_20 : decode cX12_seed 20 = .ok (.iastore, 1) := by decide +kernel
theorem dX12_seed_21 : decode cX12_seed 21 = .ok (.iconst 1, 1) := by decide +kernel
theorem dX12_seed_22 : decode cX12_seed 22 = .ok (.ireturn, 1) := by decide +kernel
set_option maxRecDepth 20000 in
theorem ggX12_keep_X12_copies : GoodIn wsX12_keep wsX12_copies := goodIn_r _ [7] (by decide +kernel) (by decide +kernel)
set_option maxRecDepth 20000 in
theorem gX12_keep_X12_copies : GoodIn wsX12_keep (va_wsS RX12 255 yX12_copies wsX12_copies) := goodIn_app (goodIn_of _ (by decide +kernel)) ggX12_keep_X12_copies
theorem dX12_keep_0 : decode cX12_keep 0 = .ok (.aload_n 0, 1) := by decide +kernel
theorem dX12_keep_1 : decode cX12_keep 1 = .ok (.iconst 1, 1) := by decide +kernel
theorem dX12_keep_2 : decode cX12_keep 2 = .ok (.putfield 378, 3) := by decide +kernel
theorem dX12_keep_5 : decode cX12_keep 5 = .ok (.aload_n 0, 1) := by decide +kernel
theorem dX12_keep_6 : decode cX12_keep 6 = .ok (.getfield 7, 3) := by decide +kernel
theorem dX12_keep_9 : decode cX12_keep 9 = .ok (.aload_n 0, 1) := by decide +kernel
theorem dX12_keep_10 : decode cX12_keep 10 = .ok (.getfield 16, 3) := by decide +kernel
theorem dX12_keep_13 : decode cX12_keep 13 = .ok (.invokestatic 255, 3) := by decide +kernel
theorem dX12_keep_16 : decode cX12_keep 16 = .ok (.aload_n 0, 1) := by decide +kernel
theorem dX12_keep_17 : decode cX12_keep 17 = .ok (.getfield 7, 3) := by decide +kernel
theorem dX12_keep_20 : decode cX12_keep 20 = .ok (.bipush 96, 2) := by decide +kernel
theorem dX12_keep_22 : decode cX12_keep 22 = .ok (.iaload, 1) := by decide +kernel
theorem dX12_keep_23 : decode cX12_keep 23 = .ok (.ireturn, 1) := by decide +kernel
set_option maxRecDepth 20000 in
theorem ggX12_undo_X12_copies : GoodIn wsX12_undo wsX12_copies := goodIn_r _ [7] (by decide +kernel) (by decide +kernel)
set_option maxRecDepth 20000 in
theorem gX12_undo_X12_copies : GoodIn wsX12_undo (va_wsS RX12 255 yX12_copies wsX12_copies) := goodIn_app (goodIn_of _ (by decide +kernel)) ggX12_undo_X12_copies
theorem dX12_undo_0 : decode cX12_undo 0 = .ok (.aload_n 0, 1) := by decide +kernel
theorem dX12_undo_1 : decode cX12_undo 1 = .ok (.getfield 378, 3) := by decide +kernel
theorem dX12_undo_4 : decode cX12_undo 4 = .ok (.ifCond .ne 5, 3) := by decide +kernel
theorem dX12_undo_7 : decode cX12_undo 7 = .ok (.iconst 0, 1) := by decide +kernel
theorem dX12_undo_8 : decode cX12_undo 8 = .ok (.ireturn, 1) := by decide +kernel
theorem dX12_undo_9 : decode cX12_undo 9 = .ok (.aload_n 0, 1) := by decide +kernel
theorem dX12_undo_10 : decode cX12_undo 10 = .ok (.getfield 16, 3) := by decide +kernel
theorem dX12_undo_13 : decode cX12_undo 13 = .ok (.aload_n 0, 1) := by decide +kernel
theorem dX12_undo_14 : decode cX12_undo 14 = .ok (.getfield 7, 3) := by decide +kernel
theorem dX12_undo_17 : decode cX12_undo 17 = .ok (.invokestatic 255, 3) := by decide +kernel
theorem dX12_undo_20 : decode cX12_undo 20 = .ok (.iconst 1, 1) := by decide +kernel
theorem dX12_undo_21 : decode cX12_undo 21 = .ok (.ireturn, 1) := by decide +kernel
set_option maxRecDepth 20000 in
theorem ggX12_check_X12_in : GoodIn wsX12_check wsX12_in := goodIn_r _ [6] (by decide +kernel) (by decide +kernel)
set_option maxRecDepth 20000 in
theorem gX12_check_X12_in : GoodIn wsX12_check (va_wsS RX12 105 yX12_in wsX12_in) := goodIn_app (goodIn_of _ (by decide +kernel)) ggX12_check_X12_in
set_option maxRecDepth 20000 in
theorem ggX12_check_X12_octet : GoodIn wsX12_check wsX12_octet := goodIn_r _ [10, 11, 16, 17, 18, 19, 20, 21, 22, 23, 24, 25, 26, 27, 28, 29, 30, 31, 32, 33, 34, 35, 36, 37, 38, 39, 40, 41, 42, 43, 44, 45, 46, 47, 48, 49, 50, 51, 52, 53, 54, 55, 56, 57, 58, 59, 60, 61, 62, 63, 64, 65, 66, 67] (by decide +kernel) (by decide +kernel)
set_option maxRecDepth 20000 in
theorem gX12_check_X12_octet : GoodIn wsX12_check (wsV RX12 362 RX12 yX12_octet wsX12_octet) := goodIn_app (goodIn_of _ (by decide +kernel)) ggX12_check_X12_octet
set_option maxRecDepth 20000 in
theorem ggX12_check_X12_isTold : GoodIn wsX12_check wsX12_isTold := goodIn_r _ [15, 2, 3, 4, 5, 6, 16, 17, 18, 19, 20, 21, 22, 23, 24, 25, 26, 27, 28, 29, 30, 31, 32, 33, 34, 35, 36, 37, 38, 39, 40, 41, 42, 43, 44, 45, 46, 47, 48, 49, 50, 51, 52, 53, 54, 55, 56, 57, 58, 59, 60, 61, 62, 63, 64, 65, 66, 67] (by decide +kernel) (by decide +kernel)
set_option maxRecDepth 20000 in
theorem gX12_check_X12_isTold : GoodIn wsX12_check (wsV RX12 109 RX12 yX12_isTold wsX12_isTold) := goodIn_app (goodIn_of _ (by decide +kernel)) ggX12_check_X12_isTold
theorem dX12_check_0 : decode cX12_check 0 = .ok (.iload_n 1, 1) := by decide +kernel
theorem dX12_check_1 : decode cX12_check 1 = .ok (.iconst 0, 1) := by decide +kernel
theorem dX12_check_2 : decode cX12_check 2 = .ok (.bipush 16, 2) := by decide +kernel
theorem dX12_check_4 : decode cX12_check 4 = .ok (.invokestatic 105, 3) := by decide +kernel
theorem dX12_check_7 : decode cX12_check 7 = .ok (.ifCond .eq 11, 3) := by decide +kernel
theorem dX12_check_10 : decode cX12_check 10 = .ok (.iload_n 1, 1) := by decide +kernel
theorem dX12_check_11 : decode cX12_check 11 = .ok (.aload_n 0, 1) := by decide +kernel
theorem dX12_check_12 : decode cX12_check 12 = .ok (.getfield 119, 3) := by decide +kernel
theorem dX12_check_15 : decode cX12_check 15 = .ok (.if_icmp .le 6, 3) := by decide +kernel
theorem dX12_check_18 : decode cX12_check 18 = .ok (.bipush (-2), 2) := by decide +kernel
theorem dX12_check_20 : decode cX12_check 20 = .ok (.ireturn, 1) := by decide +kernel
theorem dX12_check_21 : decode cX12_check 21 = .ok (.aload_n 0, 1) := by decide +kernel
theorem dX12_check_22 : decode cX12_check 22 = .ok (.iconst 0, 1) := by decide +kernel
theorem dX12_check_23 : decode cX12_check 23 = .ok (.putfield 119, 3) := by decide +kernel
theorem dX12_check_26 : decode cX12_check 26 = .ok (.iconst 0, 1) := by decide +kernel
theorem dX12_check_27 : decode cX12_check 27 = .ok (.istore_n 2, 1) := by decide +kernel
theorem dX12_check_28 : decode cX12_check 28 = .ok (.iload_n 2, 1) := by decide +kernel
theorem dX12_check_29 : decode cX12_check 29 = .ok (.iload_n 1, 1) := by decide +kernel
theorem dX12_check_30 : decode cX12_check 30 = .ok (.if_icmp .ge 44, 3) := by decide +kernel
theorem dX12_check_33 : decode cX12_check 33 = .ok (.aload_n 0, 1) := by decide +kernel
theorem dX12_check_34 : decode cX12_check 34 = .ok (.iload_n 2, 1) := by decide +kernel
theorem dX12_check_35 : decode cX12_check 35 = .ok (.invokevirtual 362, 3) := by decide +kernel
theorem dX12_check_38 : decode cX12_check 38 = .ok (.aload_n 0, 1) := by decide +kernel
theorem dX12_check_39 : decode cX12_check 39 = .ok (.iload_n 2, 1) := by decide +kernel
theorem dX12_check_40 : decode cX12_check 40 = .ok (.invokevirtual 109, 3) := by decide +kernel
theorem dX12_check_43 : decode cX12_check 43 = .ok (.ifCond .eq 19, 3) := by decide +kernel
theorem dX12_check_46 : decode cX12_check 46 = .ok (.aload_n 0, 1) := by decide +kernel
theorem dX12_check_47 : decode cX12_check 47 = .ok (.getfield 7, 3) := by decide +kernel
theorem dX12_check_50 : decode cX12_check 50 = .ok (.bipush 16, 2) := by decide +kernel
theorem dX12_check_52 : decode cX12_check 52 = .ok (.iload_n 2, 1) := by decide +kernel
theorem dX12_check_53 : decode cX12_check 53 = .ok (.iadd, 1) := by decide +kernel
theorem dX12_check_54 : decode cX12_check 54 = .ok (.iaload, 1) := by decide +kernel
theorem dX12_check_55 : decode cX12_check 55 = .ok (.sipush 256, 3) := by decide +kernel
theorem dX12_check_58 : decode cX12_check 58 = .ok (.irem, 1) := by decide +kernel
theorem dX12_check_59 : decode cX12_check 59 = .ok (.goto 4, 3) := by decide +kernel
theorem dX12_check_62 : decode cX12_check 62 = .ok (.iconst 0, 1) := by decide +kernel
theorem dX12_check_63 : decode cX12_check 63 = .ok (.if_icmp .eq 5, 3) := by decide +kernel
theorem dX12_check_66 : decode cX12_check 66 = .ok (.iload_n 2, 1) := by decide +kernel
theorem dX12_check_67 : decode cX12_check 67 = .ok (.ireturn, 1) := by decide +kernel
theorem dX12_check_68 : decode cX12_check 68 = .ok (.iinc 2 1, 3) := by decide +kernel
theorem dX12_check_71 : decode cX12_check 71 = .ok (.goto (-43), 3) := by decide +kernel
theorem dX12_check_74 : decode cX12_check 74 = .ok (.iconst (-1), 1) := by decide +kernel
theorem dX12_check_75 : decode cX12_check 75 = .ok (.ireturn, 1) := by decide +kernel
set_option maxRecDepth 20000 in
theorem ggX12_allOf_X12_isTold : GoodIn wsX12_allOf wsX12_isTold := goodIn_r _ [6, 1, 7, 8, 5, 9, 10, 11, 12, 13, 14, 15, 16, 17, 18, 19, 20, 21, 22, 23, 24, 25, 26, 27, 28, 29, 30, 31, 32, 33, 34, 35, 36, 37, 38, 39, 40, 41, 42, 43, 44, 45, 46, 47, 48, 49, 50, 51, 52, 53, 54, 55, 56, 57, 58, 59, 60, 61] (by decide +kernel) (by decide +kernel)
set_option maxRecDepth 20000 in
theorem gX12_allOf_X12_isTold : GoodIn wsX12_allOf (wsV RX12 109 RX12 yX12_isTold wsX12_isTold) := goodIn_app (goodIn_of _ (by decide +kernel)) ggX12_allOf_X12_isTold
theorem dX12_allOf_0 : decode cX12_allOf 0 = .ok (.iconst 0, 1) := by decide +kernel
theorem dX12_allOf_1 : decode cX12_allOf 1 = .ok (.istore_n 2, 1) := by decide +kernel
theorem dX12_allOf_2 : decode cX12_allOf 2 = .ok (.iconst 0, 1) := by decide +kernel
theorem dX12_allOf_3 : decode cX12_allOf 3 = .ok (.istore_n 3, 1) := by decide +kernel
theorem dX12_allOf_4 : decode cX12_allOf 4 = .ok (.iload_n 3, 1) := by decide +kernel
theorem dX12_allOf_5 : decode cX12_allOf 5 = .ok (.bipush 16, 2) := by decide +kernel
theorem dX12_allOf_7 : decode cX12_allOf 7 = .ok (.if_icmp .ge 28, 3) := by decide +kernel
theorem dX12_allOf_10 : decode cX12_allOf 10 = .ok (.aload_n 0, 1) := by decide +kernel
theorem dX12_allOf_11 : decode cX12_allOf 11 = .ok (.iload_n 3, 1) := by decide +kernel
theorem dX12_allOf_12 : decode cX12_allOf 12 = .ok (.invokevirtual 109, 3) := by decide +kernel
theorem dX12_allOf_15 : decode cX12_allOf 15 = .ok (.ifCond .eq 14, 3) := by decide +kernel
theorem dX12_allOf_18 : decode cX12_allOf 18 = .ok (.iload_n 2, 1) := by decide +kernel
theorem dX12_allOf_19 : decode cX12_allOf 19 = .ok (.aload_n 0, 1) := by decide +kernel
theorem dX12_allOf_20 : decode cX12_allOf 20 = .ok (.getfield 7, 3) := by decide +kernel
theorem dX12_allOf_23 : decode cX12_allOf 23 = .ok (.iload_n 1, 1) := by decide +kernel
theorem dX12_allOf_24 : decode cX12_allOf 24 = .ok (.iload_n 3, 1) := by decide +kernel
theorem dX12_allOf_25 : decode cX12_allOf 25 = .ok (.iadd, 1) := by decide +kernel
theorem dX12_allOf_26 : decode cX12_allOf 26 = .ok (.iaload, 1) := by decide +kernel
theorem dX12_allOf_27 : decode cX12_allOf 27 = .ok (.iadd, 1) := by decide +kernel
theorem dX12_allOf_28 : decode cX12_allOf 28 = .ok (.istore_n 2, 1) := by decide +kernel
theorem dX12_allOf_29 : decode cX12_allOf 29 = .ok (.iinc 3 1, 3) := by decide +kernel
theorem dX12_allOf_32 : decode cX12_allOf 32 = .ok (.goto (-28), 3) := by decide +kernel
theorem dX12_allOf_35 : decode cX12_allOf 35 = .ok (.iload_n 2, 1) := by decide +kernel
theorem dX12_allOf_36 : decode cX12_allOf 36 = .ok (.ireturn, 1) := by decide +kernel
set_option maxRecDepth 20000 in
theorem ggX12_count_X12_toldSet : GoodIn wsX12_count wsX12_toldSet := goodIn_r _ [11, 12, 13, 14, 10, 15, 1, 16, 17, 18, 37, 38, 39, 40, 41, 42, 43, 44, 45, 46, 47, 48, 49, 50, 51, 52, 53, 54, 55, 56, 57, 58, 59, 60, 61, 62, 63, 64, 65, 66, 67, 68, 69, 70, 71, 72, 73, 74, 75, 76, 77, 78, 79, 80, 81, 82, 83, 84, 85, 86, 87, 88] (by decide +kernel) (by decide +kernel)
set_option maxRecDepth 20000 in
theorem gX12_count_X12_toldSet : GoodIn wsX12_count (wsV RX12 231 RX12 yX12_toldSet wsX12_toldSet) := goodIn_app (goodIn_of _ (by decide +kernel)) ggX12_count_X12_toldSet
