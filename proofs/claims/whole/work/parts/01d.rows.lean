theorem dX7_onScale_10 : decode cX7_onScale 10 = .ok (.invokestatic 61, 3) := by decide +kernel
theorem dX7_onScale_13 : decode cX7_onScale 13 = .ok (.istore 4, 2) := by decide +kernel
theorem dX7_onScale_15 : decode cX7_onScale 15 = .ok (.aload_n 2, 1) := by decide +kernel
theorem dX7_onScale_16 : decode cX7_onScale 16 = .ok (.bipush 102, 2) := by decide +kernel
theorem dX7_onScale_18 : decode cX7_onScale 18 = .ok (.bipush 15, 2) := by decide +kernel
theorem dX7_onScale_20 : decode cX7_onScale 20 = .ok (.invokevirtual 58, 3) := by decide +kernel
theorem dX7_onScale_23 : decode cX7_onScale 23 = .ok (.istore 5, 2) := by decide +kernel
theorem dX7_onScale_25 : decode cX7_onScale 25 = .ok (.iload 5, 2) := by decide +kernel
theorem dX7_onScale_27 : decode cX7_onScale 27 = .ok (.invokestatic 91, 3) := by decide +kernel
theorem dX7_onScale_30 : decode cX7_onScale 30 = .ok (.ifCond .eq 20, 3) := by decide +kernel
theorem dX7_onScale_33 : decode cX7_onScale 33 = .ok (.aload_n 1, 1) := by decide +kernel
theorem dX7_onScale_34 : decode cX7_onScale 34 = .ok (.iload_n 3, 1) := by decide +kernel
theorem dX7_onScale_35 : decode cX7_onScale 35 = .ok (.invokevirtual 94, 3) := by decide +kernel
theorem dX7_onScale_38 : decode cX7_onScale 38 = .ok (.iload 5, 2) := by decide +kernel
theorem dX7_onScale_40 : decode cX7_onScale 40 = .ok (.invokestatic 44, 3) := by decide +kernel
theorem dX7_onScale_43 : decode cX7_onScale 43 = .ok (.ifCond .eq 7, 3) := by decide +kernel
theorem dX7_onScale_46 : decode cX7_onScale 46 = .ok (.iconst 1, 1) := by decide +kernel
theorem dX7_onScale_47 : decode cX7_onScale 47 = .ok (.goto 4, 3) := by decide +kernel
theorem dX7_onScale_50 : decode cX7_onScale 50 = .ok (.iconst 0, 1) := by decide +kernel
theorem dX7_onScale_51 : decode cX7_onScale 51 = .ok (.istore 6, 2) := by decide +kernel
theorem dX7_onScale_53 : decode cX7_onScale 53 = .ok (.aload_n 1, 1) := by decide +kernel
theorem dX7_onScale_54 : decode cX7_onScale 54 = .ok (.invokevirtual 98, 3) := by decide +kernel
theorem dX7_onScale_57 : decode cX7_onScale 57 = .ok (.aload_n 2, 1) := by decide +kernel
theorem dX7_onScale_58 : decode cX7_onScale 58 = .ok (.bipush 98, 2) := by decide +kernel
theorem dX7_onScale_60 : decode cX7_onScale 60 = .ok (.bipush 10, 2) := by decide +kernel
theorem dX7_onScale_62 : decode cX7_onScale 62 = .ok (.invokevirtual 58, 3) := by decide +kernel
theorem dX7_onScale_65 : decode cX7_onScale 65 = .ok (.if_icmp .ge 7, 3) := by decide +kernel
theorem dX7_onScale_68 : decode cX7_onScale 68 = .ok (.iconst 1, 1) := by decide +kernel
theorem dX7_onScale_69 : decode cX7_onScale 69 = .ok (.goto 4, 3) := by decide +kernel
theorem dX7_onScale_72 : decode cX7_onScale 72 = .ok (.iconst 0, 1) := by decide +kernel
theorem dX7_onScale_73 : decode cX7_onScale 73 = .ok (.istore 7, 2) := by decide +kernel
theorem dX7_onScale_75 : decode cX7_onScale 75 = .ok (.aload_n 0, 1) := by decide +kernel
theorem dX7_onScale_76 : decode cX7_onScale 76 = .ok (.dup, 1) := by decide +kernel
theorem dX7_onScale_77 : decode cX7_onScale 77 = .ok (.getfield 27, 3) := by decide +kernel
theorem dX7_onScale_80 : decode cX7_onScale 80 = .ok (.iload 7, 2) := by decide +kernel
theorem dX7_onScale_82 : decode cX7_onScale 82 = .ok (.ifCond .eq 7, 3) := by decide +kernel
theorem dX7_onScale_85 : decode cX7_onScale 85 = .ok (.iconst 1, 1) := by decide +kernel
theorem dX7_onScale_86 : decode cX7_onScale 86 = .ok (.goto 4, 3) := by decide +kernel
theorem dX7_onScale_89 : decode cX7_onScale 89 = .ok (.iconst 0, 1) := by decide +kernel
theorem dX7_onScale_90 : decode cX7_onScale 90 = .ok (.iadd, 1) := by decide +kernel
theorem dX7_onScale_91 : decode cX7_onScale 91 = .ok (.putfield 27, 3) := by decide +kernel
theorem dX7_onScale_94 : decode cX7_onScale 94 = .ok (.iload 4, 2) := by decide +kernel
theorem dX7_onScale_96 : decode cX7_onScale 96 = .ok (.iload 6, 2) := by decide +kernel
theorem dX7_onScale_98 : decode cX7_onScale 98 = .ok (.ifCond .eq 13, 3) := by decide +kernel
theorem dX7_onScale_101 : decode cX7_onScale 101 = .ok (.aload_n 1, 1) := by decide +kernel
theorem dX7_onScale_102 : decode cX7_onScale 102 = .ok (.getfield 68, 3) := by decide +kernel
theorem dX7_onScale_105 : decode cX7_onScale 105 = .ok (.iload 5, 2) := by decide +kernel
theorem dX7_onScale_107 : decode cX7_onScale 107 = .ok (.iaload, 1) := by decide +kernel
theorem dX7_onScale_108 : decode cX7_onScale 108 = .ok (.goto 4, 3) := by decide +kernel
theorem dX7_onScale_111 : decode cX7_onScale 111 = .ok (.iconst 0, 1) := by decide +kernel
theorem dX7_onScale_112 : decode cX7_onScale 112 = .ok (.iadd, 1) := by decide +kernel
theorem dX7_onScale_113 : decode cX7_onScale 113 = .ok (.iload 7, 2) := by decide +kernel
theorem dX7_onScale_115 : decode cX7_onScale 115 = .ok (.ifCond .eq 10, 3) := by decide +kernel
theorem dX7_onScale_118 : decode cX7_onScale 118 = .ok (.aload_n 0, 1) := by decide +kernel
theorem dX7_onScale_119 : decode cX7_onScale 119 = .ok (.getfield 15, 3) := by decide +kernel
theorem dX7_onScale_122 : decode cX7_onScale 122 = .ok (.goto 4, 3) := by decide +kernel
theorem dX7_onScale_125 : decode cX7_onScale 125 = .ok (.iconst 0, 1) := by decide +kernel
theorem dX7_onScale_126 : decode cX7_onScale 126 = .ok (.iadd, 1) := by decide +kernel
theorem dX7_onScale_127 : decode cX7_onScale 127 = .ok (.ireturn, 1) := by decide +kernel
theorem dX7_cross_0 : decode cX7_cross 0 = .ok (.iload_n 3, 1) := by decide +kernel
theorem dX7_cross_1 : decode cX7_cross 1 = .ok (.aload_n 1, 1) := by decide +kernel
theorem dX7_cross_2 : decode cX7_cross 2 = .ok (.getfield 68, 3) := by decide +kernel
theorem dX7_cross_5 : decode cX7_cross 5 = .ok (.iload_n 2, 1) := by decide +kernel
theorem dX7_cross_6 : decode cX7_cross 6 = .ok (.iaload, 1) := by decide +kernel
theorem dX7_cross_7 : decode cX7_cross 7 = .ok (.isub, 1) := by decide +kernel
theorem dX7_cross_8 : decode cX7_cross 8 = .ok (.istore 4, 2) := by decide +kernel
theorem dX7_cross_10 : decode cX7_cross 10 = .ok (.iload 4, 2) := by decide +kernel
theorem dX7_cross_12 : decode cX7_cross 12 = .ok (.ineg, 1) := by decide +kernel
theorem dX7_cross_13 : decode cX7_cross 13 = .ok (.aload_n 0, 1) := by decide +kernel
theorem dX7_cross_14 : decode cX7_cross 14 = .ok (.getfield 9, 3) := by decide +kernel
theorem dX7_cross_17 : decode cX7_cross 17 = .ok (.if_icmp .le 34, 3) := by decide +kernel
theorem dX7_cross_20 : decode cX7_cross 20 = .ok (.aload_n 1, 1) := by decide +kernel
theorem dX7_cross_21 : decode cX7_cross 21 = .ok (.getfield 102, 3) := by decide +kernel
theorem dX7_cross_24 : decode cX7_cross 24 = .ok (.iload_n 2, 1) := by decide +kernel
theorem dX7_cross_25 : decode cX7_cross 25 = .ok (.sipush 999, 3) := by decide +kernel
theorem dX7_cross_28 : decode cX7_cross 28 = .ok (.aload_n 1, 1) := by decide +kernel
theorem dX7_cross_29 : decode cX7_cross 29 = .ok (.getfield 102, 3) := by decide +kernel
theorem dX7_cross_32 : decode cX7_cross 32 = .ok (.iload_n 2, 1) := by decide +kernel
theorem dX7_cross_33 : decode cX7_cross 33 = .ok (.iaload, 1) := by decide +kernel
theorem dX7_cross_34 : decode cX7_cross 34 = .ok (.iconst 1, 1) := by decide +kernel
theorem dX7_cross_35 : decode cX7_cross 35 = .ok (.iadd, 1) := by decide +kernel
theorem dX7_cross_36 : decode cX7_cross 36 = .ok (.invokestatic 35, 3) := by decide +kernel
theorem dX7_cross_39 : decode cX7_cross 39 = .ok (.iastore, 1) := by decide +kernel
theorem dX7_cross_40 : decode cX7_cross 40 = .ok (.aload_n 0, 1) := by decide +kernel
theorem dX7_cross_41 : decode cX7_cross 41 = .ok (.dup, 1) := by decide +kernel
theorem dX7_cross_42 : decode cX7_cross 42 = .ok (.getfield 21, 3) := by decide +kernel
theorem dX7_cross_45 : decode cX7_cross 45 = .ok (.iconst 1, 1) := by decide +kernel
theorem dX7_cross_46 : decode cX7_cross 46 = .ok (.iadd, 1) := by decide +kernel
theorem dX7_cross_47 : decode cX7_cross 47 = .ok (.putfield 21, 3) := by decide +kernel
theorem dX7_cross_50 : decode cX7_cross 50 = .ok (.return_, 1) := by decide +kernel
theorem dX7_cross_51 : decode cX7_cross 51 = .ok (.iload 4, 2) := by decide +kernel
theorem dX7_cross_53 : decode cX7_cross 53 = .ok (.aload_n 0, 1) := by decide +kernel
theorem dX7_cross_54 : decode cX7_cross 54 = .ok (.getfield 9, 3) := by decide +kernel
theorem dX7_cross_57 : decode cX7_cross 57 = .ok (.if_icmp .le 34, 3) := by decide +kernel
theorem dX7_cross_60 : decode cX7_cross 60 = .ok (.aload_n 1, 1) := by decide +kernel
theorem dX7_cross_61 : decode cX7_cross 61 = .ok (.getfield 104, 3) := by decide +kernel
theorem dX7_cross_64 : decode cX7_cross 64 = .ok (.iload_n 2, 1) := by decide +kernel
theorem dX7_cross_65 : decode cX7_cross 65 = .ok (.sipush 9999, 3) := by decide +kernel
theorem dX7_cross_68 : decode cX7_cross 68 = .ok (.aload_n 1, 1) := by decide +kernel
theorem dX7_cross_69 : decode cX7_cross 69 = .ok (.getfield 104, 3) := by decide +kernel
theorem dX7_cross_72 : decode cX7_cross 72 = .ok (.iload_n 2, 1) := by decide +kernel
theorem dX7_cross_73 : decode cX7_cross 73 = .ok (.iaload, 1) := by decide +kernel
theorem dX7_cross_74 : decode cX7_cross 74 = .ok (.iload 4, 2) := by decide +kernel
theorem dX7_cross_76 : decode cX7_cross 76 = .ok (.iadd, 1) := by decide +kernel
theorem dX7_cross_77 : decode cX7_cross 77 = .ok (.invokestatic 35, 3) := by decide +kernel
theorem dX7_cross_80 : decode cX7_cross 80 = .ok (.iastore, 1) := by decide +kernel
theorem dX7_cross_81 : decode cX7_cross 81 = .ok (.aload_n 0, 1) := by decide +kernel
theorem dX7_cross_82 : decode cX7_cross 82 = .ok (.dup, 1) := by decide +kernel
theorem dX7_cross_83 : decode cX7_cross 83 = .ok (.getfield 24, 3) := by decide +kernel
theorem dX7_cross_86 : decode cX7_cross 86 = .ok (.iconst 1, 1) := by decide +kernel
theorem dX7_cross_87 : decode cX7_cross 87 = .ok (.iadd, 1) := by decide +kernel
theorem dX7_cross_88 : decode cX7_cross 88 = .ok (.putfield 24, 3) := by decide +kernel
theorem dX7_cross_91 : decode cX7_cross 91 = .ok (.aload_n 1, 1) := by decide +kernel
theorem dX7_cross_92 : decode cX7_cross 92 = .ok (.dup, 1) := by decide +kernel
theorem dX7_cross_93 : decode cX7_cross 93 = .ok (.getfield 76, 3) := by decide +kernel
theorem dX7_cross_96 : decode cX7_cross 96 = .ok (.iconst 1, 1) := by decide +kernel
theorem dX7_cross_97 : decode cX7_cross 97 = .ok (.iload_n 2, 1) := by decide +kernel
theorem dX7_cross_98 : decode cX7_cross 98 = .ok (.ishl, 1) := by decide +kernel
theorem dX7_cross_99 : decode cX7_cross 99 = .ok (.ior, 1) := by decide +kernel
theorem dX7_cross_100 : decode cX7_cross 100 = .ok (.putfield 76, 3) := by decide +kernel
theorem dX7_cross_103 : decode cX7_cross 103 = .ok (.aload_n 0, 1) := by decide +kernel
theorem dX7_cross_104 : decode cX7_cross 104 = .ok (.dup, 1) := by decide +kernel
theorem dX7_cross_105 : decode cX7_cross 105 = .ok (.getfield 18, 3) := by decide +kernel
theorem dX7_cross_108 : decode cX7_cross 108 = .ok (.iconst 1, 1) := by decide +kernel
theorem dX7_cross_109 : decode cX7_cross 109 = .ok (.iadd, 1) := by decide +kernel
theorem dX7_cross_110 : decode cX7_cross 110 = .ok (.putfield 18, 3) := by decide +kernel
theorem dX7_cross_113 : decode cX7_cross 113 = .ok (.return_, 1) := by decide +kernel
theorem dX8_init_0 : decode cX8_init 0 = .ok (.aload_n 0, 1) := by decide +kernel
theorem dX8_init_1 : decode cX8_init 1 = .ok (.invokespecial 3, 3) := by decide +kernel
theorem dX8_init_4 : decode cX8_init 4 = .ok (.aload_n 0, 1) := by decide +kernel
theorem dX8_init_5 : decode cX8_init 5 = .ok (.sipush 260, 3) := by decide +kernel
theorem dX8_init_8 : decode cX8_init 8 = .ok (.newarray .int, 2) := by decide +kernel
theorem dX8_init_10 : decode cX8_init 10 = .ok (.putfield 11, 3) := by decide +kernel
theorem dX8_init_13 : decode cX8_init 13 = .ok (.aload_n 0, 1) := by decide +kernel
theorem dX8_init_14 : decode cX8_init 14 = .ok (.iconst 0, 1) := by decide +kernel
theorem dX8_init_15 : decode cX8_init 15 = .ok (.putfield 15, 3) := by decide +kernel
theorem dX8_init_18 : decode cX8_init 18 = .ok (.return_, 1) := by decide +kernel
theorem dX8_hasRoom_0 : decode cX8_hasRoom 0 = .ok (.aload_n 0, 1) := by decide +kernel
theorem dX8_hasRoom_1 : decode cX8_hasRoom 1 = .ok (.getfield 15, 3) := by decide +kernel
theorem dX8_hasRoom_4 : decode cX8_hasRoom 4 = .ok (.bipush 20, 2) := by decide +kernel
theorem dX8_hasRoom_6 : decode cX8_hasRoom 6 = .ok (.iadd, 1) := by decide +kernel
theorem dX8_hasRoom_7 : decode cX8_hasRoom 7 = .ok (.sipush 260, 3) := by decide +kernel
theorem dX8_hasRoom_10 : decode cX8_hasRoom 10 = .ok (.if_icmp .gt 7, 3) := by decide +kernel
theorem dX8_hasRoom_13 : decode cX8_hasRoom 13 = .ok (.iconst 1, 1) := by decide +kernel
theorem dX8_hasRoom_14 : decode cX8_hasRoom 14 = .ok (.goto 4, 3) := by decide +kernel
theorem dX8_hasRoom_17 : decode cX8_hasRoom 17 = .ok (.iconst 0, 1) := by decide +kernel
theorem dX8_hasRoom_18 : decode cX8_hasRoom 18 = .ok (.ireturn, 1) := by decide +kernel
theorem dX8_append_0 : decode cX8_append 0 = .ok (.bipush 24, 2) := by decide +kernel
theorem dX8_append_2 : decode cX8_append 2 = .ok (.istore_n 2, 1) := by decide +kernel
theorem dX8_append_3 : decode cX8_append 3 = .ok (.iload_n 2, 1) := by decide +kernel
theorem dX8_append_4 : decode cX8_append 4 = .ok (.ifCond .lt 45, 3) := by decide +kernel
theorem dX8_append_7 : decode cX8_append 7 = .ok (.aload_n 0, 1) := by decide +kernel
theorem dX8_append_8 : decode cX8_append 8 = .ok (.getfield 15, 3) := by decide +kernel
theorem dX8_append_11 : decode cX8_append 11 = .ok (.sipush 260, 3) := by decide +kernel
theorem dX8_append_14 : decode cX8_append 14 = .ok (.if_icmp .ge 35, 3) := by decide +kernel
theorem dX8_append_17 : decode cX8_append 17 = .ok (.aload_n 0, 1) := by decide +kernel
theorem dX8_append_18 : decode cX8_append 18 = .ok (.getfield 11, 3) := by decide +kernel
theorem dX8_append_21 : decode cX8_append 21 = .ok (.aload_n 0, 1) := by decide +kernel
theorem dX8_append_22 : decode cX8_append 22 = .ok (.getfield 15, 3) := by decide +kernel
theorem dX8_append_25 : decode cX8_append 25 = .ok (.iload_n 1, 1) := by decide +kernel
theorem dX8_append_26 : decode cX8_append 26 = .ok (.iload_n 2, 1) := by decide +kernel
theorem dX8_append_27 : decode cX8_append 27 = .ok (.ishr, 1) := by decide +kernel
theorem dX8_append_28 : decode cX8_append 28 = .ok (.sipush 255, 3) := by decide +kernel
theorem dX8_append_31 : decode cX8_append 31 = .ok (.iand, 1) := by decide +kernel
theorem dX8_append_32 : decode cX8_append 32 = .ok (.iastore, 1) := by decide +kernel
theorem dX8_append_33 : decode cX8_append 33 = .ok (.aload_n 0, 1) := by decide +kernel
theorem dX8_append_34 : decode cX8_append 34 = .ok (.dup, 1) := by decide +kernel
theorem dX8_append_35 : decode cX8_append 35 = .ok (.getfield 15, 3) := by decide +kernel
theorem dX8_append_38 : decode cX8_append 38 = .ok (.iconst 1, 1) := by decide +kernel
theorem dX8_append_39 : decode cX8_append 39 = .ok (.iadd, 1) := by decide +kernel
theorem dX8_append_40 : decode cX8_append 40 = .ok (.putfield 15, 3) := by decide +kernel
theorem dX8_append_43 : decode cX8_append 43 = .ok (.iinc 2 (-8), 3) := by decide +kernel
theorem dX8_append_46 : decode cX8_append 46 = .ok (.goto (-43), 3) := by decide +kernel
theorem dX8_append_49 : decode cX8_append 49 = .ok (.return_, 1) := by decide +kernel
set_option maxRecDepth 20000 in
theorem ggX8_offers_X11_isWithin : GoodIn wsX8_offers wsX11_isWithin := goodIn_r _ [4] (by decide +kernel) (by decide +kernel)
set_option maxRecDepth 20000 in
theorem gX8_offers_X11_isWithin_n19 : GoodIn wsX8_offers (wsX11_isWithin) := ggX8_offers_X11_isWithin
theorem dX8_offers_0 : decode cX8_offers 0 = .ok (.iload_n 1, 1) := by decide +kernel
theorem dX8_offers_1 : decode cX8_offers 1 = .ok (.iload_n 2, 1) := by decide +kernel
theorem dX8_offers_2 : decode cX8_offers 2 = .ok (.iload_n 3, 1) := by decide +kernel
theorem dX8_offers_3 : decode cX8_offers 3 = .ok (.invokestatic 19, 3) := by decide +kernel
theorem dX8_offers_6 : decode cX8_offers 6 = .ok (.ifCond .eq 15, 3) := by decide +kernel
theorem dX8_offers_9 : decode cX8_offers 9 = .ok (.iload_n 1, 1) := by decide +kernel
theorem dX8_offers_10 : decode cX8_offers 10 = .ok (.aload_n 0, 1) := by decide +kernel
theorem dX8_offers_11 : decode cX8_offers 11 = .ok (.getfield 15, 3) := by decide +kernel
theorem dX8_offers_14 : decode cX8_offers 14 = .ok (.if_icmp .gt 7, 3) := by decide +kernel
theorem dX8_offers_17 : decode cX8_offers 17 = .ok (.iconst 1, 1) := by decide +kernel
theorem dX8_offers_18 : decode cX8_offers 18 = .ok (.goto 4, 3) := by decide +kernel
theorem dX8_offers_21 : decode cX8_offers 21 = .ok (.iconst 0, 1) := by decide +kernel
theorem dX8_offers_22 : decode cX8_offers 22 = .ok (.ireturn, 1) := by decide +kernel
theorem dX8_at_0 : decode cX8_at 0 = .ok (.iload_n 1, 1) := by decide +kernel
theorem dX8_at_1 : decode cX8_at 1 = .ok (.ifCond .lt 20, 3) := by decide +kernel
theorem dX8_at_4 : decode cX8_at 4 = .ok (.iload_n 1, 1) := by decide +kernel
theorem dX8_at_5 : decode cX8_at 5 = .ok (.aload_n 0, 1) := by decide +kernel
theorem dX8_at_6 : decode cX8_at 6 = .ok (.getfield 15, 3) := by decide +kernel
theorem dX8_at_9 : decode cX8_at 9 = .ok (.if_icmp .ge 12, 3) := by decide +kernel
theorem dX8_at_12 : decode cX8_at 12 = .ok (.aload_n 0, 1) := by decide +kernel
theorem dX8_at_13 : decode cX8_at 13 = .ok (.getfield 11, 3) := by decide +kernel
theorem dX8_at_16 : decode cX8_at 16 = .ok (.iload_n 1, 1) := by decide +kernel
theorem dX8_at_17 : decode cX8_at 17 = .ok (.iaload, 1) := by decide +kernel
theorem dX8_at_18 : decode cX8_at 18 = .ok (.goto 4, 3) := by decide +kernel
theorem dX8_at_21 : decode cX8_at 21 = .ok (.iconst (-1), 1) := by decide +kernel
theorem dX8_at_22 : decode cX8_at 22 = .ok (.ireturn, 1) := by decide +kernel
theorem dX8_clear_0 : decode cX8_clear 0 = .ok (.aload_n 0, 1) := by decide +kernel
theorem dX8_clear_1 : decode cX8_clear 1 = .ok (.iconst 0, 1) := by decide +kernel
theorem dX8_clear_2 : decode cX8_clear 2 = .ok (.putfield 15, 3) := by decide +kernel
theorem dX8_clear_5 : decode cX8_clear 5 = .ok (.return_, 1) := by decide +kernel
theorem dX9_init_0 : decode cX9_init 0 = .ok (.aload_n 0, 1) := by decide +kernel
theorem dX9_init_1 : decode cX9_init 1 = .ok (.invokespecial 3, 3) := by decide +kernel
theorem dX9_init_4 : decode cX9_init 4 = .ok (.aload_n 0, 1) := by decide +kernel
theorem dX9_init_5 : decode cX9_init 5 = .ok (.bipush 16, 2) := by decide +kernel
theorem dX9_init_7 : decode cX9_init 7 = .ok (.newarray .int, 2) := by decide +kernel
theorem dX9_init_9 : decode cX9_init 9 = .ok (.putfield 9, 3) := by decide +kernel
theorem dX9_init_12 : decode cX9_init 12 = .ok (.aload_n 0, 1) := by decide +kernel
theorem dX9_init_13 : decode cX9_init 13 = .ok (.bipush 16, 2) := by decide +kernel
theorem dX9_init_15 : decode cX9_init 15 = .ok (.newarray .int, 2) := by decide +kernel
theorem dX9_init_17 : decode cX9_init 17 = .ok (.putfield 15, 3) := by decide +kernel
theorem dX9_init_20 : decode cX9_init 20 = .ok (.aload_n 0, 1) := by decide +kernel
theorem dX9_init_21 : decode cX9_init 21 = .ok (.bipush 16, 2) := by decide +kernel
theorem dX9_init_23 : decode cX9_init 23 = .ok (.newarray .int, 2) := by decide +kernel
theorem dX9_init_25 : decode cX9_init 25 = .ok (.putfield 18, 3) := by decide +kernel
theorem dX9_init_28 : decode cX9_init 28 = .ok (.aload_n 0, 1) := by decide +kernel
theorem dX9_init_29 : decode cX9_init 29 = .ok (.bipush 16, 2) := by decide +kernel
theorem dX9_init_31 : decode cX9_init 31 = .ok (.newarray .int, 2) := by decide +kernel
theorem dX9_init_33 : decode cX9_init 33 = .ok (.putfield 21, 3) := by decide +kernel
theorem dX9_init_36 : decode cX9_init 36 = .ok (.aload_n 0, 1) := by decide +kernel
theorem dX9_init_37 : decode cX9_init 37 = .ok (.iconst 0, 1) := by decide +kernel
theorem dX9_init_38 : decode cX9_init 38 = .ok (.putfield 24, 3) := by decide +kernel
theorem dX9_init_41 : decode cX9_init 41 = .ok (.aload_n 0, 1) := by decide +kernel
theorem dX9_init_42 : decode cX9_init 42 = .ok (.iconst 0, 1) := by decide +kernel
theorem dX9_init_43 : decode cX9_init 43 = .ok (.putfield 28, 3) := by decide +kernel
theorem dX9_init_46 : decode cX9_init 46 = .ok (.aload_n 0, 1) := by decide +kernel
theorem dX9_init_47 : decode cX9_init 47 = .ok (.iconst 0, 1) := by decide +kernel
theorem dX9_init_48 : decode cX9_init 48 = .ok (.putfield 31, 3) := by decide +kernel
theorem dX9_init_51 : decode cX9_init 51 = .ok (.aload_n 0, 1) := by decide +kernel
theorem dX9_init_52 : decode cX9_init 52 = .ok (.iconst 1, 1) := by decide +kernel
theorem dX9_init_53 : decode cX9_init 53 = .ok (.putfield 34, 3) := by decide +kernel
theorem dX9_init_56 : decode cX9_init 56 = .ok (.return_, 1) := by decide +kernel
theorem dX9_copyFrom_0 : decode cX9_copyFrom 0 = .ok (.aload_n 1, 1) := by decide +kernel
theorem dX9_copyFrom_1 : decode cX9_copyFrom 1 = .ok (.getfield 9, 3) := by decide +kernel
theorem dX9_copyFrom_4 : decode cX9_copyFrom 4 = .ok (.iconst 0, 1) := by decide +kernel
theorem dX9_copyFrom_5 : decode cX9_copyFrom 5 = .ok (.aload_n 0, 1) := by decide +kernel
theorem dX9_copyFrom_6 : decode cX9_copyFrom 6 = .ok (.getfield 9, 3) := by decide +kernel
theorem dX9_copyFrom_9 : decode cX9_copyFrom 9 = .ok (.iconst 0, 1) := by decide +kernel
theorem dX9_copyFrom_10 : decode cX9_copyFrom 10 = .ok (.bipush 16, 2) := by decide +kernel
theorem dX9_copyFrom_12 : decode cX9_copyFrom 12 = .ok (.invokestatic 37, 3) := by decide +kernel
theorem dX9_copyFrom_15 : decode cX9_copyFrom 15 = .ok (.aload_n 1, 1) := by decide +kernel
theorem dX9_copyFrom_16 : decode cX9_copyFrom 16 = .ok (.getfield 15, 3) := by decide +kernel
theorem dX9_copyFrom_19 : decode cX9_copyFrom 19 = .ok (.iconst 0, 1) := by decide +kernel
theorem dX9_copyFrom_20 : decode cX9_copyFrom 20 = .ok (.aload_n 0, 1) := by decide +kernel
theorem dX9_copyFrom_21 : decode cX9_copyFrom 21 = .ok (.getfield 15, 3) := by decide +kernel
theorem dX9_copyFrom_24 : decode cX9_copyFrom 24 = .ok (.iconst 0, 1) := by decide +kernel
theorem dX9_copyFrom_25 : decode cX9_copyFrom 25 = .ok (.bipush 16, 2) := by decide +kernel
theorem dX9_copyFrom_27 : decode cX9_copyFrom 27 = .ok (.invokestatic 37, 3) := by decide +kernel
theorem dX9_copyFrom_30 : decode cX9_copyFrom 30 = .ok (.aload_n 1, 1) := by decide +kernel
theorem dX9_copyFrom_31 : decode cX9_copyFrom 31 = .ok (.getfield 18, 3) := by decide +kernel
theorem dX9_copyFrom_34 : decode cX9_copyFrom 34 = .ok (.iconst 0, 1) := by decide +kernel
theorem dX9_copyFrom_35 : decode cX9_copyFrom 35 = .ok (.aload_n 0, 1) := by decide +kernel
theorem dX9_copyFrom_36 : decode cX9_copyFrom 36 = .ok (.getfield 18, 3) := by decide +kernel
theorem dX9_copyFrom_39 : decode cX9_copyFrom 39 = .ok (.iconst 0, 1) := by decide +kernel
theorem dX9_copyFrom_40 : decode cX9_copyFrom 40 = .ok (.bipush 16, 2) := by decide +kernel
theorem dX9_copyFrom_42 : decode cX9_copyFrom 42 = .ok (.invokestatic 37, 3) := by decide +kernel
theorem dX9_copyFrom_45 : decode cX9_copyFrom 45 = .ok (.aload_n 1, 1) := by decide +kernel
theorem dX9_copyFrom_46 : decode cX9_copyFrom 46 = .ok (.getfield 21, 3) := by decide +kernel
theorem dX9_copyFrom_49 : decode cX9_copyFrom 49 = .ok (.iconst 0, 1) := by decide +kernel
theorem dX9_copyFrom_50 : decode cX9_copyFrom 50 = .ok (.aload_n 0, 1) := by decide +kernel
theorem dX9_copyFrom_51 : decode cX9_copyFrom 51 = .ok (.getfield 21, 3) := by decide +kernel
theorem dX9_copyFrom_54 : decode cX9_copyFrom 54 = .ok (.iconst 0, 1) := by decide +kernel
theorem dX9_copyFrom_55 : decode cX9_copyFrom 55 = .ok (.bipush 16, 2) := by decide +kernel
theorem dX9_copyFrom_57 : decode cX9_copyFrom 57 = .ok (.invokestatic 37, 3) := by decide +kernel
theorem dX9_copyFrom_60 : decode cX9_copyFrom 60 = .ok (.aload_n 0, 1) := by decide +kernel
theorem dX9_copyFrom_61 : decode cX9_copyFrom 61 = .ok (.aload_n 1, 1) := by decide +kernel
theorem dX9_copyFrom_62 : decode cX9_copyFrom 62 = .ok (.getfield 24, 3) := by decide +kernel
theorem dX9_copyFrom_65 : decode cX9_copyFrom 65 = .ok (.putfield 24, 3) := by decide +kernel
theorem dX9_copyFrom_68 : decode cX9_copyFrom 68 = .ok (.aload_n 0, 1) := by decide +kernel
theorem dX9_copyFrom_69 : decode cX9_copyFrom 69 = .ok (.aload_n 1, 1) := by decide +kernel
theorem dX9_copyFrom_70 : decode cX9_copyFrom 70 = .ok (.getfield 28, 3) := by decide +kernel
theorem dX9_copyFrom_73 : decode cX9_copyFrom 73 = .ok (.putfield 28, 3) := by decide +kernel
theorem dX9_copyFrom_76 : decode cX9_copyFrom 76 = .ok (.aload_n 0, 1) := by decide +kernel
theorem dX9_copyFrom_77 : decode cX9_copyFrom 77 = .ok (.aload_n 1, 1) := by decide +kernel
theorem dX9_copyFrom_78 : decode cX9_copyFrom 78 = .ok (.getfield 31, 3) := by decide +kernel
theorem dX9_copyFrom_81 : decode cX9_copyFrom 81 = .ok (.putfield 31, 3) := by decide +kernel
theorem dX9_copyFrom_84 : decode cX9_copyFrom 84 = .ok (.aload_n 0, 1) := by decide +kernel
theorem dX9_copyFrom_85 : decode cX9_copyFrom 85 = .ok (.aload_n 1, 1) := by decide +kernel
theorem dX9_copyFrom_86 : decode cX9_copyFrom 86 = .ok (.getfield 34, 3) := by decide +kernel
theorem dX9_copyFrom_89 : decode cX9_copyFrom 89 = .ok (.putfield 34, 3) := by decide +kernel
theorem dX9_copyFrom_92 : decode cX9_copyFrom 92 = .ok (.return_, 1) := by decide +kernel
theorem dX9_tell_0 : decode cX9_tell 0 = .ok (.aload_n 0, 1) := by decide +kernel
theorem dX9_tell_1 : decode cX9_tell 1 = .ok (.getfield 9, 3) := by decide +kernel
theorem dX9_tell_4 : decode cX9_tell 4 = .ok (.iload_n 1, 1) := by decide +kernel
theorem dX9_tell_5 : decode cX9_tell 5 = .ok (.iload_n 2, 1) := by decide +kernel
theorem dX9_tell_6 : decode cX9_tell 6 = .ok (.iastore, 1) := by decide +kernel
theorem dX9_tell_7 : decode cX9_tell 7 = .ok (.aload_n 0, 1) := by decide +kernel
theorem dX9_tell_8 : decode cX9_tell 8 = .ok (.getfield 15, 3) := by decide +kernel
theorem dX9_tell_11 : decode cX9_tell 11 = .ok (.iload_n 1, 1) := by decide +kernel
theorem dX9_tell_12 : decode cX9_tell 12 = .ok (.iload_n 2, 1) := by decide +kernel
theorem dX9_tell_13 : decode cX9_tell 13 = .ok (.iastore, 1) := by decide +kernel
theorem dX9_tell_14 : decode cX9_tell 14 = .ok (.aload_n 0, 1) := by decide +kernel
theorem dX9_tell_15 : decode cX9_tell 15 = .ok (.getfield 18, 3) := by decide +kernel
theorem dX9_tell_18 : decode cX9_tell 18 = .ok (.iload_n 1, 1) := by decide +kernel
theorem dX9_tell_19 : decode cX9_tell 19 = .ok (.iconst 0, 1) := by decide +kernel
theorem dX9_tell_20 : decode cX9_tell 20 = .ok (.iastore, 1) := by decide +kernel
theorem dX9_tell_21 : decode cX9_tell 21 = .ok (.aload_n 0, 1) := by decide +kernel
theorem dX9_tell_22 : decode cX9_tell 22 = .ok (.getfield 21, 3) := by decide +kernel
theorem dX9_tell_25 : decode cX9_tell 25 = .ok (.iload_n 1, 1) := by decide +kernel
theorem dX9_tell_26 : decode cX9_tell 26 = .ok (.iconst 0, 1) := by decide +kernel
theorem dX9_tell_27 : decode cX9_tell 27 = .ok (.iastore, 1) := by decide +kernel
theorem dX9_tell_28 : decode cX9_tell 28 = .ok (.aload_n 0, 1) := by decide +kernel
theorem dX9_tell_29 : decode cX9_tell 29 = .ok (.dup, 1) := by decide +kernel
theorem dX9_tell_30 : decode cX9_tell 30 = .ok (.getfield 24, 3) := by decide +kernel
theorem dX9_tell_33 : decode cX9_tell 33 = .ok (.iconst 1, 1) := by decide +kernel
theorem dX9_tell_34 : decode cX9_tell 34 = .ok (.iload_n 1, 1) := by decide +kernel
theorem dX9_tell_35 : decode cX9_tell 35 = .ok (.ishl, 1) := by decide +kernel
theorem dX9_tell_36 : decode cX9_tell 36 = .ok (.ior, 1) := by decide +kernel
theorem dX9_tell_37 : decode cX9_tell 37 = .ok (.putfield 24, 3) := by decide +kernel
theorem dX9_tell_40 : decode cX9_tell 40 = .ok (.aload_n 0, 1) := by decide +kernel
theorem dX9_tell_41 : decode cX9_tell 41 = .ok (.dup, 1) := by decide +kernel
theorem dX9_tell_42 : decode cX9_tell 42 = .ok (.getfield 28, 3) := by decide +kernel
theorem dX9_tell_45 : decode cX9_tell 45 = .ok (.iconst 1, 1) := by decide +kernel
theorem dX9_tell_46 : decode cX9_tell 46 = .ok (.iload_n 1, 1) := by decide +kernel
theorem dX9_tell_47 : decode cX9_tell 47 = .ok (.ishl, 1) := by decide +kernel
theorem dX9_tell_48 : decode cX9_tell 48 = .ok (.iconst (-1), 1) := by decide +kernel
theorem dX9_tell_49 : decode cX9_tell 49 = .ok (.ixor, 1) := by decide +kernel
theorem dX9_tell_50 : decode cX9_tell 50 = .ok (.iand, 1) := by decide +kernel
theorem dX9_tell_51 : decode cX9_tell 51 = .ok (.putfield 28, 3) := by decide +kernel
theorem dX9_tell_54 : decode cX9_tell 54 = .ok (.return_, 1) := by decide +kernel
set_option maxRecDepth 20000 in
theorem ggX9_knows_X11_isWalker : GoodIn wsX9_knows wsX11_isWalker := goodIn_r _ [4, 5, 6, 3, 7] (by decide +kernel) (by decide +kernel)
set_option maxRecDepth 20000 in
theorem gX9_knows_X11_isWalker_n43 : GoodIn wsX9_knows (wsX11_isWalker) := ggX9_knows_X11_isWalker
set_option maxRecDepth 20000 in
theorem ggX9_knows_X11_has : GoodIn wsX9_knows wsX11_has := goodIn_r _ [9] (by decide +kernel) (by decide +kernel)
set_option maxRecDepth 20000 in
theorem gX9_knows_X11_has_n47 : GoodIn wsX9_knows (wsX11_has) := ggX9_knows_X11_has
theorem dX9_knows_0 : decode cX9_knows 0 = .ok (.iload_n 1, 1) := by decide +kernel
theorem dX9_knows_1 : decode cX9_knows 1 = .ok (.invokestatic 43, 3) := by decide +kernel
theorem dX9_knows_4 : decode cX9_knows 4 = .ok (.ifCond .eq 18, 3) := by decide +kernel
theorem dX9_knows_7 : decode cX9_knows 7 = .ok (.aload_n 0, 1) := by decide +kernel
theorem dX9_knows_8 : decode cX9_knows 8 = .ok (.getfield 24, 3) := by decide +kernel
theorem dX9_knows_11 : decode cX9_knows 11 = .ok (.iload_n 1, 1) := by decide +kernel
theorem dX9_knows_12 : decode cX9_knows 12 = .ok (.invokestatic 47, 3) := by decide +kernel
theorem dX9_knows_15 : decode cX9_knows 15 = .ok (.ifCond .eq 7, 3) := by decide +kernel
theorem dX9_knows_18 : decode cX9_knows 18 = .ok (.iconst 1, 1) := by decide +kernel
theorem dX9_knows_19 : decode cX9_knows 19 = .ok (.goto 4, 3) := by decide +kernel
theorem dX9_knows_22 : decode cX9_knows 22 = .ok (.iconst 0, 1) := by decide +kernel
theorem dX9_knows_23 : decode cX9_knows 23 = .ok (.ireturn, 1) := by decide +kernel
theorem dX9_here_0 : decode cX9_here 0 = .ok (.aload_n 0, 1) := by decide +kernel
theorem dX9_here_1 : decode cX9_here 1 = .ok (.getfield 24, 3) := by decide +kernel
theorem dX9_here_4 : decode cX9_here 4 = .ok (.aload_n 0, 1) := by decide +kernel
theorem dX9_here_5 : decode cX9_here 5 = .ok (.getfield 28, 3) := by decide +kernel
theorem dX9_here_8 : decode cX9_here 8 = .ok (.iconst (-1), 1) := by decide +kernel
theorem dX9_here_9 : decode cX9_here 9 = .ok (.ixor, 1) := by decide +kernel
theorem dX9_here_10 : decode cX9_here 10 = .ok (.iand, 1) := by decide +kernel
theorem dX9_here_11 : decode cX9_here 11 = .ok (.ireturn, 1) := by decide +kernel
set_option maxRecDepth 20000 in
theorem ggX9_othersHere_X9_here : GoodIn wsX9_othersHere wsX9_here := goodIn_r _ [5, 6, 7, 8, 9, 10, 11, 12, 13, 14, 15] (by decide +kernel) (by decide +kernel)
set_option maxRecDepth 20000 in
theorem gX9_othersHere_X9_here : GoodIn wsX9_othersHere (wsV RX9 51 RX9 yX9_here wsX9_here) := goodIn_app (goodIn_of _ (by decide +kernel)) ggX9_othersHere_X9_here
theorem dX9_othersHere_0 : decode cX9_othersHere 0 = .ok (.aload_n 0, 1) := by decide +kernel
theorem dX9_othersHere_1 : decode cX9_othersHere 1 = .ok (.invokevirtual 51, 3) := by decide +kernel
theorem dX9_othersHere_4 : decode cX9_othersHere 4 = .ok (.iconst 1, 1) := by decide +kernel
theorem dX9_othersHere_5 : decode cX9_othersHere 5 = .ok (.iload_n 1, 1) := by decide +kernel
theorem dX9_othersHere_6 : decode cX9_othersHere 6 = .ok (.ishl, 1) := by decide +kernel
theorem dX9_othersHere_7 : decode cX9_othersHere 7 = .ok (.iconst (-1), 1) := by decide +kernel
theorem dX9_othersHere_8 : decode cX9_othersHere 8 = .ok (.ixor, 1) := by decide +kernel
theorem dX9_othersHere_9 : decode cX9_othersHere 9 = .ok (.iand, 1) := by decide +kernel
theorem dX9_othersHere_10 : decode cX9_othersHere 10 = .ok (.ireturn, 1) := by decide +kernel
set_option maxRecDepth 20000 in
theorem ggX9_factOf_X9_knows : GoodIn wsX9_factOf wsX9_knows := goodIn_r _ [10, 11, 12, 13, 14, 15, 16, 17, 18, 19, 20, 21, 22, 23, 24, 25, 26, 27] (by decide +kernel) (by decide +kernel)
set_option maxRecDepth 20000 in
theorem gX9_factOf_X9_knows : GoodIn wsX9_factOf (wsV RX9 55 RX9 yX9_knows wsX9_knows) := goodIn_app (goodIn_of _ (by decide +kernel)) ggX9_factOf_X9_knows
theorem dX9_factOf_0 : decode cX9_factOf 0 = .ok (.aload_n 0, 1) := by decide +kernel
theorem dX9_factOf_1 : decode cX9_factOf 1 = .ok (.iload_n 1, 1) := by decide +kernel
theorem dX9_factOf_2 : decode cX9_factOf 2 = .ok (.invokevirtual 55, 3) := by decide +kernel
theorem dX9_factOf_5 : decode cX9_factOf 5 = .ok (.ifCond .ne 5, 3) := by decide +kernel
theorem dX9_factOf_8 : decode cX9_factOf 8 = .ok (.iconst (-1), 1) := by decide +kernel
theorem dX9_factOf_9 : decode cX9_factOf 9 = .ok (.ireturn, 1) := by decide +kernel
theorem dX9_factOf_10 : decode cX9_factOf 10 = .ok (.iload_n 2, 1) := by decide +kernel
theorem dX9_factOf_11 : decode cX9_factOf 11 = .ok (.tableswitch 70 0 4 #[33, 40, 47, 56, 63], 33) := by decide +kernel
theorem dX9_factOf_44 : decode cX9_factOf 44 = .ok (.aload_n 0, 1) := by decide +kernel
theorem dX9_factOf_45 : decode cX9_factOf 45 = .ok (.getfield 9, 3) := by decide +kernel
theorem dX9_factOf_48 : decode cX9_factOf 48 = .ok (.iload_n 1, 1) := by decide +kernel
theorem dX9_factOf_49 : decode cX9_factOf 49 = .ok (.iaload, 1) := by decide +kernel
theorem dX9_factOf_50 : decode cX9_factOf 50 = .ok (.ireturn, 1) := by decide +kernel
theorem dX9_factOf_51 : decode cX9_factOf 51 = .ok (.aload_n 0, 1) := by decide +kernel
theorem dX9_factOf_52 : decode cX9_factOf 52 = .ok (.getfield 15, 3) := by decide +kernel
theorem dX9_factOf_55 : decode cX9_factOf 55 = .ok (.iload_n 1, 1) := by decide +kernel
theorem dX9_factOf_56 : decode cX9_factOf 56 = .ok (.iaload, 1) := by decide +kernel
theorem dX9_factOf_57 : decode cX9_factOf 57 = .ok (.ireturn, 1) := by decide +kernel
theorem dX9_factOf_58 : decode cX9_factOf 58 = .ok (.aload_n 0, 1) := by decide +kernel
theorem dX9_factOf_59 : decode cX9_factOf 59 = .ok (.getfield 28, 3) := by decide +kernel
theorem dX9_factOf_62 : decode cX9_factOf 62 = .ok (.iload_n 1, 1) := by decide +kernel
theorem dX9_factOf_63 : decode cX9_factOf 63 = .ok (.ishr, 1) := by decide +kernel
theorem dX9_factOf_64 : decode cX9_factOf 64 = .ok (.iconst 1, 1) := by decide +kernel
theorem dX9_factOf_65 : decode cX9_factOf 65 = .ok (.iand, 1) := by decide +kernel
theorem dX9_factOf_66 : decode cX9_factOf 66 = .ok (.ireturn, 1) := by decide +kernel
theorem dX9_factOf_67 : decode cX9_factOf 67 = .ok (.aload_n 0, 1) := by decide +kernel
theorem dX9_factOf_68 : decode cX9_factOf 68 = .ok (.getfield 18, 3) := by decide +kernel
theorem dX9_factOf_71 : decode cX9_factOf 71 = .ok (.iload_n 1, 1) := by decide +kernel
theorem dX9_factOf_72 : decode cX9_factOf 72 = .ok (.iaload, 1) := by decide +kernel
theorem dX9_factOf_73 : decode cX9_factOf 73 = .ok (.ireturn, 1) := by decide +kernel
theorem dX9_factOf_74 : decode cX9_factOf 74 = .ok (.aload_n 0, 1) := by decide +kernel
theorem dX9_factOf_75 : decode cX9_factOf 75 = .ok (.getfield 21, 3) := by decide +kernel
theorem dX9_factOf_78 : decode cX9_factOf 78 = .ok (.iload_n 1, 1) := by decide +kernel
theorem dX9_factOf_79 : decode cX9_factOf 79 = .ok (.iaload, 1) := by decide +kernel
theorem dX9_factOf_80 : decode cX9_factOf 80 = .ok (.ireturn, 1) := by decide +kernel
theorem dX9_factOf_81 : decode cX9_factOf 81 = .ok (.iconst (-1), 1) := by decide +kernel
theorem dX9_factOf_82 : decode cX9_factOf 82 = .ok (.ireturn, 1) := by decide +kernel
set_option maxRecDepth 20000 in
theorem ggX9_changeWeight_X11_bounded : GoodIn wsX9_changeWeight wsX11_bounded := goodIn_r _ [4, 5, 6, 7, 8, 9, 10, 11] (by decide +kernel) (by decide +kernel)
set_option maxRecDepth 20000 in
theorem gX9_changeWeight_X11_bounded_n58 : GoodIn wsX9_changeWeight (wsX11_bounded) := ggX9_changeWeight_X11_bounded
theorem dX9_changeWeight_0 : decode cX9_changeWeight 0 = .ok (.aload_n 0, 1) := by decide +kernel
theorem dX9_changeWeight_1 : decode cX9_changeWeight 1 = .ok (.getfield 9, 3) := by decide +kernel
theorem dX9_changeWeight_4 : decode cX9_changeWeight 4 = .ok (.iload_n 1, 1) := by decide +kernel
theorem dX9_changeWeight_5 : decode cX9_changeWeight 5 = .ok (.aload_n 0, 1) := by decide +kernel
theorem dX9_changeWeight_6 : decode cX9_changeWeight 6 = .ok (.getfield 9, 3) := by decide +kernel
theorem dX9_changeWeight_9 : decode cX9_changeWeight 9 = .ok (.iload_n 1, 1) := by decide +kernel
theorem dX9_changeWeight_10 : decode cX9_changeWeight 10 = .ok (.iaload, 1) := by decide +kernel
theorem dX9_changeWeight_11 : decode cX9_changeWeight 11 = .ok (.iload_n 2, 1) := by decide +kernel
theorem dX9_changeWeight_12 : decode cX9_changeWeight 12 = .ok (.iadd, 1) := by decide +kernel
theorem dX9_changeWeight_13 : decode cX9_changeWeight 13 = .ok (.iconst 1, 1) := by decide +kernel
theorem dX9_changeWeight_14 : decode cX9_changeWeight 14 = .ok (.sipush 999, 3) := by decide +kernel
theorem dX9_changeWeight_17 : decode cX9_changeWeight 17 = .ok (.invokestatic 58, 3) := by decide +kernel
theorem dX9_changeWeight_20 : decode cX9_changeWeight 20 = .ok (.iastore, 1) := by decide +kernel
theorem dX9_changeWeight_21 : decode cX9_changeWeight 21 = .ok (.return_, 1) := by decide +kernel
theorem dX9_draw_0 : decode cX9_draw 0 = .ok (.aload_n 0, 1) := by decide +kernel
theorem dX9_draw_1 : decode cX9_draw 1 = .ok (.sipush 25173, 3) := by decide +kernel
theorem dX9_draw_4 : decode cX9_draw 4 = .ok (.aload_n 0, 1) := by decide +kernel
theorem dX9_draw_5 : decode cX9_draw 5 = .ok (.getfield 34, 3) := by decide +kernel
theorem dX9_draw_8 : decode cX9_draw 8 = .ok (.imul, 1) := by decide +kernel
theorem dX9_draw_9 : decode cX9_draw 9 = .ok (.sipush 13849, 3) := by decide +kernel
theorem dX9_draw_12 : decode cX9_draw 12 = .ok (.iadd, 1) := by decide +kernel
theorem dX9_draw_13 : decode cX9_draw 13 = .ok (.ldc 62, 2) := by decide +kernel
theorem dX9_draw_15 : decode cX9_draw 15 = .ok (.iand, 1) := by decide +kernel
theorem dX9_draw_16 : decode cX9_draw 16 = .ok (.putfield 34, 3) := by decide +kernel
theorem dX9_draw_19 : decode cX9_draw 19 = .ok (.aload_n 0, 1) := by decide +kernel
theorem dX9_draw_20 : decode cX9_draw 20 = .ok (.getfield 34, 3) := by decide +kernel
theorem dX9_draw_23 : decode cX9_draw 23 = .ok (.bipush 10, 2) := by decide +kernel
theorem dX9_draw_25 : decode cX9_draw 25 = .ok (.irem, 1) := by decide +kernel
theorem dX9_draw_26 : decode cX9_draw 26 = .ok (.ireturn, 1) := by decide +kernel
set_option maxRecDepth 20000 in
theorem ggX9_total_X11_has : GoodIn wsX9_total wsX11_has := goodIn_r _ [4] (by decide +kernel) (by decide +kernel)
set_option maxRecDepth 20000 in
theorem gX9_total_X11_has_n47 : GoodIn wsX9_total (wsX11_has) := ggX9_total_X11_has
theorem dX9_total_0 : decode cX9_total 0 = .ok (.iconst 0, 1) := by decide +kernel
theorem dX9_total_1 : decode cX9_total 1 = .ok (.istore_n 2, 1) := by decide +kernel
theorem dX9_total_2 : decode cX9_total 2 = .ok (.iconst 0, 1) := by decide +kernel
theorem dX9_total_3 : decode cX9_total 3 = .ok (.istore_n 3, 1) := by decide +kernel
theorem dX9_total_4 : decode cX9_total 4 = .ok (.iload_n 3, 1) := by decide +kernel
theorem dX9_total_5 : decode cX9_total 5 = .ok (.bipush 16, 2) := by decide +kernel
theorem dX9_total_7 : decode cX9_total 7 = .ok (.if_icmp .ge 30, 3) := by decide +kernel
theorem dX9_total_10 : decode cX9_total 10 = .ok (.iload_n 2, 1) := by decide +kernel
theorem dX9_total_11 : decode cX9_total 11 = .ok (.aload_n 0, 1) := by decide +kernel
theorem dX9_total_12 : decode cX9_total 12 = .ok (.getfield 24, 3) := by decide +kernel
theorem dX9_total_15 : decode cX9_total 15 = .ok (.iload_n 3, 1) := by decide +kernel
theorem dX9_total_16 : decode cX9_total 16 = .ok (.invokestatic 47, 3) := by decide +kernel
theorem dX9_total_19 : decode cX9_total 19 = .ok (.ifCond .eq 9, 3) := by decide +kernel
theorem dX9_total_22 : decode cX9_total 22 = .ok (.aload_n 1, 1) := by decide +kernel
theorem dX9_total_23 : decode cX9_total 23 = .ok (.iload_n 3, 1) := by decide +kernel
theorem dX9_total_24 : decode cX9_total 24 = .ok (.iaload, 1) := by decide +kernel
theorem dX9_total_25 : decode cX9_total 25 = .ok (.goto 4, 3) := by decide +kernel
theorem dX9_total_28 : decode cX9_total 28 = .ok (.iconst 0, 1) := by decide +kernel
theorem dX9_total_29 : decode cX9_total 29 = .ok (.iadd, 1) := by decide +kernel
theorem dX9_total_30 : decode cX9_total 30 = .ok (.istore_n 2, 1) := by decide +kernel
theorem dX9_total_31 : decode cX9_total 31 = .ok (.iinc 3 1, 3) := by decide +kernel
theorem dX9_total_34 : decode cX9_total 34 = .ok (.goto (-30), 3) := by decide +kernel
theorem dX9_total_37 : decode cX9_total 37 = .ok (.iload_n 2, 1) := by decide +kernel
theorem dX9_total_38 : decode cX9_total 38 = .ok (.ireturn, 1) := by decide +kernel
set_option maxRecDepth 20000 in
theorem ggX9_lieOf_X11_has : GoodIn wsX9_lieOf wsX11_has := goodIn_r _ [10] (by decide +kernel) (by decide +kernel)
set_option maxRecDepth 20000 in
theorem gX9_lieOf_X11_has_n47 : GoodIn wsX9_lieOf (wsX11_has) := ggX9_lieOf_X11_has
theorem dX9_lieOf_0 : decode cX9_lieOf 0 = .ok (.aload_n 0, 1) := by decide +kernel
theorem dX9_lieOf_1 : decode cX9_lieOf 1 = .ok (.getfield 24, 3) := by decide +kernel
theorem dX9_lieOf_4 : decode cX9_lieOf 4 = .ok (.iload_n 1, 1) := by decide +kernel
theorem dX9_lieOf_5 : decode cX9_lieOf 5 = .ok (.invokestatic 47, 3) := by decide +kernel
theorem dX9_lieOf_8 : decode cX9_lieOf 8 = .ok (.ifCond .eq 22, 3) := by decide +kernel
theorem dX9_lieOf_11 : decode cX9_lieOf 11 = .ok (.aload_n 0, 1) := by decide +kernel
theorem dX9_lieOf_12 : decode cX9_lieOf 12 = .ok (.getfield 15, 3) := by decide +kernel
theorem dX9_lieOf_15 : decode cX9_lieOf 15 = .ok (.iload_n 1, 1) := by decide +kernel
theorem dX9_lieOf_16 : decode cX9_lieOf 16 = .ok (.iaload, 1) := by decide +kernel
theorem dX9_lieOf_17 : decode cX9_lieOf 17 = .ok (.aload_n 0, 1) := by decide +kernel
theorem dX9_lieOf_18 : decode cX9_lieOf 18 = .ok (.getfield 9, 3) := by decide +kernel
theorem dX9_lieOf_21 : decode cX9_lieOf 21 = .ok (.iload_n 1, 1) := by decide +kernel
theorem dX9_lieOf_22 : decode cX9_lieOf 22 = .ok (.iaload, 1) := by decide +kernel
theorem dX9_lieOf_23 : decode cX9_lieOf 23 = .ok (.isub, 1) := by decide +kernel
theorem dX9_lieOf_24 : decode cX9_lieOf 24 = .ok (.invokestatic 63, 3) := by decide +kernel
theorem dX9_lieOf_27 : decode cX9_lieOf 27 = .ok (.goto 4, 3) := by decide +kernel
theorem dX9_lieOf_30 : decode cX9_lieOf 30 = .ok (.iconst 0, 1) := by decide +kernel
theorem dX9_lieOf_31 : decode cX9_lieOf 31 = .ok (.ireturn, 1) := by decide +kernel
set_option maxRecDepth 20000 in
theorem ggX9_whoLies_X9_lieOf : GoodIn wsX9_whoLies wsX9_lieOf := goodIn_r _ [5, 6, 7, 8, 9, 10, 11, 12, 13, 14, 15, 16, 17, 18, 19, 20, 21, 22, 23] (by decide +kernel) (by decide +kernel)
set_option maxRecDepth 20000 in
theorem gX9_whoLies_X9_lieOf : GoodIn wsX9_whoLies (wsV RX9 69 RX9 yX9_lieOf wsX9_lieOf) := goodIn_app (goodIn_of _ (by decide +kernel)) ggX9_whoLies_X9_lieOf
theorem dX9_whoLies_0 : decode cX9_whoLies 0 = .ok (.iconst 0, 1) := by decide +kernel
theorem dX9_whoLies_1 : decode cX9_whoLies 1 = .ok (.istore_n 1, 1) := by decide +kernel
theorem dX9_whoLies_2 : decode cX9_whoLies 2 = .ok (.iconst 0, 1) := by decide +kernel
theorem dX9_whoLies_3 : decode cX9_whoLies 3 = .ok (.istore_n 2, 1) := by decide +kernel
theorem dX9_whoLies_4 : decode cX9_whoLies 4 = .ok (.iload_n 2, 1) := by decide +kernel
theorem dX9_whoLies_5 : decode cX9_whoLies 5 = .ok (.bipush 16, 2) := by decide +kernel
theorem dX9_whoLies_7 : decode cX9_whoLies 7 = .ok (.if_icmp .ge 27, 3) := by decide +kernel
theorem dX9_whoLies_10 : decode cX9_whoLies 10 = .ok (.iload_n 1, 1) := by decide +kernel
theorem dX9_whoLies_11 : decode cX9_whoLies 11 = .ok (.aload_n 0, 1) := by decide +kernel
theorem dX9_whoLies_12 : decode cX9_whoLies 12 = .ok (.iload_n 2, 1) := by decide +kernel
theorem dX9_whoLies_13 : decode cX9_whoLies 13 = .ok (.invokevirtual 69, 3) := by decide +kernel
theorem dX9_whoLies_16 : decode cX9_whoLies 16 = .ok (.ifCond .le 9, 3) := by decide +kernel
theorem dX9_whoLies_19 : decode cX9_whoLies 19 = .ok (.iconst 1, 1) := by decide +kernel
theorem dX9_whoLies_20 : decode cX9_whoLies 20 = .ok (.iload_n 2, 1) := by decide +kernel
theorem dX9_whoLies_21 : decode cX9_whoLies 21 = .ok (.ishl, 1) := by decide +kernel
theorem dX9_whoLies_22 : decode cX9_whoLies 22 = .ok (.goto 4, 3) := by decide +kernel
theorem dX9_whoLies_25 : decode cX9_whoLies 25 = .ok (.iconst 0, 1) := by decide +kernel
theorem dX9_whoLies_26 : decode cX9_whoLies 26 = .ok (.ior, 1) := by decide +kernel
theorem dX9_whoLies_27 : decode cX9_whoLies 27 = .ok (.istore_n 1, 1) := by decide +kernel
theorem dX9_whoLies_28 : decode cX9_whoLies 28 = .ok (.iinc 2 1, 3) := by decide +kernel
theorem dX9_whoLies_31 : decode cX9_whoLies 31 = .ok (.goto (-27), 3) := by decide +kernel
theorem dX9_whoLies_34 : decode cX9_whoLies 34 = .ok (.iload_n 1, 1) := by decide +kernel
theorem dX9_whoLies_35 : decode cX9_whoLies 35 = .ok (.ireturn, 1) := by decide +kernel
set_option maxRecDepth 20000 in
theorem ggX9_greatestLiar_X9_lieOf : GoodIn wsX9_greatestLiar wsX9_lieOf := goodIn_r _ [5, 6, 7, 8, 9, 10, 11, 12, 13, 14, 15, 16, 17, 18, 19, 20, 21, 22, 23] (by decide +kernel) (by decide +kernel)
set_option maxRecDepth 20000 in
theorem gX9_greatestLiar_X9_lieOf : GoodIn wsX9_greatestLiar (wsV RX9 69 RX9 yX9_lieOf wsX9_lieOf) := goodIn_app (goodIn_of _ (by decide +kernel)) ggX9_greatestLiar_X9_lieOf
theorem dX9_greatestLiar_0 : decode cX9_greatestLiar 0 = .ok (.iconst 0, 1) := by decide +kernel
theorem dX9_greatestLiar_1 : decode cX9_greatestLiar 1 = .ok (.istore_n 1, 1) := by decide +kernel
theorem dX9_greatestLiar_2 : decode cX9_greatestLiar 2 = .ok (.iconst (-1), 1) := by decide +kernel
theorem dX9_greatestLiar_3 : decode cX9_greatestLiar 3 = .ok (.istore_n 2, 1) := by decide +kernel
theorem dX9_greatestLiar_4 : decode cX9_greatestLiar 4 = .ok (.iconst 0, 1) := by decide +kernel
theorem dX9_greatestLiar_5 : decode cX9_greatestLiar 5 = .ok (.istore_n 3, 1) := by decide +kernel
theorem dX9_greatestLiar_6 : decode cX9_greatestLiar 6 = .ok (.iload_n 3, 1) := by decide +kernel
theorem dX9_greatestLiar_7 : decode cX9_greatestLiar 7 = .ok (.bipush 16, 2) := by decide +kernel
theorem dX9_greatestLiar_9 : decode cX9_greatestLiar 9 = .ok (.if_icmp .ge 26, 3) := by decide +kernel
theorem dX9_greatestLiar_12 : decode cX9_greatestLiar 12 = .ok (.aload_n 0, 1) := by decide +kernel
theorem dX9_greatestLiar_13 : decode cX9_greatestLiar 13 = .ok (.iload_n 3, 1) := by decide +kernel
theorem dX9_greatestLiar_14 : decode cX9_greatestLiar 14 = .ok (.invokevirtual 69, 3) := by decide +kernel
theorem dX9_greatestLiar_17 : decode cX9_greatestLiar 17 = .ok (.iload_n 1, 1) := by decide +kernel
theorem dX9_greatestLiar_18 : decode cX9_greatestLiar 18 = .ok (.if_icmp .le 11, 3) := by decide +kernel
theorem dX9_greatestLiar_21 : decode cX9_greatestLiar 21 = .ok (.aload_n 0, 1) := by decide +kernel
theorem dX9_greatestLiar_22 : decode cX9_greatestLiar 22 = .ok (.iload_n 3, 1) := by decide +kernel
theorem dX9_greatestLiar_23 : decode cX9_greatestLiar 23 = .ok (.invokevirtual 69, 3) := by decide +kernel
theorem dX9_greatestLiar_26 : decode cX9_greatestLiar 26 = .ok (.istore_n 1, 1) := by decide +kernel
theorem dX9_greatestLiar_27 : decode cX9_greatestLiar 27 = .ok (.iload_n 3, 1) := by decide +kernel
theorem dX9_greatestLiar_28 : decode cX9_greatestLiar 28 = .ok (.istore_n 2, 1) := by decide +kernel
theorem dX9_greatestLiar_29 : decode cX9_greatestLiar 29 = .ok (.iinc 3 1, 3) := by decide +kernel
theorem dX9_greatestLiar_32 : decode cX9_greatestLiar 32 = .ok (.goto (-26), 3) := by decide +kernel
theorem dX9_greatestLiar_35 : decode cX9_greatestLiar 35 = .ok (.iload_n 2, 1) := by decide +kernel
theorem dX9_greatestLiar_36 : decode cX9_greatestLiar 36 = .ok (.ireturn, 1) := by decide +kernel
set_option maxRecDepth 20000 in
theorem ggX9_partOf_X9_total : GoodIn wsX9_partOf wsX9_total := goodIn_r _ [7, 2, 8, 9, 10, 11, 12, 13, 14, 15, 16, 17, 18] (by decide +kernel) (by decide +kernel)
set_option maxRecDepth 20000 in
theorem gX9_partOf_X9_total : GoodIn wsX9_partOf (wsV RX9 72 RX9 yX9_total wsX9_total) := goodIn_app (goodIn_of _ (by decide +kernel)) ggX9_partOf_X9_total
set_option maxRecDepth 20000 in
theorem ggX9_partOf_X11_has : GoodIn wsX9_partOf wsX11_has := goodIn_r _ [10] (by decide +kernel) (by decide +kernel)
set_option maxRecDepth 20000 in
theorem gX9_partOf_X11_has_n47 : GoodIn wsX9_partOf (wsX11_has) := ggX9_partOf_X11_has
theorem dX9_partOf_0 : decode cX9_partOf 0 = .ok (.aload_n 0, 1) := by decide +kernel
theorem dX9_partOf_1 : decode cX9_partOf 1 = .ok (.aload_n 0, 1) := by decide +kernel
theorem dX9_partOf_2 : decode cX9_partOf 2 = .ok (.getfield 9, 3) := by decide +kernel
theorem dX9_partOf_5 : decode cX9_partOf 5 = .ok (.invokevirtual 72, 3) := by decide +kernel
theorem dX9_partOf_8 : decode cX9_partOf 8 = .ok (.istore_n 3, 1) := by decide +kernel
theorem dX9_partOf_9 : decode cX9_partOf 9 = .ok (.iload_n 3, 1) := by decide +kernel
theorem dX9_partOf_10 : decode cX9_partOf 10 = .ok (.ifCond .ne 5, 3) := by decide +kernel
theorem dX9_partOf_13 : decode cX9_partOf 13 = .ok (.iconst 0, 1) := by decide +kernel
theorem dX9_partOf_14 : decode cX9_partOf 14 = .ok (.ireturn, 1) := by decide +kernel
theorem dX9_partOf_15 : decode cX9_partOf 15 = .ok (.iload_n 1, 1) := by decide +kernel
theorem dX9_partOf_16 : decode cX9_partOf 16 = .ok (.aload_n 0, 1) := by decide +kernel
theorem dX9_partOf_17 : decode cX9_partOf 17 = .ok (.getfield 9, 3) := by decide +kernel
theorem dX9_partOf_20 : decode cX9_partOf 20 = .ok (.iload_n 2, 1) := by decide +kernel
theorem dX9_partOf_21 : decode cX9_partOf 21 = .ok (.iaload, 1) := by decide +kernel
theorem dX9_partOf_22 : decode cX9_partOf 22 = .ok (.imul, 1) := by decide +kernel
theorem dX9_partOf_23 : decode cX9_partOf 23 = .ok (.iload_n 3, 1) := by decide +kernel
theorem dX9_partOf_24 : decode cX9_partOf 24 = .ok (.irem, 1) := by decide +kernel
theorem dX9_partOf_25 : decode cX9_partOf 25 = .ok (.istore 4, 2) := by decide +kernel
theorem dX9_partOf_27 : decode cX9_partOf 27 = .ok (.iload_n 1, 1) := by decide +kernel
theorem dX9_partOf_28 : decode cX9_partOf 28 = .ok (.istore 5, 2) := by decide +kernel
theorem dX9_partOf_30 : decode cX9_partOf 30 = .ok (.iconst 0, 1) := by decide +kernel
theorem dX9_partOf_31 : decode cX9_partOf 31 = .ok (.istore 6, 2) := by decide +kernel
theorem dX9_partOf_33 : decode cX9_partOf 33 = .ok (.iconst 0, 1) := by decide +kernel
theorem dX9_partOf_34 : decode cX9_partOf 34 = .ok (.istore 7, 2) := by decide +kernel
theorem dX9_partOf_36 : decode cX9_partOf 36 = .ok (.iload 7, 2) := by decide +kernel
theorem dX9_partOf_38 : decode cX9_partOf 38 = .ok (.bipush 16, 2) := by decide +kernel
theorem dX9_partOf_40 : decode cX9_partOf 40 = .ok (.if_icmp .ge 80, 3) := by decide +kernel
theorem dX9_partOf_43 : decode cX9_partOf 43 = .ok (.aload_n 0, 1) := by decide +kernel
theorem dX9_partOf_44 : decode cX9_partOf 44 = .ok (.getfield 24, 3) := by decide +kernel
theorem dX9_partOf_47 : decode cX9_partOf 47 = .ok (.iload 7, 2) := by decide +kernel
theorem dX9_partOf_49 : decode cX9_partOf 49 = .ok (.invokestatic 47, 3) := by decide +kernel
theorem dX9_partOf_52 : decode cX9_partOf 52 = .ok (.ifCond .eq 62, 3) := by decide +kernel
theorem dX9_partOf_55 : decode cX9_partOf 55 = .ok (.iload_n 1, 1) := by decide +kernel
theorem dX9_partOf_56 : decode cX9_partOf 56 = .ok (.aload_n 0, 1) := by decide +kernel
theorem dX9_partOf_57 : decode cX9_partOf 57 = .ok (.getfield 9, 3) := by decide +kernel
theorem dX9_partOf_60 : decode cX9_partOf 60 = .ok (.iload 7, 2) := by decide +kernel
theorem dX9_partOf_62 : decode cX9_partOf 62 = .ok (.iaload, 1) := by decide +kernel
theorem dX9_partOf_63 : decode cX9_partOf 63 = .ok (.imul, 1) := by decide +kernel
theorem dX9_partOf_64 : decode cX9_partOf 64 = .ok (.iload_n 3, 1) := by decide +kernel
theorem dX9_partOf_65 : decode cX9_partOf 65 = .ok (.irem, 1) := by decide +kernel
theorem dX9_partOf_66 : decode cX9_partOf 66 = .ok (.istore 8, 2) := by decide +kernel
theorem dX9_partOf_68 : decode cX9_partOf 68 = .ok (.iload 5, 2) := by decide +kernel
theorem dX9_partOf_70 : decode cX9_partOf 70 = .ok (.iload_n 1, 1) := by decide +kernel
theorem dX9_partOf_71 : decode cX9_partOf 71 = .ok (.aload_n 0, 1) := by decide +kernel
theorem dX9_partOf_72 : decode cX9_partOf 72 = .ok (.getfield 9, 3) := by decide +kernel
theorem dX9_partOf_75 : decode cX9_partOf 75 = .ok (.iload 7, 2) := by decide +kernel
theorem dX9_partOf_77 : decode cX9_partOf 77 = .ok (.iaload, 1) := by decide +kernel
theorem dX9_partOf_78 : decode cX9_partOf 78 = .ok (.imul, 1) := by decide +kernel
theorem dX9_partOf_79 : decode cX9_partOf 79 = .ok (.iload_n 3, 1) := by decide +kernel
theorem dX9_partOf_80 : decode cX9_partOf 80 = .ok (.idiv, 1) := by decide +kernel
theorem dX9_partOf_81 : decode cX9_partOf 81 = .ok (.isub, 1) := by decide +kernel
theorem dX9_partOf_82 : decode cX9_partOf 82 = .ok (.istore 5, 2) := by decide +kernel
theorem dX9_partOf_84 : decode cX9_partOf 84 = .ok (.iload 6, 2) := by decide +kernel
theorem dX9_partOf_86 : decode cX9_partOf 86 = .ok (.iload 8, 2) := by decide +kernel
theorem dX9_partOf_88 : decode cX9_partOf 88 = .ok (.iload 4, 2) := by decide +kernel
theorem dX9_partOf_90 : decode cX9_partOf 90 = .ok (.if_icmp .gt 16, 3) := by decide +kernel
theorem dX9_partOf_93 : decode cX9_partOf 93 = .ok (.iload 8, 2) := by decide +kernel
theorem dX9_partOf_95 : decode cX9_partOf 95 = .ok (.iload 4, 2) := by decide +kernel
theorem dX9_partOf_97 : decode cX9_partOf 97 = .ok (.if_icmp .ne 13, 3) := by decide +kernel
theorem dX9_partOf_100 : decode cX9_partOf 100 = .ok (.iload 7, 2) := by decide +kernel
theorem dX9_partOf_102 : decode cX9_partOf 102 = .ok (.iload_n 2, 1) := by decide +kernel
theorem dX9_partOf_103 : decode cX9_partOf 103 = .ok (.if_icmp .ge 7, 3) := by decide +kernel
theorem dX9_partOf_106 : decode cX9_partOf 106 = .ok (.iconst 1, 1) := by decide +kernel
theorem dX9_partOf_107 : decode cX9_partOf 107 = .ok (.goto 4, 3) := by decide +kernel
theorem dX9_partOf_110 : decode cX9_partOf 110 = .ok (.iconst 0, 1) := by decide +kernel
theorem dX9_partOf_111 : decode cX9_partOf 111 = .ok (.iadd, 1) := by decide +kernel
theorem dX9_partOf_112 : decode cX9_partOf 112 = .ok (.istore 6, 2) := by decide +kernel
theorem dX9_partOf_114 : decode cX9_partOf 114 = .ok (.iinc 7 1, 3) := by decide +kernel
theorem dX9_partOf_117 : decode cX9_partOf 117 = .ok (.goto (-81), 3) := by decide +kernel
theorem dX9_partOf_120 : decode cX9_partOf 120 = .ok (.iload_n 1, 1) := by decide +kernel
theorem dX9_partOf_121 : decode cX9_partOf 121 = .ok (.aload_n 0, 1) := by decide +kernel
theorem dX9_partOf_122 : decode cX9_partOf 122 = .ok (.getfield 9, 3) := by decide +kernel
theorem dX9_partOf_125 : decode cX9_partOf 125 = .ok (.iload_n 2, 1) := by decide +kernel
theorem dX9_partOf_126 : decode cX9_partOf 126 = .ok (.iaload, 1) := by decide +kernel
theorem dX9_partOf_127 : decode cX9_partOf 127 = .ok (.imul, 1) := by decide +kernel
theorem dX9_partOf_128 : decode cX9_partOf 128 = .ok (.iload_n 3, 1) := by decide +kernel
theorem dX9_partOf_129 : decode cX9_partOf 129 = .ok (.idiv, 1) := by decide +kernel
theorem dX9_partOf_130 : decode cX9_partOf 130 = .ok (.iload 6, 2) := by decide +kernel
theorem dX9_partOf_132 : decode cX9_partOf 132 = .ok (.iload 5, 2) := by decide +kernel
theorem dX9_partOf_134 : decode cX9_partOf 134 = .ok (.if_icmp .ge 7, 3) := by decide +kernel
theorem dX9_partOf_137 : decode cX9_partOf 137 = .ok (.iconst 1, 1) := by decide +kernel
theorem dX9_partOf_138 : decode cX9_partOf 138 = .ok (.goto 4, 3) := by decide +kernel
theorem dX9_partOf_141 : decode cX9_partOf 141 = .ok (.iconst 0, 1) := by decide +kernel
theorem dX9_partOf_142 : decode cX9_partOf 142 = .ok (.iadd, 1) := by decide +kernel
theorem dX9_partOf_143 : decode cX9_partOf 143 = .ok (.ireturn, 1) := by decide +kernel
theorem dX10_init_0 : decode cX10_init 0 = .ok (.aload_n 0, 1) := by decide +kernel
theorem dX10_init_1 : decode cX10_init 1 = .ok (.invokespecial 3, 3) := by decide +kernel
theorem dX10_init_4 : decode cX10_init 4 = .ok (.aload_n 0, 1) := by decide +kernel
theorem dX10_init_5 : decode cX10_init 5 = .ok (.bipush 16, 2) := by decide +kernel
theorem dX10_init_7 : decode cX10_init 7 = .ok (.newarray .int, 2) := by decide +kernel
theorem dX10_init_9 : decode cX10_init 9 = .ok (.putfield 11, 3) := by decide +kernel
theorem dX10_init_12 : decode cX10_init 12 = .ok (.aload_n 0, 1) := by decide +kernel
theorem dX10_init_13 : decode cX10_init 13 = .ok (.bipush 16, 2) := by decide +kernel
theorem dX10_init_15 : decode cX10_init 15 = .ok (.newarray .int, 2) := by decide +kernel
theorem dX10_init_17 : decode cX10_init 17 = .ok (.putfield 15, 3) := by decide +kernel
theorem dX10_init_20 : decode cX10_init 20 = .ok (.aload_n 0, 1) := by decide +kernel
theorem dX10_init_21 : decode cX10_init 21 = .ok (.bipush 16, 2) := by decide +kernel
theorem dX10_init_23 : decode cX10_init 23 = .ok (.newarray .int, 2) := by decide +kernel
theorem dX10_init_25 : decode cX10_init 25 = .ok (.putfield 18, 3) := by decide +kernel
theorem dX10_init_28 : decode cX10_init 28 = .ok (.aload_n 0, 1) := by decide +kernel
theorem dX10_init_29 : decode cX10_init 29 = .ok (.iconst 0, 1) := by decide +kernel
theorem dX10_init_30 : decode cX10_init 30 = .ok (.putfield 21, 3) := by decide +kernel
theorem dX10_init_33 : decode cX10_init 33 = .ok (.return_, 1) := by decide +kernel
set_option maxRecDepth 20000 in
theorem ggX10_read_X1_begins : GoodIn wsX10_read wsX1_begins := goodIn_r _ [6, 7, 8, 9, 10, 11, 5, 12, 13, 14, 15, 16, 17, 18, 19, 20, 21, 22, 23, 24, 25, 26, 27, 28, 29, 30, 31, 32, 33, 34, 35, 36, 37, 38, 39, 40, 41, 42, 43, 44, 45, 46, 80, 81, 82, 83, 84, 85, 86] (by decide +kernel) (by decide +kernel)
set_option maxRecDepth 20000 in
theorem gX10_read_X1_begins : GoodIn wsX10_read (wsV RX10 25 RX1 yX1_begins wsX1_begins) := goodIn_app (goodIn_of _ (by decide +kernel)) ggX10_read_X1_begins
set_option maxRecDepth 20000 in
theorem ggX10_read_X10_readLine : GoodIn wsX10_read wsX10_readLine := goodIn_r _ [51, 52, 53, 54, 55, 1, 56, 57, 58, 5, 59, 22, 60, 61, 62, 63, 64, 65, 66, 24, 25, 26, 7, 27, 28, 29, 30, 13, 67, 68, 50, 69, 70, 71, 72, 32, 33, 34, 8, 35, 36, 37, 38, 39, 40, 41, 42, 43, 44, 45, 46, 73, 74, 75, 76, 77, 78, 79, 80, 81, 82, 83, 84, 85, 86] (by decide +kernel) (by decide +kernel)
set_option maxRecDepth 20000 in
theorem gX10_read_X10_readLine : GoodIn wsX10_read (wsV RX10 31 RX10 yX10_readLine wsX10_readLine) := goodIn_app (goodIn_of _ (by decide +kernel)) ggX10_read_X10_readLine
theorem dX10_read_0 : decode cX10_read 0 = .ok (.aload_n 0, 1) := by decide +kernel
theorem dX10_read_1 : decode cX10_read 1 = .ok (.iconst 0, 1) := by decide +kernel
theorem dX10_read_2 : decode cX10_read 2 = .ok (.putfield 21, 3) := by decide +kernel
theorem dX10_read_5 : decode cX10_read 5 = .ok (.iconst 0, 1) := by decide +kernel
theorem dX10_read_6 : decode cX10_read 6 = .ok (.istore_n 2, 1) := by decide +kernel
theorem dX10_read_7 : decode cX10_read 7 = .ok (.iload_n 2, 1) := by decide +kernel
theorem dX10_read_8 : decode cX10_read 8 = .ok (.bipush 16, 2) := by decide +kernel
theorem dX10_read_10 : decode cX10_read 10 = .ok (.if_icmp .gt 23, 3) := by decide +kernel
theorem dX10_read_13 : decode cX10_read 13 = .ok (.aload_n 1, 1) := by decide +kernel
theorem dX10_read_14 : decode cX10_read 14 = .ok (.iload_n 2, 1) := by decide +kernel
theorem dX10_read_15 : decode cX10_read 15 = .ok (.invokevirtual 25, 3) := by decide +kernel
theorem dX10_read_18 : decode cX10_read 18 = .ok (.ifCond .eq 15, 3) := by decide +kernel
theorem dX10_read_21 : decode cX10_read 21 = .ok (.aload_n 0, 1) := by decide +kernel
theorem dX10_read_22 : decode cX10_read 22 = .ok (.aload_n 1, 1) := by decide +kernel
theorem dX10_read_23 : decode cX10_read 23 = .ok (.iload_n 2, 1) := by decide +kernel
theorem dX10_read_24 : decode cX10_read 24 = .ok (.invokevirtual 31, 3) := by decide +kernel
theorem dX10_read_27 : decode cX10_read 27 = .ok (.iinc 2 1, 3) := by decide +kernel
theorem dX10_read_30 : decode cX10_read 30 = .ok (.goto (-23), 3) := by decide +kernel
theorem dX10_read_33 : decode cX10_read 33 = .ok (.return_, 1) := by decide +kernel
set_option maxRecDepth 20000 in
theorem ggX10_readLine_X1_seenWalker : GoodIn wsX10_readLine wsX1_seenWalker := goodIn_r _ [10, 11, 12, 13, 14, 15, 16, 17, 58, 59, 60, 61, 62] (by decide +kernel) (by decide +kernel)
set_option maxRecDepth 20000 in
theorem gX10_readLine_X1_seenWalker : GoodIn wsX10_readLine (wsV RX10 35 RX1 yX1_seenWalker wsX1_seenWalker) := goodIn_app (goodIn_of _ (by decide +kernel)) ggX10_readLine_X1_seenWalker
set_option maxRecDepth 20000 in
theorem ggX10_readLine_X1_failHere : GoodIn wsX10_readLine wsX1_failHere := goodIn_r _ [21, 22, 23, 24, 25, 9, 26, 27, 58, 59, 60, 61, 62] (by decide +kernel) (by decide +kernel)
set_option maxRecDepth 20000 in
theorem gX10_readLine_X1_failHere : GoodIn wsX10_readLine (wsV RX10 39 RX1 yX1_failHere wsX1_failHere) := goodIn_app (goodIn_of _ (by decide +kernel)) ggX10_readLine_X1_failHere
set_option maxRecDepth 20000 in
theorem ggX10_readLine_X10_readSide : GoodIn wsX10_readLine wsX10_readSide := goodIn_r _ [31, 6, 7, 8, 9, 10, 11, 12, 13, 14, 15, 16, 17, 32, 33, 18, 19, 20, 21, 22, 23, 24, 25, 26, 27, 34, 35, 36, 37, 38, 39, 40, 41, 42, 43, 44, 45, 46, 47, 48, 49, 50, 58, 59, 60, 61, 62, 63, 64] (by decide +kernel) (by decide +kernel)
set_option maxRecDepth 20000 in
theorem gX10_readLine_X10_readSide : GoodIn wsX10_readLine (va_wsS RX10 43 yX10_readSide wsX10_readSide) := goodIn_app (goodIn_of _ (by decide +kernel)) ggX10_readLine_X10_readSide
set_option maxRecDepth 20000 in
theorem ggX10_readLine_X10_isOutcome : GoodIn wsX10_readLine wsX10_isOutcome := goodIn_r _ [53] (by decide +kernel) (by decide +kernel)
set_option maxRecDepth 20000 in
theorem gX10_readLine_X10_isOutcome : GoodIn wsX10_readLine (va_wsS RX10 50 yX10_isOutcome wsX10_isOutcome) := goodIn_app (goodIn_of _ (by decide +kernel)) ggX10_readLine_X10_isOutcome
set_option maxRecDepth 20000 in
theorem ggX10_readLine_X1_next : GoodIn wsX10_readLine wsX1_next := goodIn_r _ [37, 22, 38, 39, 40, 41, 42, 43, 11, 44, 45, 46, 47, 48, 49, 50, 58, 59, 60, 61, 62, 63, 64] (by decide +kernel) (by decide +kernel)
set_option maxRecDepth 20000 in
theorem gX10_readLine_X1_next : GoodIn wsX10_readLine (wsV RX10 53 RX1 yX1_next wsX1_next) := goodIn_app (goodIn_of _ (by decide +kernel)) ggX10_readLine_X1_next
theorem dX10_readLine_0 : decode cX10_readLine 0 = .ok (.aload_n 1, 1) := by decide +kernel
theorem dX10_readLine_1 : decode cX10_readLine 1 = .ok (.invokevirtual 35, 3) := by decide +kernel
theorem dX10_readLine_4 : decode cX10_readLine 4 = .ok (.iconst (-1), 1) := by decide +kernel
theorem dX10_readLine_5 : decode cX10_readLine 5 = .ok (.if_icmp .ne 11, 3) := by decide +kernel
theorem dX10_readLine_8 : decode cX10_readLine 8 = .ok (.aload_n 1, 1) := by decide +kernel
theorem dX10_readLine_9 : decode cX10_readLine 9 = .ok (.iconst 1, 1) := by decide +kernel
theorem dX10_readLine_10 : decode cX10_readLine 10 = .ok (.invokevirtual 39, 3) := by decide +kernel
theorem dX10_readLine_13 : decode cX10_readLine 13 = .ok (.goto 85, 3) := by decide +kernel
theorem dX10_readLine_16 : decode cX10_readLine 16 = .ok (.iload_n 2, 1) := by decide +kernel
theorem dX10_readLine_17 : decode cX10_readLine 17 = .ok (.bipush 16, 2) := by decide +kernel
theorem dX10_readLine_19 : decode cX10_readLine 19 = .ok (.if_icmp .lt 11, 3) := by decide +kernel
theorem dX10_readLine_22 : decode cX10_readLine 22 = .ok (.aload_n 1, 1) := by decide +kernel
theorem dX10_readLine_23 : decode cX10_readLine 23 = .ok (.iconst 4, 1) := by decide +kernel
theorem dX10_readLine_24 : decode cX10_readLine 24 = .ok (.invokevirtual 39, 3) := by decide +kernel
theorem dX10_readLine_27 : decode cX10_readLine 27 = .ok (.goto 71, 3) := by decide +kernel
theorem dX10_readLine_30 : decode cX10_readLine 30 = .ok (.aload_n 0, 1) := by decide +kernel
theorem dX10_readLine_31 : decode cX10_readLine 31 = .ok (.getfield 11, 3) := by decide +kernel
theorem dX10_readLine_34 : decode cX10_readLine 34 = .ok (.iload_n 2, 1) := by decide +kernel
theorem dX10_readLine_35 : decode cX10_readLine 35 = .ok (.aload_n 1, 1) := by decide +kernel
theorem dX10_readLine_36 : decode cX10_readLine 36 = .ok (.iconst 0, 1) := by decide +kernel
theorem dX10_readLine_37 : decode cX10_readLine 37 = .ok (.invokestatic 43, 3) := by decide +kernel
theorem dX10_readLine_40 : decode cX10_readLine 40 = .ok (.iastore, 1) := by decide +kernel
theorem dX10_readLine_41 : decode cX10_readLine 41 = .ok (.aload_n 0, 1) := by decide +kernel
theorem dX10_readLine_42 : decode cX10_readLine 42 = .ok (.getfield 18, 3) := by decide +kernel
theorem dX10_readLine_45 : decode cX10_readLine 45 = .ok (.iload_n 2, 1) := by decide +kernel
theorem dX10_readLine_46 : decode cX10_readLine 46 = .ok (.aload_n 1, 1) := by decide +kernel
theorem dX10_readLine_47 : decode cX10_readLine 47 = .ok (.getfield 47, 3) := by decide +kernel
theorem dX10_readLine_50 : decode cX10_readLine 50 = .ok (.iastore, 1) := by decide +kernel
theorem dX10_readLine_51 : decode cX10_readLine 51 = .ok (.aload_n 0, 1) := by decide +kernel
theorem dX10_readLine_52 : decode cX10_readLine 52 = .ok (.getfield 18, 3) := by decide +kernel
theorem dX10_readLine_55 : decode cX10_readLine 55 = .ok (.iload_n 2, 1) := by decide +kernel
theorem dX10_readLine_56 : decode cX10_readLine 56 = .ok (.iaload, 1) := by decide +kernel
theorem dX10_readLine_57 : decode cX10_readLine 57 = .ok (.invokestatic 50, 3) := by decide +kernel
theorem dX10_readLine_60 : decode cX10_readLine 60 = .ok (.ifCond .eq 26, 3) := by decide +kernel
theorem dX10_readLine_63 : decode cX10_readLine 63 = .ok (.aload_n 1, 1) := by decide +kernel
theorem dX10_readLine_64 : decode cX10_readLine 64 = .ok (.invokevirtual 53, 3) := by decide +kernel
theorem dX10_readLine_67 : decode cX10_readLine 67 = .ok (.aload_n 0, 1) := by decide +kernel
theorem dX10_readLine_68 : decode cX10_readLine 68 = .ok (.getfield 15, 3) := by decide +kernel
theorem dX10_readLine_71 : decode cX10_readLine 71 = .ok (.iload_n 2, 1) := by decide +kernel
theorem dX10_readLine_72 : decode cX10_readLine 72 = .ok (.aload_n 1, 1) := by decide +kernel
theorem dX10_readLine_73 : decode cX10_readLine 73 = .ok (.aload_n 0, 1) := by decide +kernel
theorem dX10_readLine_74 : decode cX10_readLine 74 = .ok (.getfield 11, 3) := by decide +kernel
theorem dX10_readLine_77 : decode cX10_readLine 77 = .ok (.iload_n 2, 1) := by decide +kernel
theorem dX10_readLine_78 : decode cX10_readLine 78 = .ok (.iaload, 1) := by decide +kernel
theorem dX10_readLine_79 : decode cX10_readLine 79 = .ok (.invokestatic 43, 3) := by decide +kernel
theorem dX10_readLine_82 : decode cX10_readLine 82 = .ok (.iastore, 1) := by decide +kernel
theorem dX10_readLine_83 : decode cX10_readLine 83 = .ok (.goto 8, 3) := by decide +kernel
theorem dX10_readLine_86 : decode cX10_readLine 86 = .ok (.aload_n 1, 1) := by decide +kernel
theorem dX10_readLine_87 : decode cX10_readLine 87 = .ok (.iconst 1, 1) := by decide +kernel
theorem dX10_readLine_88 : decode cX10_readLine 88 = .ok (.invokevirtual 39, 3) := by decide +kernel
theorem dX10_readLine_91 : decode cX10_readLine 91 = .ok (.aload_n 0, 1) := by decide +kernel
theorem dX10_readLine_92 : decode cX10_readLine 92 = .ok (.iload_n 2, 1) := by decide +kernel
theorem dX10_readLine_93 : decode cX10_readLine 93 = .ok (.iconst 1, 1) := by decide +kernel
theorem dX10_readLine_94 : decode cX10_readLine 94 = .ok (.iadd, 1) := by decide +kernel
theorem dX10_readLine_95 : decode cX10_readLine 95 = .ok (.putfield 21, 3) := by decide +kernel
theorem dX10_readLine_98 : decode cX10_readLine 98 = .ok (.return_, 1) := by decide +kernel
set_option maxRecDepth 20000 in
theorem ggX10_readSide_X1_seenWalker : GoodIn wsX10_readSide wsX1_seenWalker := goodIn_r _ [5, 6, 7, 8, 9, 10, 11, 12, 42, 43, 44, 45, 46] (by decide +kernel) (by decide +kernel)
set_option maxRecDepth 20000 in
theorem gX10_readSide_X1_seenWalker : GoodIn wsX10_readSide (wsV RX10 35 RX1 yX1_seenWalker wsX1_seenWalker) := goodIn_app (goodIn_of _ (by decide +kernel)) ggX10_readSide_X1_seenWalker
set_option maxRecDepth 20000 in
theorem ggX10_readSide_X11_has : GoodIn wsX10_readSide wsX11_has := goodIn_r _ [14] (by decide +kernel) (by decide +kernel)
set_option maxRecDepth 20000 in
theorem gX10_readSide_X11_has_n56 : GoodIn wsX10_readSide (wsX11_has) := ggX10_readSide_X11_has
set_option maxRecDepth 20000 in
theorem ggX10_readSide_X1_failHere : GoodIn wsX10_readSide wsX1_failHere := goodIn_r _ [18, 19, 20, 21, 22, 4, 23, 24, 42, 43, 44, 45, 46] (by decide +kernel) (by decide +kernel)
set_option maxRecDepth 20000 in
theorem gX10_readSide_X1_failHere : GoodIn wsX10_readSide (wsV RX10 39 RX1 yX1_failHere wsX1_failHere) := goodIn_app (goodIn_of _ (by decide +kernel)) ggX10_readSide_X1_failHere
set_option maxRecDepth 20000 in
theorem ggX10_readSide_X1_next : GoodIn wsX10_readSide wsX1_next := goodIn_r _ [28, 19, 29, 30, 31, 32, 33, 34, 6, 35, 36, 37, 38, 39, 40, 41, 42, 43, 44, 45, 46, 47, 48] (by decide +kernel) (by decide +kernel)
set_option maxRecDepth 20000 in
theorem gX10_readSide_X1_next : GoodIn wsX10_readSide (wsV RX10 53 RX1 yX1_next wsX1_next) := goodIn_app (goodIn_of _ (by decide +kernel)) ggX10_readSide_X1_next
theorem dX10_readSide_0 : decode cX10_readSide 0 = .ok (.iconst 0, 1) := by decide +kernel
theorem dX10_readSide_1 : decode cX10_readSide 1 = .ok (.istore_n 2, 1) := by decide +kernel
theorem dX10_readSide_2 : decode cX10_readSide 2 = .ok (.iconst 0, 1) := by decide +kernel
theorem dX10_readSide_3 : decode cX10_readSide 3 = .ok (.istore_n 3, 1) := by decide +kernel
theorem dX10_readSide_4 : decode cX10_readSide 4 = .ok (.iload_n 3, 1) := by decide +kernel
theorem dX10_readSide_5 : decode cX10_readSide 5 = .ok (.bipush 16, 2) := by decide +kernel
theorem dX10_readSide_7 : decode cX10_readSide 7 = .ok (.if_icmp .gt 51, 3) := by decide +kernel
theorem dX10_readSide_10 : decode cX10_readSide 10 = .ok (.aload_n 0, 1) := by decide +kernel
theorem dX10_readSide_11 : decode cX10_readSide 11 = .ok (.invokevirtual 35, 3) := by decide +kernel
theorem dX10_readSide_14 : decode cX10_readSide 14 = .ok (.iconst (-1), 1) := by decide +kernel
theorem dX10_readSide_15 : decode cX10_readSide 15 = .ok (.if_icmp .eq 43, 3) := by decide +kernel
theorem dX10_readSide_18 : decode cX10_readSide 18 = .ok (.aload_n 0, 1) := by decide +kernel
theorem dX10_readSide_19 : decode cX10_readSide 19 = .ok (.invokevirtual 35, 3) := by decide +kernel
theorem dX10_readSide_22 : decode cX10_readSide 22 = .ok (.istore 4, 2) := by decide +kernel
theorem dX10_readSide_24 : decode cX10_readSide 24 = .ok (.iload_n 2, 1) := by decide +kernel
theorem dX10_readSide_25 : decode cX10_readSide 25 = .ok (.iload_n 1, 1) := by decide +kernel
theorem dX10_readSide_26 : decode cX10_readSide 26 = .ok (.ior, 1) := by decide +kernel
theorem dX10_readSide_27 : decode cX10_readSide 27 = .ok (.iload 4, 2) := by decide +kernel
theorem dX10_readSide_29 : decode cX10_readSide 29 = .ok (.invokestatic 56, 3) := by decide +kernel
theorem dX10_readSide_32 : decode cX10_readSide 32 = .ok (.ifCond .eq 9, 3) := by decide +kernel
theorem dX10_readSide_35 : decode cX10_readSide 35 = .ok (.aload_n 0, 1) := by decide +kernel
theorem dX10_readSide_36 : decode cX10_readSide 36 = .ok (.bipush 6, 2) := by decide +kernel
theorem dX10_readSide_38 : decode cX10_readSide 38 = .ok (.invokevirtual 39, 3) := by decide +kernel
theorem dX10_readSide_41 : decode cX10_readSide 41 = .ok (.iload_n 2, 1) := by decide +kernel
theorem dX10_readSide_42 : decode cX10_readSide 42 = .ok (.iconst 1, 1) := by decide +kernel
theorem dX10_readSide_43 : decode cX10_readSide 43 = .ok (.iload 4, 2) := by decide +kernel
theorem dX10_readSide_45 : decode cX10_readSide 45 = .ok (.ishl, 1) := by decide +kernel
theorem dX10_readSide_46 : decode cX10_readSide 46 = .ok (.ior, 1) := by decide +kernel
theorem dX10_readSide_47 : decode cX10_readSide 47 = .ok (.istore_n 2, 1) := by decide +kernel
theorem dX10_readSide_48 : decode cX10_readSide 48 = .ok (.aload_n 0, 1) := by decide +kernel
theorem dX10_readSide_49 : decode cX10_readSide 49 = .ok (.invokevirtual 53, 3) := by decide +kernel
theorem dX10_readSide_52 : decode cX10_readSide 52 = .ok (.iinc 3 1, 3) := by decide +kernel
theorem dX10_readSide_55 : decode cX10_readSide 55 = .ok (.goto (-51), 3) := by decide +kernel
theorem dX10_readSide_58 : decode cX10_readSide 58 = .ok (.iload_n 2, 1) := by decide +kernel
theorem dX10_readSide_59 : decode cX10_readSide 59 = .ok (.ifCond .ne 8, 3) := by decide +kernel
theorem dX10_readSide_62 : decode cX10_readSide 62 = .ok (.aload_n 0, 1) := by decide +kernel
theorem dX10_readSide_63 : decode cX10_readSide 63 = .ok (.iconst 1, 1) := by decide +kernel
theorem dX10_readSide_64 : decode cX10_readSide 64 = .ok (.invokevirtual 39, 3) := by decide +kernel
theorem dX10_readSide_67 : decode cX10_readSide 67 = .ok (.iload_n 2, 1) := by decide +kernel
theorem dX10_readSide_68 : decode cX10_readSide 68 = .ok (.ireturn, 1) := by decide +kernel
theorem dX10_isOutcome_0 : decode cX10_isOutcome 0 = .ok (.iload_n 0, 1) := by decide +kernel
theorem dX10_isOutcome_1 : decode cX10_isOutcome 1 = .ok (.bipush 60, 2) := by decide +kernel
theorem dX10_isOutcome_3 : decode cX10_isOutcome 3 = .ok (.if_icmp .eq 15, 3) := by decide +kernel
theorem dX10_isOutcome_6 : decode cX10_isOutcome 6 = .ok (.iload_n 0, 1) := by decide +kernel
theorem dX10_isOutcome_7 : decode cX10_isOutcome 7 = .ok (.bipush 62, 2) := by decide +kernel
theorem dX10_isOutcome_9 : decode cX10_isOutcome 9 = .ok (.if_icmp .eq 9, 3) := by decide +kernel
theorem dX10_isOutcome_12 : decode cX10_isOutcome 12 = .ok (.iload_n 0, 1) := by decide +kernel
theorem dX10_isOutcome_13 : decode cX10_isOutcome 13 = .ok (.bipush 61, 2) := by decide +kernel
theorem dX10_isOutcome_15 : decode cX10_isOutcome 15 = .ok (.if_icmp .ne 7, 3) := by decide +kernel
theorem dX10_isOutcome_18 : decode cX10_isOutcome 18 = .ok (.iconst 1, 1) := by decide +kernel
theorem dX10_isOutcome_19 : decode cX10_isOutcome 19 = .ok (.goto 4, 3) := by decide +kernel
theorem dX10_isOutcome_22 : decode cX10_isOutcome 22 = .ok (.iconst 0, 1) := by decide +kernel
theorem dX10_isOutcome_23 : decode cX10_isOutcome 23 = .ok (.ireturn, 1) := by decide +kernel
theorem dX10_letters_0 : decode cX10_letters 0 = .ok (.iconst 0, 1) := by decide +kernel
theorem dX10_letters_1 : decode cX10_letters 1 = .ok (.istore_n 1, 1) := by decide +kernel
theorem dX10_letters_2 : decode cX10_letters 2 = .ok (.iconst 0, 1) := by decide +kernel
theorem dX10_letters_3 : decode cX10_letters 3 = .ok (.istore_n 2, 1) := by decide +kernel
theorem dX10_letters_4 : decode cX10_letters 4 = .ok (.iload_n 2, 1) := by decide +kernel
theorem dX10_letters_5 : decode cX10_letters 5 = .ok (.aload_n 0, 1) := by decide +kernel
theorem dX10_letters_6 : decode cX10_letters 6 = .ok (.getfield 21, 3) := by decide +kernel
theorem dX10_letters_9 : decode cX10_letters 9 = .ok (.if_icmp .ge 25, 3) := by decide +kernel
theorem dX10_letters_12 : decode cX10_letters 12 = .ok (.iload_n 1, 1) := by decide +kernel
theorem dX10_letters_13 : decode cX10_letters 13 = .ok (.aload_n 0, 1) := by decide +kernel
theorem dX10_letters_14 : decode cX10_letters 14 = .ok (.getfield 11, 3) := by decide +kernel
theorem dX10_letters_17 : decode cX10_letters 17 = .ok (.iload_n 2, 1) := by decide +kernel
theorem dX10_letters_18 : decode cX10_letters 18 = .ok (.iaload, 1) := by decide +kernel
theorem dX10_letters_19 : decode cX10_letters 19 = .ok (.aload_n 0, 1) := by decide +kernel
theorem dX10_letters_20 : decode cX10_letters 20 = .ok (.getfield 15, 3) := by decide +kernel
theorem dX10_letters_23 : decode cX10_letters 23 = .ok (.iload_n 2, 1) := by decide +kernel
theorem dX10_letters_24 : decode cX10_letters 24 = .ok (.iaload, 1) := by decide +kernel
theorem dX10_letters_25 : decode cX10_letters 25 = .ok (.ior, 1) := by decide +kernel
theorem dX10_letters_26 : decode cX10_letters 26 = .ok (.ior, 1) := by decide +kernel
theorem dX10_letters_27 : decode cX10_letters 27 = .ok (.istore_n 1, 1) := by decide +kernel
theorem dX10_letters_28 : decode cX10_letters 28 = .ok (.iinc 2 1, 3) := by decide +kernel
theorem dX10_letters_31 : decode cX10_letters 31 = .ok (.goto (-27), 3) := by decide +kernel
theorem dX10_letters_34 : decode cX10_letters 34 = .ok (.iload_n 1, 1) := by decide +kernel
theorem dX10_letters_35 : decode cX10_letters 35 = .ok (.ireturn, 1) := by decide +kernel
theorem dX10_isAside_0 : decode cX10_isAside 0 = .ok (.aload_n 0, 1) := by decide +kernel
theorem dX10_isAside_1 : decode cX10_isAside 1 = .ok (.getfield 11, 3) := by decide +kernel
theorem dX10_isAside_4 : decode cX10_isAside 4 = .ok (.iload_n 1, 1) := by decide +kernel
theorem dX10_isAside_5 : decode cX10_isAside 5 = .ok (.iaload, 1) := by decide +kernel
theorem dX10_isAside_6 : decode cX10_isAside 6 = .ok (.aload_n 0, 1) := by decide +kernel
theorem dX10_isAside_7 : decode cX10_isAside 7 = .ok (.getfield 15, 3) := by decide +kernel
theorem dX10_isAside_10 : decode cX10_isAside 10 = .ok (.iload_n 1, 1) := by decide +kernel
theorem dX10_isAside_11 : decode cX10_isAside 11 = .ok (.iaload, 1) := by decide +kernel
theorem dX10_isAside_12 : decode cX10_isAside 12 = .ok (.ior, 1) := by decide +kernel
theorem dX10_isAside_13 : decode cX10_isAside 13 = .ok (.iload_n 2, 1) := by decide +kernel
theorem dX10_isAside_14 : decode cX10_isAside 14 = .ok (.iconst (-1), 1) := by decide +kernel
theorem dX10_isAside_15 : decode cX10_isAside 15 = .ok (.ixor, 1) := by decide +kernel
theorem dX10_isAside_16 : decode cX10_isAside 16 = .ok (.iand, 1) := by decide +kernel
theorem dX10_isAside_17 : decode cX10_isAside 17 = .ok (.ifCond .eq 7, 3) := by decide +kernel
theorem dX10_isAside_20 : decode cX10_isAside 20 = .ok (.iconst 1, 1) := by decide +kernel
theorem dX10_isAside_21 : decode cX10_isAside 21 = .ok (.goto 4, 3) := by decide +kernel
theorem dX10_isAside_24 : decode cX10_isAside 24 = .ok (.iconst 0, 1) := by decide +kernel
theorem dX10_isAside_25 : decode cX10_isAside 25 = .ok (.ireturn, 1) := by decide +kernel
set_option maxRecDepth 20000 in
theorem ggX10_isSo_X0_sum : GoodIn wsX10_isSo wsX0_sum := goodIn_r _ [8, 9, 10, 19, 20, 21, 22, 23, 24] (by decide +kernel) (by decide +kernel)
set_option maxRecDepth 20000 in
theorem gX10_isSo_X0_sum : GoodIn wsX10_isSo (wsV RX10 60 RX0 yX0_sum wsX0_sum) := goodIn_app (goodIn_of _ (by decide +kernel)) ggX10_isSo_X0_sum
set_option maxRecDepth 20000 in
theorem ggX10_isSo_X10_outcomeOf : GoodIn wsX10_isSo wsX10_outcomeOf := goodIn_r _ [14] (by decide +kernel) (by decide +kernel)
set_option maxRecDepth 20000 in
theorem gX10_isSo_X10_outcomeOf : GoodIn wsX10_isSo (va_wsS RX10 66 yX10_outcomeOf wsX10_outcomeOf) := goodIn_app (goodIn_of _ (by decide +kernel)) ggX10_isSo_X10_outcomeOf
theorem dX10_isSo_0 : decode cX10_isSo 0 = .ok (.aload_n 0, 1) := by decide +kernel
theorem dX10_isSo_1 : decode cX10_isSo 1 = .ok (.getfield 18, 3) := by decide +kernel
theorem dX10_isSo_4 : decode cX10_isSo 4 = .ok (.iload_n 1, 1) := by decide +kernel
theorem dX10_isSo_5 : decode cX10_isSo 5 = .ok (.iaload, 1) := by decide +kernel
theorem dX10_isSo_6 : decode cX10_isSo 6 = .ok (.aload_n 2, 1) := by decide +kernel
theorem dX10_isSo_7 : decode cX10_isSo 7 = .ok (.aload_n 0, 1) := by decide +kernel
theorem dX10_isSo_8 : decode cX10_isSo 8 = .ok (.getfield 11, 3) := by decide +kernel
theorem dX10_isSo_11 : decode cX10_isSo 11 = .ok (.iload_n 1, 1) := by decide +kernel
theorem dX10_isSo_12 : decode cX10_isSo 12 = .ok (.iaload, 1) := by decide +kernel
theorem dX10_isSo_13 : decode cX10_isSo 13 = .ok (.invokevirtual 60, 3) := by decide +kernel
theorem dX10_isSo_16 : decode cX10_isSo 16 = .ok (.aload_n 2, 1) := by decide +kernel
theorem dX10_isSo_17 : decode cX10_isSo 17 = .ok (.aload_n 0, 1) := by decide +kernel
theorem dX10_isSo_18 : decode cX10_isSo 18 = .ok (.getfield 15, 3) := by decide +kernel
theorem dX10_isSo_21 : decode cX10_isSo 21 = .ok (.iload_n 1, 1) := by decide +kernel
theorem dX10_isSo_22 : decode cX10_isSo 22 = .ok (.iaload, 1) := by decide +kernel
theorem dX10_isSo_23 : decode cX10_isSo 23 = .ok (.invokevirtual 60, 3) := by decide +kernel
theorem dX10_isSo_26 : decode cX10_isSo 26 = .ok (.invokestatic 66, 3) := by decide +kernel
theorem dX10_isSo_29 : decode cX10_isSo 29 = .ok (.if_icmp .ne 7, 3) := by decide +kernel
theorem dX10_isSo_32 : decode cX10_isSo 32 = .ok (.iconst 1, 1) := by decide +kernel
theorem dX10_isSo_33 : decode cX10_isSo 33 = .ok (.goto 4, 3) := by decide +kernel
theorem dX10_isSo_36 : decode cX10_isSo 36 = .ok (.iconst 0, 1) := by decide +kernel
theorem dX10_isSo_37 : decode cX10_isSo 37 = .ok (.ireturn, 1) := by decide +kernel
theorem dX10_outcomeOf_0 : decode cX10_outcomeOf 0 = .ok (.iload_n 0, 1) := by decide +kernel
theorem dX10_outcomeOf_1 : decode cX10_outcomeOf 1 = .ok (.iload_n 1, 1) := by decide +kernel
theorem dX10_outcomeOf_2 : decode cX10_outcomeOf 2 = .ok (.if_icmp .ne 6, 3) := by decide +kernel
theorem dX10_outcomeOf_5 : decode cX10_outcomeOf 5 = .ok (.bipush 61, 2) := by decide +kernel
theorem dX10_outcomeOf_7 : decode cX10_outcomeOf 7 = .ok (.ireturn, 1) := by decide +kernel
theorem dX10_outcomeOf_8 : decode cX10_outcomeOf 8 = .ok (.iload_n 0, 1) := by decide +kernel
theorem dX10_outcomeOf_9 : decode cX10_outcomeOf 9 = .ok (.iload_n 1, 1) := by decide +kernel
theorem dX10_outcomeOf_10 : decode cX10_outcomeOf 10 = .ok (.if_icmp .ge 8, 3) := by decide +kernel
theorem dX10_outcomeOf_13 : decode cX10_outcomeOf 13 = .ok (.bipush 60, 2) := by decide +kernel
theorem dX10_outcomeOf_15 : decode cX10_outcomeOf 15 = .ok (.goto 5, 3) := by decide +kernel
theorem dX10_outcomeOf_18 : decode cX10_outcomeOf 18 = .ok (.bipush 62, 2) := by decide +kernel
theorem dX10_outcomeOf_20 : decode cX10_outcomeOf 20 = .ok (.ireturn, 1) := by decide +kernel
set_option maxRecDepth 20000 in
theorem ggX10_howManySo_X10_isAside : GoodIn wsX10_howManySo wsX10_isAside := goodIn_r _ [6, 7, 8, 24, 25, 26, 27] (by decide +kernel) (by decide +kernel)
set_option maxRecDepth 20000 in
theorem gX10_howManySo_X10_isAside : GoodIn wsX10_howManySo (wsV RX10 70 RX10 yX10_isAside wsX10_isAside) := goodIn_app (goodIn_of _ (by decide +kernel)) ggX10_howManySo_X10_isAside
set_option maxRecDepth 20000 in
theorem ggX10_howManySo_X10_isSo : GoodIn wsX10_howManySo wsX10_isSo := goodIn_r _ [12, 13, 7, 8, 14, 15, 16, 17, 18, 19, 20, 21, 22, 5, 23, 24, 25, 26, 27, 28, 29, 30, 31, 32, 33] (by decide +kernel) (by decide +kernel)
set_option maxRecDepth 20000 in
theorem gX10_howManySo_X10_isSo : GoodIn wsX10_howManySo (wsV RX10 73 RX10 yX10_isSo wsX10_isSo) := goodIn_app (goodIn_of _ (by decide +kernel)) ggX10_howManySo_X10_isSo
theorem dX10_howManySo_0 : decode cX10_howManySo 0 = .ok (.iconst 0, 1) := by decide +kernel
theorem dX10_howManySo_1 : decode cX10_howManySo 1 = .ok (.istore_n 3, 1) := by decide +kernel
theorem dX10_howManySo_2 : decode cX10_howManySo 2 = .ok (.iconst 0, 1) := by decide +kernel
theorem dX10_howManySo_3 : decode cX10_howManySo 3 = .ok (.istore 4, 2) := by decide +kernel
theorem dX10_howManySo_5 : decode cX10_howManySo 5 = .ok (.iload 4, 2) := by decide +kernel
theorem dX10_howManySo_7 : decode cX10_howManySo 7 = .ok (.aload_n 0, 1) := by decide +kernel
theorem dX10_howManySo_8 : decode cX10_howManySo 8 = .ok (.getfield 21, 3) := by decide +kernel
theorem dX10_howManySo_11 : decode cX10_howManySo 11 = .ok (.if_icmp .ge 37, 3) := by decide +kernel
theorem dX10_howManySo_14 : decode cX10_howManySo 14 = .ok (.iload_n 3, 1) := by decide +kernel
theorem dX10_howManySo_15 : decode cX10_howManySo 15 = .ok (.aload_n 0, 1) := by decide +kernel
theorem dX10_howManySo_16 : decode cX10_howManySo 16 = .ok (.iload 4, 2) := by decide +kernel
theorem dX10_howManySo_18 : decode cX10_howManySo 18 = .ok (.iload_n 2, 1) := by decide +kernel
theorem dX10_howManySo_19 : decode cX10_howManySo 19 = .ok (.invokevirtual 70, 3) := by decide +kernel
theorem dX10_howManySo_22 : decode cX10_howManySo 22 = .ok (.ifCond .ne 17, 3) := by decide +kernel
theorem dX10_howManySo_25 : decode cX10_howManySo 25 = .ok (.aload_n 0, 1) := by decide +kernel
theorem dX10_howManySo_26 : decode cX10_howManySo 26 = .ok (.iload 4, 2) := by decide +kernel
theorem dX10_howManySo_28 : decode cX10_howManySo 28 = .ok (.aload_n 1, 1) := by decide +kernel
theorem dX10_howManySo_29 : decode cX10_howManySo 29 = .ok (.invokevirtual 73, 3) := by decide +kernel
theorem dX10_howManySo_32 : decode cX10_howManySo 32 = .ok (.ifCond .eq 7, 3) := by decide +kernel
theorem dX10_howManySo_35 : decode cX10_howManySo 35 = .ok (.iconst 1, 1) := by decide +kernel
theorem dX10_howManySo_36 : decode cX10_howManySo 36 = .ok (.goto 4, 3) := by decide +kernel
theorem dX10_howManySo_39 : decode cX10_howManySo 39 = .ok (.iconst 0, 1) := by decide +kernel
theorem dX10_howManySo_40 : decode cX10_howManySo 40 = .ok (.iadd, 1) := by decide +kernel
theorem dX10_howManySo_41 : decode cX10_howManySo 41 = .ok (.istore_n 3, 1) := by decide +kernel
theorem dX10_howManySo_42 : decode cX10_howManySo 42 = .ok (.iinc 4 1, 3) := by decide +kernel
theorem dX10_howManySo_45 : decode cX10_howManySo 45 = .ok (.goto (-40), 3) := by decide +kernel
theorem dX10_howManySo_48 : decode cX10_howManySo 48 = .ok (.iload_n 3, 1) := by decide +kernel
theorem dX10_howManySo_49 : decode cX10_howManySo 49 = .ok (.ireturn, 1) := by decide +kernel
set_option maxRecDepth 20000 in
theorem ggX10_firstNotSo_X10_isAside : GoodIn wsX10_firstNotSo wsX10_isAside := goodIn_r _ [6, 7, 8, 24, 25, 26, 27] (by decide +kernel) (by decide +kernel)
set_option maxRecDepth 20000 in
theorem gX10_firstNotSo_X10_isAside : GoodIn wsX10_firstNotSo (wsV RX10 70 RX10 yX10_isAside wsX10_isAside) := goodIn_app (goodIn_of _ (by decide +kernel)) ggX10_firstNotSo_X10_isAside
set_option maxRecDepth 20000 in
theorem ggX10_firstNotSo_X10_isSo : GoodIn wsX10_firstNotSo wsX10_isSo := goodIn_r _ [12, 13, 7, 8, 14, 15, 16, 17, 18, 19, 20, 21, 22, 5, 23, 24, 25, 26, 27, 28, 29, 30, 31, 32, 33] (by decide +kernel) (by decide +kernel)
set_option maxRecDepth 20000 in
theorem gX10_firstNotSo_X10_isSo : GoodIn wsX10_firstNotSo (wsV RX10 73 RX10 yX10_isSo wsX10_isSo) := goodIn_app (goodIn_of _ (by decide +kernel)) ggX10_firstNotSo_X10_isSo
theorem dX10_firstNotSo_0 : decode cX10_firstNotSo 0 = .ok (.iconst 0, 1) := by decide +kernel
theorem dX10_firstNotSo_1 : decode cX10_firstNotSo 1 = .ok (.istore_n 3, 1) := by decide +kernel
theorem dX10_firstNotSo_2 : decode cX10_firstNotSo 2 = .ok (.iload_n 3, 1) := by decide +kernel
theorem dX10_firstNotSo_3 : decode cX10_firstNotSo 3 = .ok (.aload_n 0, 1) := by decide +kernel
theorem dX10_firstNotSo_4 : decode cX10_firstNotSo 4 = .ok (.getfield 21, 3) := by decide +kernel
theorem dX10_firstNotSo_7 : decode cX10_firstNotSo 7 = .ok (.if_icmp .ge 29, 3) := by decide +kernel
theorem dX10_firstNotSo_10 : decode cX10_firstNotSo 10 = .ok (.aload_n 0, 1) := by decide +kernel
theorem dX10_firstNotSo_11 : decode cX10_firstNotSo 11 = .ok (.iload_n 3, 1) := by decide +kernel
theorem dX10_firstNotSo_12 : decode cX10_firstNotSo 12 = .ok (.iload_n 2, 1) := by decide +kernel
theorem dX10_firstNotSo_13 : decode cX10_firstNotSo 13 = .ok (.invokevirtual 70, 3) := by decide +kernel
theorem dX10_firstNotSo_16 : decode cX10_firstNotSo 16 = .ok (.ifCond .ne 14, 3) := by decide +kernel
theorem dX10_firstNotSo_19 : decode cX10_firstNotSo 19 = .ok (.aload_n 0, 1) := by decide +kernel
theorem dX10_firstNotSo_20 : decode cX10_firstNotSo 20 = .ok (.iload_n 3, 1) := by decide +kernel
theorem dX10_firstNotSo_21 : decode cX10_firstNotSo 21 = .ok (.aload_n 1, 1) := by decide +kernel
theorem dX10_firstNotSo_22 : decode cX10_firstNotSo 22 = .ok (.invokevirtual 73, 3) := by decide +kernel
theorem dX10_firstNotSo_25 : decode cX10_firstNotSo 25 = .ok (.ifCond .ne 5, 3) := by decide +kernel
theorem dX10_firstNotSo_28 : decode cX10_firstNotSo 28 = .ok (.iload_n 3, 1) := by decide +kernel
theorem dX10_firstNotSo_29 : decode cX10_firstNotSo 29 = .ok (.ireturn, 1) := by decide +kernel
theorem dX10_firstNotSo_30 : decode cX10_firstNotSo 30 = .ok (.iinc 3 1, 3) := by decide +kernel
theorem dX10_firstNotSo_33 : decode cX10_firstNotSo 33 = .ok (.goto (-31), 3) := by decide +kernel
theorem dX10_firstNotSo_36 : decode cX10_firstNotSo 36 = .ok (.bipush (-2), 2) := by decide +kernel
theorem dX10_firstNotSo_38 : decode cX10_firstNotSo 38 = .ok (.ireturn, 1) := by decide +kernel
set_option maxRecDepth 20000 in
theorem ggX10_isFair_J6_bitCount_0f7a4 : GoodIn wsX10_isFair wsJ6_bitCount_0f7a4 := goodIn_r _ [6, 7, 8, 9] (by decide +kernel) (by decide +kernel)
set_option maxRecDepth 20000 in
theorem gX10_isFair_J6_bitCount_0f7a4 : GoodIn wsX10_isFair (va_wsS RX10 77 yJ6_bitCount_0f7a4 wsJ6_bitCount_0f7a4) := goodIn_app (goodIn_of _ (by decide +kernel)) ggX10_isFair_J6_bitCount_0f7a4
theorem dX10_isFair_0 : decode cX10_isFair 0 = .ok (.aload_n 0, 1) := by decide +kernel
theorem dX10_isFair_1 : decode cX10_isFair 1 = .ok (.getfield 11, 3) := by decide +kernel
theorem dX10_isFair_4 : decode cX10_isFair 4 = .ok (.iload_n 1, 1) := by decide +kernel
theorem dX10_isFair_5 : decode cX10_isFair 5 = .ok (.iaload, 1) := by decide +kernel
theorem dX10_isFair_6 : decode cX10_isFair 6 = .ok (.invokestatic 77, 3) := by decide +kernel
theorem dX10_isFair_9 : decode cX10_isFair 9 = .ok (.aload_n 0, 1) := by decide +kernel
theorem dX10_isFair_10 : decode cX10_isFair 10 = .ok (.getfield 15, 3) := by decide +kernel
theorem dX10_isFair_13 : decode cX10_isFair 13 = .ok (.iload_n 1, 1) := by decide +kernel
theorem dX10_isFair_14 : decode cX10_isFair 14 = .ok (.iaload, 1) := by decide +kernel
theorem dX10_isFair_15 : decode cX10_isFair 15 = .ok (.invokestatic 77, 3) := by decide +kernel
theorem dX10_isFair_18 : decode cX10_isFair 18 = .ok (.if_icmp .ne 7, 3) := by decide +kernel
theorem dX10_isFair_21 : decode cX10_isFair 21 = .ok (.iconst 1, 1) := by decide +kernel
theorem dX10_isFair_22 : decode cX10_isFair 22 = .ok (.goto 4, 3) := by decide +kernel
theorem dX10_isFair_25 : decode cX10_isFair 25 = .ok (.iconst 0, 1) := by decide +kernel
theorem dX10_isFair_26 : decode cX10_isFair 26 = .ok (.ireturn, 1) := by decide +kernel
set_option maxRecDepth 20000 in
theorem ggX10_agree_X10_isFair : GoodIn wsX10_agree wsX10_isFair := goodIn_r _ [9, 2, 3, 10, 11, 12, 13, 14, 15, 16, 20, 21, 22, 23] (by decide +kernel) (by decide +kernel)
set_option maxRecDepth 20000 in
theorem gX10_agree_X10_isFair : GoodIn wsX10_agree (wsV RX10 82 RX10 yX10_isFair wsX10_isFair) := goodIn_app (goodIn_of _ (by decide +kernel)) ggX10_agree_X10_isFair
set_option maxRecDepth 20000 in
theorem ggX10_agree_X10_outcomeOf : GoodIn wsX10_agree wsX10_outcomeOf := goodIn_r _ [19] (by decide +kernel) (by decide +kernel)
set_option maxRecDepth 20000 in
theorem gX10_agree_X10_outcomeOf : GoodIn wsX10_agree (va_wsS RX10 66 yX10_outcomeOf wsX10_outcomeOf) := goodIn_app (goodIn_of _ (by decide +kernel)) ggX10_agree_X10_outcomeOf
theorem dX10_agree_0 : decode cX10_agree 0 = .ok (.iconst 0, 1) := by decide +kernel
theorem dX10_agree_1 : decode cX10_agree 1 = .ok (.istore_n 3, 1) := by decide +kernel
theorem dX10_agree_2 : decode cX10_agree 2 = .ok (.iload_n 3, 1) := by decide +kernel
theorem dX10_agree_3 : decode cX10_agree 3 = .ok (.aload_n 0, 1) := by decide +kernel
theorem dX10_agree_4 : decode cX10_agree 4 = .ok (.getfield 21, 3) := by decide +kernel
theorem dX10_agree_7 : decode cX10_agree 7 = .ok (.if_icmp .ge 71, 3) := by decide +kernel
theorem dX10_agree_10 : decode cX10_agree 10 = .ok (.aload_n 0, 1) := by decide +kernel
theorem dX10_agree_11 : decode cX10_agree 11 = .ok (.getfield 11, 3) := by decide +kernel
theorem dX10_agree_14 : decode cX10_agree 14 = .ok (.iload_n 3, 1) := by decide +kernel
theorem dX10_agree_15 : decode cX10_agree 15 = .ok (.iaload, 1) := by decide +kernel
theorem dX10_agree_16 : decode cX10_agree 16 = .ok (.iload_n 1, 1) := by decide +kernel
theorem dX10_agree_17 : decode cX10_agree 17 = .ok (.iand, 1) := by decide +kernel
theorem dX10_agree_18 : decode cX10_agree 18 = .ok (.ifCond .eq 7, 3) := by decide +kernel
theorem dX10_agree_21 : decode cX10_agree 21 = .ok (.iload_n 2, 1) := by decide +kernel
theorem dX10_agree_22 : decode cX10_agree 22 = .ok (.goto 4, 3) := by decide +kernel
theorem dX10_agree_25 : decode cX10_agree 25 = .ok (.iconst 0, 1) := by decide +kernel
theorem dX10_agree_26 : decode cX10_agree 26 = .ok (.istore 4, 2) := by decide +kernel
theorem dX10_agree_28 : decode cX10_agree 28 = .ok (.aload_n 0, 1) := by decide +kernel
theorem dX10_agree_29 : decode cX10_agree 29 = .ok (.getfield 15, 3) := by decide +kernel
theorem dX10_agree_32 : decode cX10_agree 32 = .ok (.iload_n 3, 1) := by decide +kernel
theorem dX10_agree_33 : decode cX10_agree 33 = .ok (.iaload, 1) := by decide +kernel
theorem dX10_agree_34 : decode cX10_agree 34 = .ok (.iload_n 1, 1) := by decide +kernel
theorem dX10_agree_35 : decode cX10_agree 35 = .ok (.iand, 1) := by decide +kernel
theorem dX10_agree_36 : decode cX10_agree 36 = .ok (.ifCond .eq 7, 3) := by decide +kernel
theorem dX10_agree_39 : decode cX10_agree 39 = .ok (.iload_n 2, 1) := by decide +kernel
theorem dX10_agree_40 : decode cX10_agree 40 = .ok (.goto 4, 3) := by decide +kernel
theorem dX10_agree_43 : decode cX10_agree 43 = .ok (.iconst 0, 1) := by decide +kernel
theorem dX10_agree_44 : decode cX10_agree 44 = .ok (.istore 5, 2) := by decide +kernel
theorem dX10_agree_46 : decode cX10_agree 46 = .ok (.aload_n 0, 1) := by decide +kernel
theorem dX10_agree_47 : decode cX10_agree 47 = .ok (.iload_n 3, 1) := by decide +kernel
theorem dX10_agree_48 : decode cX10_agree 48 = .ok (.invokevirtual 82, 3) := by decide +kernel
theorem dX10_agree_51 : decode cX10_agree 51 = .ok (.ifCond .eq 21, 3) := by decide +kernel
theorem dX10_agree_54 : decode cX10_agree 54 = .ok (.aload_n 0, 1) := by decide +kernel
theorem dX10_agree_55 : decode cX10_agree 55 = .ok (.getfield 18, 3) := by decide +kernel
theorem dX10_agree_58 : decode cX10_agree 58 = .ok (.iload_n 3, 1) := by decide +kernel
theorem dX10_agree_59 : decode cX10_agree 59 = .ok (.iaload, 1) := by decide +kernel
theorem dX10_agree_60 : decode cX10_agree 60 = .ok (.iload 4, 2) := by decide +kernel
theorem dX10_agree_62 : decode cX10_agree 62 = .ok (.iload 5, 2) := by decide +kernel
theorem dX10_agree_64 : decode cX10_agree 64 = .ok (.invokestatic 66, 3) := by decide +kernel
theorem dX10_agree_67 : decode cX10_agree 67 = .ok (.if_icmp .eq 5, 3) := by decide +kernel
theorem dX10_agree_70 : decode cX10_agree 70 = .ok (.iconst 0, 1) := by decide +kernel
theorem dX10_agree_71 : decode cX10_agree 71 = .ok (.ireturn, 1) := by decide +kernel
theorem dX10_agree_72 : decode cX10_agree 72 = .ok (.iinc 3 1, 3) := by decide +kernel
theorem dX10_agree_75 : decode cX10_agree 75 = .ok (.goto (-73), 3) := by decide +kernel
theorem dX10_agree_78 : decode cX10_agree 78 = .ok (.iconst 1, 1) := by decide +kernel
theorem dX10_agree_79 : decode cX10_agree 79 = .ok (.ireturn, 1) := by decide +kernel
set_option maxRecDepth 20000 in
theorem ggX10_couldBeOdd_X10_letters : GoodIn wsX10_couldBeOdd wsX10_letters := goodIn_r _ [5, 6, 7, 8, 31, 32, 33, 34] (by decide +kernel) (by decide +kernel)
set_option maxRecDepth 20000 in
theorem gX10_couldBeOdd_X10_letters : GoodIn wsX10_couldBeOdd (wsV RX10 85 RX10 yX10_letters wsX10_letters) := goodIn_app (goodIn_of _ (by decide +kernel)) ggX10_couldBeOdd_X10_letters
set_option maxRecDepth 20000 in
theorem ggX10_couldBeOdd_X11_has : GoodIn wsX10_couldBeOdd wsX11_has := goodIn_r _ [11] (by decide +kernel) (by decide +kernel)
set_option maxRecDepth 20000 in
theorem gX10_couldBeOdd_X11_has_n56 : GoodIn wsX10_couldBeOdd (wsX11_has) := ggX10_couldBeOdd_X11_has
set_option maxRecDepth 20000 in
theorem ggX10_couldBeOdd_X10_agree : GoodIn wsX10_couldBeOdd wsX10_agree := goodIn_r _ [15, 6, 7, 8, 16, 17, 18, 19, 4, 20, 21, 22, 23, 24, 25, 26, 27, 28, 29, 30, 31, 32, 33, 34] (by decide +kernel) (by decide +kernel)
set_option maxRecDepth 20000 in
theorem gX10_couldBeOdd_X10_agree : GoodIn wsX10_couldBeOdd (wsV RX10 88 RX10 yX10_agree wsX10_agree) := goodIn_app (goodIn_of _ (by decide +kernel)) ggX10_couldBeOdd_X10_agree
theorem dX10_couldBeOdd_0 : decode cX10_couldBeOdd 0 = .ok (.aload_n 0, 1) := by decide +kernel
theorem dX10_couldBeOdd_1 : decode cX10_couldBeOdd 1 = .ok (.invokevirtual 85, 3) := by decide +kernel
theorem dX10_couldBeOdd_4 : decode cX10_couldBeOdd 4 = .ok (.istore_n 2, 1) := by decide +kernel
theorem dX10_couldBeOdd_5 : decode cX10_couldBeOdd 5 = .ok (.iconst 0, 1) := by decide +kernel
theorem dX10_couldBeOdd_6 : decode cX10_couldBeOdd 6 = .ok (.istore_n 3, 1) := by decide +kernel
theorem dX10_couldBeOdd_7 : decode cX10_couldBeOdd 7 = .ok (.iconst 0, 1) := by decide +kernel
theorem dX10_couldBeOdd_8 : decode cX10_couldBeOdd 8 = .ok (.istore 4, 2) := by decide +kernel
theorem dX10_couldBeOdd_10 : decode cX10_couldBeOdd 10 = .ok (.iload 4, 2) := by decide +kernel
theorem dX10_couldBeOdd_12 : decode cX10_couldBeOdd 12 = .ok (.bipush 16, 2) := by decide +kernel
theorem dX10_couldBeOdd_14 : decode cX10_couldBeOdd 14 = .ok (.if_icmp .ge 45, 3) := by decide +kernel
theorem dX10_couldBeOdd_17 : decode cX10_couldBeOdd 17 = .ok (.iload_n 2, 1) := by decide +kernel
theorem dX10_couldBeOdd_18 : decode cX10_couldBeOdd 18 = .ok (.iload 4, 2) := by decide +kernel
theorem dX10_couldBeOdd_20 : decode cX10_couldBeOdd 20 = .ok (.invokestatic 56, 3) := by decide +kernel
theorem dX10_couldBeOdd_23 : decode cX10_couldBeOdd 23 = .ok (.ifCond .eq 30, 3) := by decide +kernel
theorem dX10_couldBeOdd_26 : decode cX10_couldBeOdd 26 = .ok (.aload_n 0, 1) := by decide +kernel
theorem dX10_couldBeOdd_27 : decode cX10_couldBeOdd 27 = .ok (.iconst 1, 1) := by decide +kernel
theorem dX10_couldBeOdd_28 : decode cX10_couldBeOdd 28 = .ok (.iload 4, 2) := by decide +kernel
theorem dX10_couldBeOdd_30 : decode cX10_couldBeOdd 30 = .ok (.ishl, 1) := by decide +kernel
theorem dX10_couldBeOdd_31 : decode cX10_couldBeOdd 31 = .ok (.iload_n 1, 1) := by decide +kernel
theorem dX10_couldBeOdd_32 : decode cX10_couldBeOdd 32 = .ok (.ifCond .eq 7, 3) := by decide +kernel
theorem dX10_couldBeOdd_35 : decode cX10_couldBeOdd 35 = .ok (.iconst 1, 1) := by decide +kernel
theorem dX10_couldBeOdd_36 : decode cX10_couldBeOdd 36 = .ok (.goto 4, 3) := by decide +kernel
theorem dX10_couldBeOdd_39 : decode cX10_couldBeOdd 39 = .ok (.iconst (-1), 1) := by decide +kernel
theorem dX10_couldBeOdd_40 : decode cX10_couldBeOdd 40 = .ok (.invokevirtual 88, 3) := by decide +kernel
theorem dX10_couldBeOdd_43 : decode cX10_couldBeOdd 43 = .ok (.ifCond .eq 10, 3) := by decide +kernel
theorem dX10_couldBeOdd_46 : decode cX10_couldBeOdd 46 = .ok (.iload_n 3, 1) := by decide +kernel
theorem dX10_couldBeOdd_47 : decode cX10_couldBeOdd 47 = .ok (.iconst 1, 1) := by decide +kernel
theorem dX10_couldBeOdd_48 : decode cX10_couldBeOdd 48 = .ok (.iload 4, 2) := by decide +kernel
theorem dX10_couldBeOdd_50 : decode cX10_couldBeOdd 50 = .ok (.ishl, 1) := by decide +kernel
theorem dX10_couldBeOdd_51 : decode cX10_couldBeOdd 51 = .ok (.ior, 1) := by decide +kernel
theorem dX10_couldBeOdd_52 : decode cX10_couldBeOdd 52 = .ok (.istore_n 3, 1) := by decide +kernel
theorem dX10_couldBeOdd_53 : decode cX10_couldBeOdd 53 = .ok (.iinc 4 1, 3) := by decide +kernel
theorem dX10_couldBeOdd_56 : decode cX10_couldBeOdd 56 = .ok (.goto (-46), 3) := by decide +kernel
theorem dX10_couldBeOdd_59 : decode cX10_couldBeOdd 59 = .ok (.iload_n 3, 1) := by decide +kernel
theorem dX10_couldBeOdd_60 : decode cX10_couldBeOdd 60 = .ok (.ireturn, 1) := by decide +kernel
set_option maxRecDepth 20000 in
theorem ggX10_couldBeAlike_X10_agree : GoodIn wsX10_couldBeAlike wsX10_agree := goodIn_r _ [5, 6, 7, 8, 9, 10, 11, 12, 4, 13, 14, 15, 16, 17, 18, 19, 20, 21, 22, 23, 24, 25, 26, 27] (by decide +kernel) (by decide +kernel)
set_option maxRecDepth 20000 in
theorem gX10_couldBeAlike_X10_agree : GoodIn wsX10_couldBeAlike (wsV RX10 88 RX10 yX10_agree wsX10_agree) := goodIn_app (goodIn_of _ (by decide +kernel)) ggX10_couldBeAlike_X10_agree
theorem dX10_couldBeAlike_0 : decode cX10_couldBeAlike 0 = .ok (.aload_n 0, 1) := by decide +kernel
theorem dX10_couldBeAlike_1 : decode cX10_couldBeAlike 1 = .ok (.iconst 0, 1) := by decide +kernel
theorem dX10_couldBeAlike_2 : decode cX10_couldBeAlike 2 = .ok (.iconst 0, 1) := by decide +kernel
theorem dX10_couldBeAlike_3 : decode cX10_couldBeAlike 3 = .ok (.invokevirtual 88, 3) := by decide +kernel
theorem dX10_couldBeAlike_6 : decode cX10_couldBeAlike 6 = .ok (.ireturn, 1) := by decide +kernel
set_option maxRecDepth 20000 in
theorem ggX11_init_X8_init : GoodIn wsX11_init wsX8_init := goodIn_r _ [54, 55, 2, 3, 56, 57, 58, 143, 144] (by decide +kernel) (by decide +kernel)
set_option maxRecDepth 20000 in
theorem gX11_init_X8_init_n9 : GoodIn wsX11_init (wsX8_init) := ggX11_init_X8_init
set_option maxRecDepth 20000 in
theorem ggX11_init_X1_init : GoodIn wsX11_init wsX1_init := goodIn_r _ [61, 62, 2, 3, 63, 64, 65, 66, 67, 161, 162, 163, 164, 165] (by decide +kernel) (by decide +kernel)
set_option maxRecDepth 20000 in
theorem gX11_init_X1_init : GoodIn wsX11_init (wsX1_init) := ggX11_init_X1_init
set_option maxRecDepth 20000 in
theorem ggX11_init_X9_init : GoodIn wsX11_init wsX9_init := goodIn_r _ [69, 70, 2, 3, 56, 71, 72, 73, 74, 75, 76, 77, 78, 166, 167, 168, 169, 170, 171, 172, 173] (by decide +kernel) (by decide +kernel)
set_option maxRecDepth 20000 in
theorem gX11_init_X9_init_n27 : GoodIn wsX11_init (wsX9_init) := ggX11_init_X9_init
set_option maxRecDepth 20000 in
theorem ggX11_init_X7_init : GoodIn wsX11_init wsX7_init := goodIn_r _ [80, 81, 2, 3, 82, 83, 84, 85, 86, 87, 174, 175, 176, 177, 178, 179] (by decide +kernel) (by decide +kernel)
set_option maxRecDepth 20000 in
theorem gX11_init_X7_init_n40 : GoodIn wsX11_init (wsX7_init) := ggX11_init_X7_init
set_option maxRecDepth 20000 in
theorem ggX11_init_X4_init : GoodIn wsX11_init wsX4_init := goodIn_r _ [89, 90, 2, 3, 56, 91, 92, 93, 94, 180, 181, 182, 183] (by decide +kernel) (by decide +kernel)
set_option maxRecDepth 20000 in
theorem gX11_init_X4_init_n47 : GoodIn wsX11_init (wsX4_init) := ggX11_init_X4_init
set_option maxRecDepth 20000 in
theorem ggX11_init_X3_init : GoodIn wsX11_init wsX3_init := goodIn_r _ [97, 98, 2, 3, 99, 184] (by decide +kernel) (by decide +kernel)
set_option maxRecDepth 20000 in
theorem gX11_init_X3_init : GoodIn wsX11_init (wsX3_init) := ggX11_init_X3_init
set_option maxRecDepth 20000 in
theorem ggX11_init_X0_init : GoodIn wsX11_init wsX0_init := goodIn_r _ [101, 102, 2, 3, 56, 103, 104, 105, 106, 107, 108, 185, 186, 187, 188, 189, 190] (by decide +kernel) (by decide +kernel)
set_option maxRecDepth 20000 in
theorem gX11_init_X0_init_n63 : GoodIn wsX11_init (wsX0_init) := ggX11_init_X0_init
set_option maxRecDepth 20000 in
theorem ggX11_init_X6_init : GoodIn wsX11_init wsX6_init := goodIn_r _ [110, 111, 2, 3, 56, 112, 113, 191, 192] (by decide +kernel) (by decide +kernel)
set_option maxRecDepth 20000 in
theorem gX11_init_X6_init_n70 : GoodIn wsX11_init (wsX6_init) := ggX11_init_X6_init
set_option maxRecDepth 20000 in
theorem ggX11_init_X5_init : GoodIn wsX11_init wsX5_init := goodIn_r _ [115, 116, 2, 3, 56, 117, 118, 119, 120, 121, 122, 193, 194, 195, 196, 197] (by decide +kernel) (by decide +kernel)
set_option maxRecDepth 20000 in
theorem gX11_init_X5_init_n77 : GoodIn wsX11_init (wsX5_init) := ggX11_init_X5_init
set_option maxRecDepth 20000 in
theorem ggX11_init_X2_init : GoodIn wsX11_init wsX2_init := goodIn_r _ [124, 125, 2, 3, 56, 126, 127, 128, 129, 130, 131, 132, 133, 134, 135, 198, 199, 200, 201, 202, 203, 204, 205, 206, 207] (by decide +kernel) (by decide +kernel)
set_option maxRecDepth 20000 in
theorem gX11_init_X2_init_n84 : GoodIn wsX11_init (wsX2_init) := ggX11_init_X2_init
set_option maxRecDepth 20000 in
theorem ggX11_init_X10_init : GoodIn wsX11_init wsX10_init := goodIn_r _ [137, 138, 2, 3, 56, 139, 140, 141, 142, 208, 209, 210, 211] (by decide +kernel) (by decide +kernel)
set_option maxRecDepth 20000 in
theorem gX11_init_X10_init_n94 : GoodIn wsX11_init (wsX10_init) := ggX11_init_X10_init
theorem dX11_init_0 : decode cX11_init 0 = .ok (.aload_n 0, 1) := by decide +kernel
theorem dX11_init_1 : decode cX11_init 1 = .ok (.invokespecial 1, 3) := by decide +kernel
theorem dX11_init_4 : decode cX11_init 4 = .ok (.aload_n 0, 1) := by decide +kernel
theorem dX11_init_5 : decode cX11_init 5 = .ok (.new 7, 3) := by decide +kernel
theorem dX11_init_8 : decode cX11_init 8 = .ok (.dup, 1) := by decide +kernel
theorem dX11_init_9 : decode cX11_init 9 = .ok (.invokespecial 9, 3) := by decide +kernel
theorem dX11_init_12 : decode cX11_init 12 = .ok (.putfield 10, 3) := by decide +kernel
theorem dX11_init_15 : decode cX11_init 15 = .ok (.aload_n 0, 1) := by decide +kernel
theorem dX11_init_16 : decode cX11_init 16 = .ok (.new 16, 3) := by decide +kernel
theorem dX11_init_19 : decode cX11_init 19 = .ok (.dup, 1) := by decide +kernel
theorem dX11_init_20 : decode cX11_init 20 = .ok (.aload_n 0, 1) := by decide +kernel
theorem dX11_init_21 : decode cX11_init 21 = .ok (.getfield 10, 3) := by decide +kernel
theorem dX11_init_24 : decode cX11_init 24 = .ok (.invokespecial 18, 3) := by decide +kernel
theorem dX11_init_27 : decode cX11_init 27 = .ok (.putfield 21, 3) := by decide +kernel
theorem dX11_init_30 : decode cX11_init 30 = .ok (.aload_n 0, 1) := by decide +kernel
theorem dX11_init_31 : decode cX11_init 31 = .ok (.new 25, 3) := by decide +kernel
theorem dX11_init_34 : decode cX11_init 34 = .ok (.dup, 1) := by decide +kernel
theorem dX11_init_35 : decode cX11_init 35 = .ok (.invokespecial 27, 3) := by decide +kernel
theorem dX11_init_38 : decode cX11_init 38 = .ok (.putfield 28, 3) := by decide +kernel
theorem dX11_init_41 : decode cX11_init 41 = .ok (.aload_n 0, 1) := by decide +kernel
theorem dX11_init_42 : decode cX11_init 42 = .ok (.new 25, 3) := by decide +kernel
theorem dX11_init_45 : decode cX11_init 45 = .ok (.dup, 1) := by decide +kernel
theorem dX11_init_46 : decode cX11_init 46 = .ok (.invokespecial 27, 3) := by decide +kernel
theorem dX11_init_49 : decode cX11_init 49 = .ok (.putfield 32, 3) := by decide +kernel
theorem dX11_init_52 : decode cX11_init 52 = .ok (.aload_n 0, 1) := by decide +kernel
theorem dX11_init_53 : decode cX11_init 53 = .ok (.new 25, 3) := by decide +kernel
theorem dX11_init_56 : decode cX11_init 56 = .ok (.dup, 1) := by decide +kernel
theorem dX11_init_57 : decode cX11_init 57 = .ok (.invokespecial 27, 3) := by decide +kernel
theorem dX11_init_60 : decode cX11_init 60 = .ok (.putfield 35, 3) := by decide +kernel
theorem dX11_init_63 : decode cX11_init 63 = .ok (.aload_n 0, 1) := by decide +kernel
theorem dX11_init_64 : decode cX11_init 64 = .ok (.new 38, 3) := by decide +kernel
theorem dX11_init_67 : decode cX11_init 67 = .ok (.dup, 1) := by decide +kernel
theorem dX11_init_68 : decode cX11_init 68 = .ok (.invokespecial 40, 3) := by decide +kernel
theorem dX11_init_71 : decode cX11_init 71 = .ok (.putfield 41, 3) := by decide +kernel
theorem dX11_init_74 : decode cX11_init 74 = .ok (.aload_n 0, 1) := by decide +kernel
theorem dX11_init_75 : decode cX11_init 75 = .ok (.new 45, 3) := by decide +kernel
theorem dX11_init_78 : decode cX11_init 78 = .ok (.dup, 1) := by decide +kernel
theorem dX11_init_79 : decode cX11_init 79 = .ok (.invokespecial 47, 3) := by decide +kernel
theorem dX11_init_82 : decode cX11_init 82 = .ok (.putfield 48, 3) := by decide +kernel
theorem dX11_init_85 : decode cX11_init 85 = .ok (.aload_n 0, 1) := by decide +kernel
theorem dX11_init_86 : decode cX11_init 86 = .ok (.new 52, 3) := by decide +kernel
theorem dX11_init_89 : decode cX11_init 89 = .ok (.dup, 1) := by decide +kernel
theorem dX11_init_90 : decode cX11_init 90 = .ok (.aload_n 0, 1) := by decide +kernel
theorem dX11_init_91 : decode cX11_init 91 = .ok (.getfield 21, 3) := by decide +kernel
theorem dX11_init_94 : decode cX11_init 94 = .ok (.invokespecial 54, 3) := by decide +kernel
theorem dX11_init_97 : decode cX11_init 97 = .ok (.putfield 57, 3) := by decide +kernel
theorem dX11_init_100 : decode cX11_init 100 = .ok (.aload_n 0, 1) := by decide +kernel
theorem dX11_init_101 : decode cX11_init 101 = .ok (.new 61, 3) := by decide +kernel
theorem dX11_init_104 : decode cX11_init 104 = .ok (.dup, 1) := by decide +kernel
theorem dX11_init_105 : decode cX11_init 105 = .ok (.invokespecial 63, 3) := by decide +kernel
theorem dX11_init_108 : decode cX11_init 108 = .ok (.putfield 64, 3) := by decide +kernel
theorem dX11_init_111 : decode cX11_init 111 = .ok (.aload_n 0, 1) := by decide +kernel
theorem dX11_init_112 : decode cX11_init 112 = .ok (.new 68, 3) := by decide +kernel
theorem dX11_init_115 : decode cX11_init 115 = .ok (.dup, 1) := by decide +kernel
theorem dX11_init_116 : decode cX11_init 116 = .ok (.invokespecial 70, 3) := by decide +kernel
theorem dX11_init_119 : decode cX11_init 119 = .ok (.putfield 71, 3) := by decide +kernel
theorem dX11_init_122 : decode cX11_init 122 = .ok (.aload_n 0, 1) := by decide +kernel
theorem dX11_init_123 : decode cX11_init 123 = .ok (.new 75, 3) := by decide +kernel
theorem dX11_init_126 : decode cX11_init 126 = .ok (.dup, 1) := by decide +kernel
theorem dX11_init_127 : decode cX11_init 127 = .ok (.invokespecial 77, 3) := by decide +kernel
theorem dX11_init_130 : decode cX11_init 130 = .ok (.putfield 78, 3) := by decide +kernel
theorem dX11_init_133 : decode cX11_init 133 = .ok (.aload_n 0, 1) := by decide +kernel
theorem dX11_init_134 : decode cX11_init 134 = .ok (.new 82, 3) := by decide +kernel
theorem dX11_init_137 : decode cX11_init 137 = .ok (.dup, 1) := by decide +kernel
theorem dX11_init_138 : decode cX11_init 138 = .ok (.invokespecial 84, 3) := by decide +kernel
theorem dX11_init_141 : decode cX11_init 141 = .ok (.putfield 85, 3) := by decide +kernel
theorem dX11_init_144 : decode cX11_init 144 = .ok (.aload_n 0, 1) := by decide +kernel
theorem dX11_init_145 : decode cX11_init 145 = .ok (.new 82, 3) := by decide +kernel
theorem dX11_init_148 : decode cX11_init 148 = .ok (.dup, 1) := by decide +kernel
theorem dX11_init_149 : decode cX11_init 149 = .ok (.invokespecial 84, 3) := by decide +kernel
theorem dX11_init_152 : decode cX11_init 152 = .ok (.putfield 89, 3) := by decide +kernel
theorem dX11_init_155 : decode cX11_init 155 = .ok (.aload_n 0, 1) := by decide +kernel
theorem dX11_init_156 : decode cX11_init 156 = .ok (.new 92, 3) := by decide +kernel
theorem dX11_init_159 : decode cX11_init 159 = .ok (.dup, 1) := by decide +kernel
theorem dX11_init_160 : decode cX11_init 160 = .ok (.invokespecial 94, 3) := by decide +kernel
theorem dX11_init_163 : decode cX11_init 163 = .ok (.putfield 95, 3) := by decide +kernel
theorem dX11_init_166 : decode cX11_init 166 = .ok (.aload_n 0, 1) := by decide +kernel
theorem dX11_init_167 : decode cX11_init 167 = .ok (.new 92, 3) := by decide +kernel
theorem dX11_init_170 : decode cX11_init 170 = .ok (.dup, 1) := by decide +kernel
theorem dX11_init_171 : decode cX11_init 171 = .ok (.invokespecial 94, 3) := by decide +kernel
theorem dX11_init_174 : decode cX11_init 174 = .ok (.putfield 99, 3) := by decide +kernel
theorem dX11_init_177 : decode cX11_init 177 = .ok (.aload_n 0, 1) := by decide +kernel
theorem dX11_init_178 : decode cX11_init 178 = .ok (.iconst 0, 1) := by decide +kernel
theorem dX11_init_179 : decode cX11_init 179 = .ok (.putfield 102, 3) := by decide +kernel
theorem dX11_init_182 : decode cX11_init 182 = .ok (.return_, 1) := by decide +kernel
set_option maxRecDepth 20000 in
theorem ggX11_walker_X11_isWalker : GoodIn wsX11_walker wsX11_isWalker := goodIn_r _ [5, 6, 7, 4, 8] (by decide +kernel) (by decide +kernel)
set_option maxRecDepth 20000 in
theorem gX11_walker_X11_isWalker : GoodIn wsX11_walker (va_wsS RX11 106 yX11_isWalker wsX11_isWalker) := goodIn_app (goodIn_of _ (by decide +kernel)) ggX11_walker_X11_isWalker
set_option maxRecDepth 20000 in
theorem ggX11_walker_X11_isWithin : GoodIn wsX11_walker wsX11_isWithin := goodIn_r _ [8] (by decide +kernel) (by decide +kernel)
set_option maxRecDepth 20000 in
theorem gX11_walker_X11_isWithin : GoodIn wsX11_walker (va_wsS RX11 110 yX11_isWithin wsX11_isWithin) := goodIn_app (goodIn_of _ (by decide +kernel)) ggX11_walker_X11_isWithin
set_option maxRecDepth 20000 in
theorem ggX11_walker_X9_tell : GoodIn wsX11_walker wsX9_tell := goodIn_r _ [13, 14, 15, 16, 17, 18, 19, 36, 37, 38, 39, 40, 41, 42, 43] (by decide +kernel) (by decide +kernel)
set_option maxRecDepth 20000 in
theorem gX11_walker_X9_tell : GoodIn wsX11_walker (wsV RX11 114 RX9 yX9_tell wsX9_tell) := goodIn_app (goodIn_of _ (by decide +kernel)) ggX11_walker_X9_tell
theorem dX11_walker_0 : decode cX11_walker 0 = .ok (.iload_n 1, 1) := by decide +kernel
theorem dX11_walker_1 : decode cX11_walker 1 = .ok (.invokestatic 106, 3) := by decide +kernel
theorem dX11_walker_4 : decode cX11_walker 4 = .ok (.ifCond .eq 14, 3) := by decide +kernel
theorem dX11_walker_7 : decode cX11_walker 7 = .ok (.iload_n 2, 1) := by decide +kernel
theorem dX11_walker_8 : decode cX11_walker 8 = .ok (.iconst 1, 1) := by decide +kernel
theorem dX11_walker_9 : decode cX11_walker 9 = .ok (.sipush 999, 3) := by decide +kernel
theorem dX11_walker_12 : decode cX11_walker 12 = .ok (.invokestatic 110, 3) := by decide +kernel
theorem dX11_walker_15 : decode cX11_walker 15 = .ok (.ifCond .ne 5, 3) := by decide +kernel
theorem dX11_walker_18 : decode cX11_walker 18 = .ok (.iconst 0, 1) := by decide +kernel
theorem dX11_walker_19 : decode cX11_walker 19 = .ok (.ireturn, 1) := by decide +kernel
theorem dX11_walker_20 : decode cX11_walker 20 = .ok (.aload_n 0, 1) := by decide +kernel
theorem dX11_walker_21 : decode cX11_walker 21 = .ok (.getfield 28, 3) := by decide +kernel
theorem dX11_walker_24 : decode cX11_walker 24 = .ok (.iload_n 1, 1) := by decide +kernel
theorem dX11_walker_25 : decode cX11_walker 25 = .ok (.iload_n 2, 1) := by decide +kernel
theorem dX11_walker_26 : decode cX11_walker 26 = .ok (.invokevirtual 114, 3) := by decide +kernel
theorem dX11_walker_29 : decode cX11_walker 29 = .ok (.iconst 1, 1) := by decide +kernel
theorem dX11_walker_30 : decode cX11_walker 30 = .ok (.ireturn, 1) := by decide +kernel
set_option maxRecDepth 20000 in
theorem ggX11_rules_X11_isWithin : GoodIn wsX11_rules wsX11_isWithin := goodIn_r _ [7] (by decide +kernel) (by decide +kernel)
set_option maxRecDepth 20000 in
theorem gX11_rules_X11_isWithin : GoodIn wsX11_rules (va_wsS RX11 110 yX11_isWithin wsX11_isWithin) := goodIn_app (goodIn_of _ (by decide +kernel)) ggX11_rules_X11_isWithin
theorem dX11_rules_0 : decode cX11_rules 0 = .ok (.iload_n 1, 1) := by decide +kernel
theorem dX11_rules_1 : decode cX11_rules 1 = .ok (.iconst 0, 1) := by decide +kernel
theorem dX11_rules_2 : decode cX11_rules 2 = .ok (.bipush 99, 2) := by decide +kernel
theorem dX11_rules_4 : decode cX11_rules 4 = .ok (.invokestatic 110, 3) := by decide +kernel
theorem dX11_rules_7 : decode cX11_rules 7 = .ok (.ifCond .eq 13, 3) := by decide +kernel
theorem dX11_rules_10 : decode cX11_rules 10 = .ok (.iload_n 2, 1) := by decide +kernel
theorem dX11_rules_11 : decode cX11_rules 11 = .ok (.iconst 0, 1) := by decide +kernel
theorem dX11_rules_12 : decode cX11_rules 12 = .ok (.bipush 99, 2) := by decide +kernel
theorem dX11_rules_14 : decode cX11_rules 14 = .ok (.invokestatic 110, 3) := by decide +kernel
theorem dX11_rules_17 : decode cX11_rules 17 = .ok (.ifCond .ne 5, 3) := by decide +kernel
theorem dX11_rules_20 : decode cX11_rules 20 = .ok (.iconst 0, 1) := by decide +kernel
theorem dX11_rules_21 : decode cX11_rules 21 = .ok (.ireturn, 1) := by decide +kernel
theorem dX11_rules_22 : decode cX11_rules 22 = .ok (.aload_n 0, 1) := by decide +kernel
theorem dX11_rules_23 : decode cX11_rules 23 = .ok (.getfield 41, 3) := by decide +kernel
theorem dX11_rules_26 : decode cX11_rules 26 = .ok (.iload_n 1, 1) := by decide +kernel
theorem dX11_rules_27 : decode cX11_rules 27 = .ok (.putfield 118, 3) := by decide +kernel
theorem dX11_rules_30 : decode cX11_rules 30 = .ok (.aload_n 0, 1) := by decide +kernel
theorem dX11_rules_31 : decode cX11_rules 31 = .ok (.getfield 41, 3) := by decide +kernel
theorem dX11_rules_34 : decode cX11_rules 34 = .ok (.iload_n 2, 1) := by decide +kernel
theorem dX11_rules_35 : decode cX11_rules 35 = .ok (.putfield 122, 3) := by decide +kernel
theorem dX11_rules_38 : decode cX11_rules 38 = .ok (.iconst 1, 1) := by decide +kernel
theorem dX11_rules_39 : decode cX11_rules 39 = .ok (.ireturn, 1) := by decide +kernel
set_option maxRecDepth 20000 in
theorem ggX11_feed_X8_hasRoom : GoodIn wsX11_feed wsX8_hasRoom := goodIn_r _ [7, 8, 30, 31] (by decide +kernel) (by decide +kernel)
set_option maxRecDepth 20000 in
theorem gX11_feed_X8_hasRoom : GoodIn wsX11_feed (wsV RX11 125 RX8 yX8_hasRoom wsX8_hasRoom) := goodIn_app (goodIn_of _ (by decide +kernel)) ggX11_feed_X8_hasRoom
set_option maxRecDepth 20000 in
theorem ggX11_feed_X8_append : GoodIn wsX11_feed wsX8_append := goodIn_r _ [12, 8, 13, 30, 31] (by decide +kernel) (by decide +kernel)
set_option maxRecDepth 20000 in
theorem gX11_feed_X8_append : GoodIn wsX11_feed (wsV RX11 129 RX8 yX8_append wsX8_append) := goodIn_app (goodIn_of _ (by decide +kernel)) ggX11_feed_X8_append
theorem dX11_feed_0 : decode cX11_feed 0 = .ok (.aload_n 0, 1) := by decide +kernel
theorem dX11_feed_1 : decode cX11_feed 1 = .ok (.getfield 10, 3) := by decide +kernel
theorem dX11_feed_4 : decode cX11_feed 4 = .ok (.invokevirtual 125, 3) := by decide +kernel
theorem dX11_feed_7 : decode cX11_feed 7 = .ok (.ifCond .ne 5, 3) := by decide +kernel
theorem dX11_feed_10 : decode cX11_feed 10 = .ok (.iconst (-1), 1) := by decide +kernel
theorem dX11_feed_11 : decode cX11_feed 11 = .ok (.ireturn, 1) := by decide +kernel
theorem dX11_feed_12 : decode cX11_feed 12 = .ok (.aload_n 0, 1) := by decide +kernel
theorem dX11_feed_13 : decode cX11_feed 13 = .ok (.getfield 10, 3) := by decide +kernel
theorem dX11_feed_16 : decode cX11_feed 16 = .ok (.iload_n 1, 1) := by decide +kernel
theorem dX11_feed_17 : decode cX11_feed 17 = .ok (.invokevirtual 129, 3) := by decide +kernel
theorem dX11_feed_20 : decode cX11_feed 20 = .ok (.aload_n 0, 1) := by decide +kernel
theorem dX11_feed_21 : decode cX11_feed 21 = .ok (.getfield 10, 3) := by decide +kernel
theorem dX11_feed_24 : decode cX11_feed 24 = .ok (.iload_n 2, 1) := by decide +kernel
theorem dX11_feed_25 : decode cX11_feed 25 = .ok (.invokevirtual 129, 3) := by decide +kernel
theorem dX11_feed_28 : decode cX11_feed 28 = .ok (.aload_n 0, 1) := by decide +kernel
theorem dX11_feed_29 : decode cX11_feed 29 = .ok (.getfield 10, 3) := by decide +kernel
theorem dX11_feed_32 : decode cX11_feed 32 = .ok (.iload_n 3, 1) := by decide +kernel
theorem dX11_feed_33 : decode cX11_feed 33 = .ok (.invokevirtual 129, 3) := by decide +kernel
theorem dX11_feed_36 : decode cX11_feed 36 = .ok (.aload_n 0, 1) := by decide +kernel
theorem dX11_feed_37 : decode cX11_feed 37 = .ok (.getfield 10, 3) := by decide +kernel
theorem dX11_feed_40 : decode cX11_feed 40 = .ok (.iload 4, 2) := by decide +kernel
theorem dX11_feed_42 : decode cX11_feed 42 = .ok (.invokevirtual 129, 3) := by decide +kernel
theorem dX11_feed_45 : decode cX11_feed 45 = .ok (.aload_n 0, 1) := by decide +kernel
theorem dX11_feed_46 : decode cX11_feed 46 = .ok (.getfield 10, 3) := by decide +kernel
theorem dX11_feed_49 : decode cX11_feed 49 = .ok (.iload 5, 2) := by decide +kernel
theorem dX11_feed_51 : decode cX11_feed 51 = .ok (.invokevirtual 129, 3) := by decide +kernel
theorem dX11_feed_54 : decode cX11_feed 54 = .ok (.aload_n 0, 1) := by decide +kernel
theorem dX11_feed_55 : decode cX11_feed 55 = .ok (.getfield 10, 3) := by decide +kernel
theorem dX11_feed_58 : decode cX11_feed 58 = .ok (.getfield 133, 3) := by decide +kernel
theorem dX11_feed_61 : decode cX11_feed 61 = .ok (.ireturn, 1) := by decide +kernel
set_option maxRecDepth 20000 in
theorem ggX11_law_X8_offers : GoodIn wsX11_law wsX8_offers := goodIn_r _ [12, 13, 14, 15, 16, 270, 271] (by decide +kernel) (by decide +kernel)
set_option maxRecDepth 20000 in
theorem gX11_law_X8_offers : GoodIn wsX11_law (wsV RX11 136 RX8 yX8_offers wsX8_offers) := goodIn_app (goodIn_of _ (by decide +kernel)) ggX11_law_X8_offers
set_option maxRecDepth 20000 in
theorem ggX11_law_X1_start : GoodIn wsX11_law wsX1_start := goodIn_r _ [21, 22, 23, 24, 25, 26, 27, 20, 28, 29, 30, 31, 32, 33, 34, 35, 36, 37, 11, 38, 13, 39, 255, 256, 257, 258, 259, 270, 271] (by decide +kernel) (by decide +kernel)
set_option maxRecDepth 20000 in
theorem gX11_law_X1_start : GoodIn wsX11_law (wsV RX11 139 RX1 yX1_start wsX1_start) := goodIn_app (goodIn_of _ (by decide +kernel)) ggX11_law_X1_start
set_option maxRecDepth 20000 in
theorem ggX11_law_X3_read : GoodIn wsX11_law wsX3_read := goodIn_r _ [44, 45, 46, 47, 48, 49, 50, 51, 52, 53, 54, 55, 20, 56, 24, 22, 57, 58, 59, 60, 23, 61, 62, 63, 64, 65, 66, 67, 68, 34, 69, 70, 71, 72, 73, 74, 75, 76, 25, 26, 27, 28, 29, 30, 31, 32, 33, 35, 36, 37, 11, 38, 13, 39, 77, 78, 79, 43, 80, 81, 82, 83, 84, 85, 86, 87, 88, 89, 90, 91, 92, 93, 94, 95, 96, 97, 98, 99, 100, 101, 102, 103, 104, 105, 106, 107, 108, 109, 110, 111, 112, 113, 114, 115, 116, 117, 118, 119, 120, 121, 122, 123, 124, 125, 126, 127, 128, 129, 130, 131, 132, 133, 134, 135, 136, 137, 138, 139, 140, 141, 142, 143, 144, 145, 146, 147, 148, 149, 150, 151, 152, 153, 154, 155, 156, 157, 158, 159, 160, 161, 162, 163, 164, 165, 166, 167, 168, 169, 170, 171, 172, 173, 174, 175, 176, 177, 178, 179, 180, 181, 182, 183, 184, 185, 186, 187, 188, 189, 190, 191, 192, 193, 194, 195, 196, 197, 198, 199, 14, 15, 16, 200, 201, 202, 203, 204, 205, 206, 207, 208, 209, 210, 211, 212, 213, 214, 215, 216, 217, 218, 219, 220, 221, 222, 223, 224, 225, 226, 227, 228, 229, 230, 231, 232, 233, 272, 260, 261, 262, 263, 264, 265, 266, 267, 268, 269, 255, 256, 257, 258, 259, 270, 271] (by decide +kernel) (by decide +kernel)
set_option maxRecDepth 20000 in
theorem gX11_law_X3_read : GoodIn wsX11_law (wsV RX11 142 RX3 yX3_read wsX3_read) := goodIn_app (goodIn_of _ (by decide +kernel)) ggX11_law_X3_read
set_option maxRecDepth 20000 in
theorem ggX11_law_X8_clear : GoodIn wsX11_law wsX8_clear := goodIn_r _ [237, 13, 270, 271] (by decide +kernel) (by decide +kernel)
set_option maxRecDepth 20000 in
theorem gX11_law_X8_clear : GoodIn wsX11_law (wsV RX11 146 RX8 yX8_clear wsX8_clear) := goodIn_app (goodIn_of _ (by decide +kernel)) ggX11_law_X8_clear
set_option maxRecDepth 20000 in
theorem ggX11_law_X1_isFaulty : GoodIn wsX11_law wsX1_isFaulty := goodIn_r _ [60, 23, 255, 256, 257, 258, 259] (by decide +kernel) (by decide +kernel)
set_option maxRecDepth 20000 in
theorem gX11_law_X1_isFaulty : GoodIn wsX11_law (wsV RX11 149 RX1 yX1_isFaulty wsX1_isFaulty) := goodIn_app (goodIn_of _ (by decide +kernel)) ggX11_law_X1_isFaulty
theorem dX11_law_0 : decode cX11_law 0 = .ok (.aload_n 0, 1) := by decide +kernel
theorem dX11_law_1 : decode cX11_law 1 = .ok (.getfield 10, 3) := by decide +kernel
theorem dX11_law_4 : decode cX11_law 4 = .ok (.iload_n 1, 1) := by decide +kernel
theorem dX11_law_5 : decode cX11_law 5 = .ok (.iconst 1, 1) := by decide +kernel
theorem dX11_law_6 : decode cX11_law 6 = .ok (.sipush 240, 3) := by decide +kernel
theorem dX11_law_9 : decode cX11_law 9 = .ok (.invokevirtual 136, 3) := by decide +kernel
theorem dX11_law_12 : decode cX11_law 12 = .ok (.ifCond .ne 5, 3) := by decide +kernel
theorem dX11_law_15 : decode cX11_law 15 = .ok (.iconst (-1), 1) := by decide +kernel
theorem dX11_law_16 : decode cX11_law 16 = .ok (.ireturn, 1) := by decide +kernel
theorem dX11_law_17 : decode cX11_law 17 = .ok (.aload_n 0, 1) := by decide +kernel
theorem dX11_law_18 : decode cX11_law 18 = .ok (.getfield 21, 3) := by decide +kernel
theorem dX11_law_21 : decode cX11_law 21 = .ok (.iload_n 1, 1) := by decide +kernel
theorem dX11_law_22 : decode cX11_law 22 = .ok (.invokevirtual 139, 3) := by decide +kernel
theorem dX11_law_25 : decode cX11_law 25 = .ok (.aload_n 0, 1) := by decide +kernel
theorem dX11_law_26 : decode cX11_law 26 = .ok (.getfield 57, 3) := by decide +kernel
theorem dX11_law_29 : decode cX11_law 29 = .ok (.aload_n 0, 1) := by decide +kernel
theorem dX11_law_30 : decode cX11_law 30 = .ok (.getfield 89, 3) := by decide +kernel
theorem dX11_law_33 : decode cX11_law 33 = .ok (.invokevirtual 142, 3) := by decide +kernel
theorem dX11_law_36 : decode cX11_law 36 = .ok (.aload_n 0, 1) := by decide +kernel
theorem dX11_law_37 : decode cX11_law 37 = .ok (.getfield 10, 3) := by decide +kernel
theorem dX11_law_40 : decode cX11_law 40 = .ok (.invokevirtual 146, 3) := by decide +kernel
theorem dX11_law_43 : decode cX11_law 43 = .ok (.aload_n 0, 1) := by decide +kernel
theorem dX11_law_44 : decode cX11_law 44 = .ok (.getfield 21, 3) := by decide +kernel
theorem dX11_law_47 : decode cX11_law 47 = .ok (.invokevirtual 149, 3) := by decide +kernel
theorem dX11_law_50 : decode cX11_law 50 = .ok (.ifCond .eq 11, 3) := by decide +kernel
theorem dX11_law_53 : decode cX11_law 53 = .ok (.aload_n 0, 1) := by decide +kernel
theorem dX11_law_54 : decode cX11_law 54 = .ok (.getfield 21, 3) := by decide +kernel
theorem dX11_law_57 : decode cX11_law 57 = .ok (.getfield 152, 3) := by decide +kernel
theorem dX11_law_60 : decode cX11_law 60 = .ok (.ireturn, 1) := by decide +kernel
theorem dX11_law_61 : decode cX11_law 61 = .ok (.aload_n 0, 1) := by decide +kernel
theorem dX11_law_62 : decode cX11_law 62 = .ok (.getfield 85, 3) := by decide +kernel
theorem dX11_law_65 : decode cX11_law 65 = .ok (.astore_n 2, 1) := by decide +kernel
theorem dX11_law_66 : decode cX11_law 66 = .ok (.aload_n 0, 1) := by decide +kernel
theorem dX11_law_67 : decode cX11_law 67 = .ok (.aload_n 0, 1) := by decide +kernel
theorem dX11_law_68 : decode cX11_law 68 = .ok (.getfield 89, 3) := by decide +kernel
theorem dX11_law_71 : decode cX11_law 71 = .ok (.putfield 85, 3) := by decide +kernel
theorem dX11_law_74 : decode cX11_law 74 = .ok (.aload_n 0, 1) := by decide +kernel
theorem dX11_law_75 : decode cX11_law 75 = .ok (.aload_n 2, 1) := by decide +kernel
theorem dX11_law_76 : decode cX11_law 76 = .ok (.putfield 89, 3) := by decide +kernel
theorem dX11_law_79 : decode cX11_law 79 = .ok (.aload_n 0, 1) := by decide +kernel
theorem dX11_law_80 : decode cX11_law 80 = .ok (.getfield 85, 3) := by decide +kernel
theorem dX11_law_83 : decode cX11_law 83 = .ok (.getfield 155, 3) := by decide +kernel
theorem dX11_law_86 : decode cX11_law 86 = .ok (.ireturn, 1) := by decide +kernel
set_option maxRecDepth 20000 in
theorem ggX11_orders_X8_offers : GoodIn wsX11_orders wsX8_offers := goodIn_r _ [12, 13, 14, 15, 16, 159, 160] (by decide +kernel) (by decide +kernel)
set_option maxRecDepth 20000 in
theorem gX11_orders_X8_offers : GoodIn wsX11_orders (wsV RX11 136 RX8 yX8_offers wsX8_offers) := goodIn_app (goodIn_of _ (by decide +kernel)) ggX11_orders_X8_offers
set_option maxRecDepth 20000 in
theorem ggX11_orders_X1_start : GoodIn wsX11_orders wsX1_start := goodIn_r _ [21, 22, 23, 24, 25, 26, 27, 20, 28, 29, 30, 31, 32, 33, 34, 35, 36, 37, 11, 38, 13, 39, 150, 151, 152, 153, 154, 159, 160] (by decide +kernel) (by decide +kernel)
set_option maxRecDepth 20000 in
theorem gX11_orders_X1_start : GoodIn wsX11_orders (wsV RX11 139 RX1 yX1_start wsX1_start) := goodIn_app (goodIn_of _ (by decide +kernel)) ggX11_orders_X1_start
set_option maxRecDepth 20000 in
theorem ggX11_orders_X4_read : GoodIn wsX11_orders wsX4_read := goodIn_r _ [44, 45, 46, 47, 48, 20, 49, 24, 22, 50, 51, 52, 53, 23, 54, 55, 56, 57, 58, 59, 60, 61, 34, 62, 63, 64, 65, 66, 67, 68, 69, 25, 26, 27, 28, 29, 30, 31, 32, 33, 35, 36, 37, 11, 38, 13, 39, 70, 71, 72, 43, 73, 74, 75, 76, 77, 78, 79, 80, 81, 82, 15, 83, 84, 14, 16, 85, 86, 87, 88, 89, 90, 91, 92, 93, 94, 95, 96, 97, 98, 99, 100, 101, 155, 156, 157, 158, 150, 151, 152, 153, 154, 159, 160] (by decide +kernel) (by decide +kernel)
set_option maxRecDepth 20000 in
theorem gX11_orders_X4_read : GoodIn wsX11_orders (wsV RX11 160 RX4 yX4_read wsX4_read) := goodIn_app (goodIn_of _ (by decide +kernel)) ggX11_orders_X4_read
set_option maxRecDepth 20000 in
theorem ggX11_orders_X8_clear : GoodIn wsX11_orders wsX8_clear := goodIn_r _ [105, 13, 159, 160] (by decide +kernel) (by decide +kernel)
set_option maxRecDepth 20000 in
theorem gX11_orders_X8_clear : GoodIn wsX11_orders (wsV RX11 146 RX8 yX8_clear wsX8_clear) := goodIn_app (goodIn_of _ (by decide +kernel)) ggX11_orders_X8_clear
set_option maxRecDepth 20000 in
theorem ggX11_orders_X1_isFaulty : GoodIn wsX11_orders wsX1_isFaulty := goodIn_r _ [53, 23, 150, 151, 152, 153, 154] (by decide +kernel) (by decide +kernel)
set_option maxRecDepth 20000 in
theorem gX11_orders_X1_isFaulty : GoodIn wsX11_orders (wsV RX11 149 RX1 yX1_isFaulty wsX1_isFaulty) := goodIn_app (goodIn_of _ (by decide +kernel)) ggX11_orders_X1_isFaulty
set_option maxRecDepth 20000 in
theorem ggX11_orders_X4_carryOut : GoodIn wsX11_orders wsX4_carryOut := goodIn_r _ [110, 45, 74, 75, 111, 77, 112, 113, 114, 115, 116, 117, 118, 119, 120, 15, 121, 122, 30, 31, 32, 123, 124, 125, 155, 156, 157, 158, 142, 143, 144, 145, 146, 147, 148, 149] (by decide +kernel) (by decide +kernel)
set_option maxRecDepth 20000 in
theorem gX11_orders_X4_carryOut : GoodIn wsX11_orders (wsV RX11 163 RX4 yX4_carryOut wsX4_carryOut) := goodIn_app (goodIn_of _ (by decide +kernel)) ggX11_orders_X4_carryOut
theorem dX11_orders_0 : decode cX11_orders 0 = .ok (.aload_n 0, 1) := by decide +kernel
theorem dX11_orders_1 : decode cX11_orders 1 = .ok (.getfield 10, 3) := by decide +kernel
theorem dX11_orders_4 : decode cX11_orders 4 = .ok (.iload_n 1, 1) := by decide +kernel
theorem dX11_orders_5 : decode cX11_orders 5 = .ok (.iconst 1, 1) := by decide +kernel
theorem dX11_orders_6 : decode cX11_orders 6 = .ok (.bipush 120, 2) := by decide +kernel
theorem dX11_orders_8 : decode cX11_orders 8 = .ok (.invokevirtual 136, 3) := by decide +kernel
theorem dX11_orders_11 : decode cX11_orders 11 = .ok (.ifCond .ne 5, 3) := by decide +kernel
theorem dX11_orders_14 : decode cX11_orders 14 = .ok (.iconst (-1), 1) := by decide +kernel
theorem dX11_orders_15 : decode cX11_orders 15 = .ok (.ireturn, 1) := by decide +kernel
theorem dX11_orders_16 : decode cX11_orders 16 = .ok (.aload_n 0, 1) := by decide +kernel
theorem dX11_orders_17 : decode cX11_orders 17 = .ok (.getfield 21, 3) := by decide +kernel
theorem dX11_orders_20 : decode cX11_orders 20 = .ok (.iload_n 1, 1) := by decide +kernel
theorem dX11_orders_21 : decode cX11_orders 21 = .ok (.invokevirtual 139, 3) := by decide +kernel
theorem dX11_orders_24 : decode cX11_orders 24 = .ok (.aload_n 0, 1) := by decide +kernel
theorem dX11_orders_25 : decode cX11_orders 25 = .ok (.getfield 48, 3) := by decide +kernel
theorem dX11_orders_28 : decode cX11_orders 28 = .ok (.aload_n 0, 1) := by decide +kernel
theorem dX11_orders_29 : decode cX11_orders 29 = .ok (.getfield 21, 3) := by decide +kernel
theorem dX11_orders_32 : decode cX11_orders 32 = .ok (.aload_n 0, 1) := by decide +kernel
theorem dX11_orders_33 : decode cX11_orders 33 = .ok (.getfield 28, 3) := by decide +kernel
theorem dX11_orders_36 : decode cX11_orders 36 = .ok (.getfield 158, 3) := by decide +kernel
theorem dX11_orders_39 : decode cX11_orders 39 = .ok (.invokevirtual 160, 3) := by decide +kernel
theorem dX11_orders_42 : decode cX11_orders 42 = .ok (.aload_n 0, 1) := by decide +kernel
theorem dX11_orders_43 : decode cX11_orders 43 = .ok (.getfield 10, 3) := by decide +kernel
theorem dX11_orders_46 : decode cX11_orders 46 = .ok (.invokevirtual 146, 3) := by decide +kernel
theorem dX11_orders_49 : decode cX11_orders 49 = .ok (.aload_n 0, 1) := by decide +kernel
theorem dX11_orders_50 : decode cX11_orders 50 = .ok (.getfield 21, 3) := by decide +kernel
theorem dX11_orders_53 : decode cX11_orders 53 = .ok (.invokevirtual 149, 3) := by decide +kernel
theorem dX11_orders_56 : decode cX11_orders 56 = .ok (.ifCond .eq 11, 3) := by decide +kernel
theorem dX11_orders_59 : decode cX11_orders 59 = .ok (.aload_n 0, 1) := by decide +kernel
theorem dX11_orders_60 : decode cX11_orders 60 = .ok (.getfield 21, 3) := by decide +kernel
theorem dX11_orders_63 : decode cX11_orders 63 = .ok (.getfield 152, 3) := by decide +kernel
theorem dX11_orders_66 : decode cX11_orders 66 = .ok (.ireturn, 1) := by decide +kernel
theorem dX11_orders_67 : decode cX11_orders 67 = .ok (.aload_n 0, 1) := by decide +kernel
theorem dX11_orders_68 : decode cX11_orders 68 = .ok (.getfield 48, 3) := by decide +kernel
theorem dX11_orders_71 : decode cX11_orders 71 = .ok (.aload_n 0, 1) := by decide +kernel
theorem dX11_orders_72 : decode cX11_orders 72 = .ok (.getfield 28, 3) := by decide +kernel
theorem dX11_orders_75 : decode cX11_orders 75 = .ok (.invokevirtual 163, 3) := by decide +kernel
theorem dX11_orders_78 : decode cX11_orders 78 = .ok (.aload_n 0, 1) := by decide +kernel
theorem dX11_orders_79 : decode cX11_orders 79 = .ok (.getfield 48, 3) := by decide +kernel
theorem dX11_orders_82 : decode cX11_orders 82 = .ok (.getfield 167, 3) := by decide +kernel
theorem dX11_orders_85 : decode cX11_orders 85 = .ok (.ireturn, 1) := by decide +kernel
set_option maxRecDepth 20000 in
theorem ggX11_weighings_X8_offers : GoodIn wsX11_weighings wsX8_offers := goodIn_r _ [11, 12, 13, 14, 15, 124, 125] (by decide +kernel) (by decide +kernel)
set_option maxRecDepth 20000 in
theorem gX11_weighings_X8_offers : GoodIn wsX11_weighings (wsV RX11 136 RX8 yX8_offers wsX8_offers) := goodIn_app (goodIn_of _ (by decide +kernel)) ggX11_weighings_X8_offers
set_option maxRecDepth 20000 in
theorem ggX11_weighings_X1_start : GoodIn wsX11_weighings wsX1_start := goodIn_r _ [20, 21, 22, 23, 24, 25, 26, 19, 27, 28, 29, 30, 31, 32, 33, 34, 35, 36, 10, 37, 12, 38, 115, 116, 117, 118, 119, 124, 125] (by decide +kernel) (by decide +kernel)
set_option maxRecDepth 20000 in
theorem gX11_weighings_X1_start : GoodIn wsX11_weighings (wsV RX11 139 RX1 yX1_start wsX1_start) := goodIn_app (goodIn_of _ (by decide +kernel)) ggX11_weighings_X1_start
set_option maxRecDepth 20000 in
theorem ggX11_weighings_X10_read : GoodIn wsX11_weighings wsX10_read := goodIn_r _ [43, 44, 45, 46, 47, 19, 48, 23, 21, 49, 50, 51, 52, 22, 53, 54, 55, 56, 57, 58, 59, 60, 33, 61, 62, 63, 64, 65, 66, 67, 68, 24, 25, 26, 27, 28, 29, 30, 31, 32, 34, 35, 36, 10, 37, 12, 38, 69, 70, 71, 42, 72, 73, 74, 75, 76, 77, 78, 79, 80, 81, 14, 82, 83, 13, 15, 84, 85, 86, 87, 88, 89, 90, 91, 92, 93, 120, 121, 122, 123, 115, 116, 117, 118, 119, 124, 125] (by decide +kernel) (by decide +kernel)
set_option maxRecDepth 20000 in
theorem gX11_weighings_X10_read : GoodIn wsX11_weighings (wsV RX11 170 RX10 yX10_read wsX10_read) := goodIn_app (goodIn_of _ (by decide +kernel)) ggX11_weighings_X10_read
set_option maxRecDepth 20000 in
theorem ggX11_weighings_X8_clear : GoodIn wsX11_weighings wsX8_clear := goodIn_r _ [97, 12, 124, 125] (by decide +kernel) (by decide +kernel)
set_option maxRecDepth 20000 in
theorem gX11_weighings_X8_clear : GoodIn wsX11_weighings (wsV RX11 146 RX8 yX8_clear wsX8_clear) := goodIn_app (goodIn_of _ (by decide +kernel)) ggX11_weighings_X8_clear
set_option maxRecDepth 20000 in
theorem ggX11_weighings_X1_isFaulty : GoodIn wsX11_weighings wsX1_isFaulty := goodIn_r _ [52, 22, 115, 116, 117, 118, 119] (by decide +kernel) (by decide +kernel)
set_option maxRecDepth 20000 in
theorem gX11_weighings_X1_isFaulty : GoodIn wsX11_weighings (wsV RX11 149 RX1 yX1_isFaulty wsX1_isFaulty) := goodIn_app (goodIn_of _ (by decide +kernel)) ggX11_weighings_X1_isFaulty
theorem dX11_weighings_0 : decode cX11_weighings 0 = .ok (.aload_n 0, 1) := by decide +kernel
theorem dX11_weighings_1 : decode cX11_weighings 1 = .ok (.getfield 10, 3) := by decide +kernel
theorem dX11_weighings_4 : decode cX11_weighings 4 = .ok (.iload_n 1, 1) := by decide +kernel
theorem dX11_weighings_5 : decode cX11_weighings 5 = .ok (.iconst 1, 1) := by decide +kernel
theorem dX11_weighings_6 : decode cX11_weighings 6 = .ok (.bipush 120, 2) := by decide +kernel
theorem dX11_weighings_8 : decode cX11_weighings 8 = .ok (.invokevirtual 136, 3) := by decide +kernel
theorem dX11_weighings_11 : decode cX11_weighings 11 = .ok (.ifCond .ne 5, 3) := by decide +kernel
theorem dX11_weighings_14 : decode cX11_weighings 14 = .ok (.iconst (-1), 1) := by decide +kernel
theorem dX11_weighings_15 : decode cX11_weighings 15 = .ok (.ireturn, 1) := by decide +kernel
theorem dX11_weighings_16 : decode cX11_weighings 16 = .ok (.aload_n 0, 1) := by decide +kernel
theorem dX11_weighings_17 : decode cX11_weighings 17 = .ok (.getfield 21, 3) := by decide +kernel
theorem dX11_weighings_20 : decode cX11_weighings 20 = .ok (.iload_n 1, 1) := by decide +kernel
theorem dX11_weighings_21 : decode cX11_weighings 21 = .ok (.invokevirtual 139, 3) := by decide +kernel
theorem dX11_weighings_24 : decode cX11_weighings 24 = .ok (.aload_n 0, 1) := by decide +kernel
theorem dX11_weighings_25 : decode cX11_weighings 25 = .ok (.getfield 99, 3) := by decide +kernel
theorem dX11_weighings_28 : decode cX11_weighings 28 = .ok (.aload_n 0, 1) := by decide +kernel
theorem dX11_weighings_29 : decode cX11_weighings 29 = .ok (.getfield 21, 3) := by decide +kernel
theorem dX11_weighings_32 : decode cX11_weighings 32 = .ok (.invokevirtual 170, 3) := by decide +kernel
theorem dX11_weighings_35 : decode cX11_weighings 35 = .ok (.aload_n 0, 1) := by decide +kernel
theorem dX11_weighings_36 : decode cX11_weighings 36 = .ok (.getfield 10, 3) := by decide +kernel
theorem dX11_weighings_39 : decode cX11_weighings 39 = .ok (.invokevirtual 146, 3) := by decide +kernel
theorem dX11_weighings_42 : decode cX11_weighings 42 = .ok (.aload_n 0, 1) := by decide +kernel
theorem dX11_weighings_43 : decode cX11_weighings 43 = .ok (.getfield 21, 3) := by decide +kernel
theorem dX11_weighings_46 : decode cX11_weighings 46 = .ok (.invokevirtual 149, 3) := by decide +kernel
theorem dX11_weighings_49 : decode cX11_weighings 49 = .ok (.ifCond .eq 11, 3) := by decide +kernel
theorem dX11_weighings_52 : decode cX11_weighings 52 = .ok (.aload_n 0, 1) := by decide +kernel
theorem dX11_weighings_53 : decode cX11_weighings 53 = .ok (.getfield 21, 3) := by decide +kernel
theorem dX11_weighings_56 : decode cX11_weighings 56 = .ok (.getfield 152, 3) := by decide +kernel
theorem dX11_weighings_59 : decode cX11_weighings 59 = .ok (.ireturn, 1) := by decide +kernel
theorem dX11_weighings_60 : decode cX11_weighings 60 = .ok (.aload_n 0, 1) := by decide +kernel
theorem dX11_weighings_61 : decode cX11_weighings 61 = .ok (.getfield 95, 3) := by decide +kernel
theorem dX11_weighings_64 : decode cX11_weighings 64 = .ok (.astore_n 2, 1) := by decide +kernel
theorem dX11_weighings_65 : decode cX11_weighings 65 = .ok (.aload_n 0, 1) := by decide +kernel
theorem dX11_weighings_66 : decode cX11_weighings 66 = .ok (.aload_n 0, 1) := by decide +kernel
theorem dX11_weighings_67 : decode cX11_weighings 67 = .ok (.getfield 99, 3) := by decide +kernel
theorem dX11_weighings_70 : decode cX11_weighings 70 = .ok (.putfield 95, 3) := by decide +kernel
theorem dX11_weighings_73 : decode cX11_weighings 73 = .ok (.aload_n 0, 1) := by decide +kernel
theorem dX11_weighings_74 : decode cX11_weighings 74 = .ok (.aload_n 2, 1) := by decide +kernel
theorem dX11_weighings_75 : decode cX11_weighings 75 = .ok (.putfield 99, 3) := by decide +kernel
theorem dX11_weighings_78 : decode cX11_weighings 78 = .ok (.aload_n 0, 1) := by decide +kernel
theorem dX11_weighings_79 : decode cX11_weighings 79 = .ok (.getfield 95, 3) := by decide +kernel
theorem dX11_weighings_82 : decode cX11_weighings 82 = .ok (.getfield 172, 3) := by decide +kernel
theorem dX11_weighings_85 : decode cX11_weighings 85 = .ok (.ireturn, 1) := by decide +kernel
set_option maxRecDepth 20000 in
theorem ggX11_hours_X11_isWithin : GoodIn wsX11_hours wsX11_isWithin := goodIn_r _ [8] (by decide +kernel) (by decide +kernel)
set_option maxRecDepth 20000 in
theorem gX11_hours_X11_isWithin : GoodIn wsX11_hours (va_wsS RX11 110 yX11_isWithin wsX11_isWithin) := goodIn_app (goodIn_of _ (by decide +kernel)) ggX11_hours_X11_isWithin
set_option maxRecDepth 20000 in
theorem ggX11_hours_X7_pass : GoodIn wsX11_hours wsX7_pass := goodIn_r _ [13, 14, 15, 16, 17, 18, 19, 20, 21, 22, 23, 24, 7, 25, 26, 27, 28, 12, 29, 30, 31, 32, 33, 34, 35, 36, 37, 38, 39, 40, 41, 42, 43, 44, 45, 46, 47, 48, 49, 50, 51, 52, 53, 54, 55, 56, 57, 58, 59, 60, 61, 62, 63, 64, 65, 66, 67, 68, 69, 70, 71, 72, 73, 74, 75, 76, 77, 78, 79, 80, 81, 82, 83, 84, 85, 86, 87, 88, 89, 90, 91, 92, 93, 94, 95, 96, 97, 98, 99, 100, 101, 102, 5, 6, 8, 103, 104, 105, 106, 107, 108, 109, 110, 111, 112, 113, 114, 115, 116, 117, 118, 119, 120, 121, 122, 123, 124, 125, 142, 143, 144, 145, 146, 147, 148, 149, 150, 151, 152, 153, 154, 155, 156, 157, 158, 159, 160, 161, 162, 163, 164, 165] (by decide +kernel) (by decide +kernel)
set_option maxRecDepth 20000 in
theorem gX11_hours_X7_pass : GoodIn wsX11_hours (wsV RX11 173 RX7 yX7_pass wsX7_pass) := goodIn_app (goodIn_of _ (by decide +kernel)) ggX11_hours_X7_pass
theorem dX11_hours_0 : decode cX11_hours 0 = .ok (.iload_n 1, 1) := by decide +kernel
theorem dX11_hours_1 : decode cX11_hours 1 = .ok (.iconst 1, 1) := by decide +kernel
theorem dX11_hours_2 : decode cX11_hours 2 = .ok (.sipush 240, 3) := by decide +kernel
theorem dX11_hours_5 : decode cX11_hours 5 = .ok (.invokestatic 110, 3) := by decide +kernel
theorem dX11_hours_8 : decode cX11_hours 8 = .ok (.ifCond .ne 5, 3) := by decide +kernel
theorem dX11_hours_11 : decode cX11_hours 11 = .ok (.iconst (-1), 1) := by decide +kernel
theorem dX11_hours_12 : decode cX11_hours 12 = .ok (.ireturn, 1) := by decide +kernel
theorem dX11_hours_13 : decode cX11_hours 13 = .ok (.aload_n 0, 1) := by decide +kernel
theorem dX11_hours_14 : decode cX11_hours 14 = .ok (.getfield 41, 3) := by decide +kernel
theorem dX11_hours_17 : decode cX11_hours 17 = .ok (.aload_n 0, 1) := by decide +kernel
theorem dX11_hours_18 : decode cX11_hours 18 = .ok (.getfield 28, 3) := by decide +kernel
theorem dX11_hours_21 : decode cX11_hours 21 = .ok (.aload_n 0, 1) := by decide +kernel
theorem dX11_hours_22 : decode cX11_hours 22 = .ok (.getfield 85, 3) := by decide +kernel
theorem dX11_hours_25 : decode cX11_hours 25 = .ok (.iload_n 1, 1) := by decide +kernel
theorem dX11_hours_26 : decode cX11_hours 26 = .ok (.invokevirtual 173, 3) := by decide +kernel
theorem dX11_hours_29 : decode cX11_hours 29 = .ok (.aload_n 0, 1) := by decide +kernel
theorem dX11_hours_30 : decode cX11_hours 30 = .ok (.getfield 41, 3) := by decide +kernel
theorem dX11_hours_33 : decode cX11_hours 33 = .ok (.getfield 177, 3) := by decide +kernel
theorem dX11_hours_36 : decode cX11_hours 36 = .ok (.ireturn, 1) := by decide +kernel
set_option maxRecDepth 20000 in
theorem ggX11_tried_X11_isWithin : GoodIn wsX11_tried wsX11_isWithin := goodIn_r _ [13] (by decide +kernel) (by decide +kernel)
set_option maxRecDepth 20000 in
theorem gX11_tried_X11_isWithin : GoodIn wsX11_tried (va_wsS RX11 110 yX11_isWithin wsX11_isWithin) := goodIn_app (goodIn_of _ (by decide +kernel)) ggX11_tried_X11_isWithin
set_option maxRecDepth 20000 in
theorem ggX11_tried_X11_canBeTried : GoodIn wsX11_tried wsX11_canBeTried := goodIn_r _ [17, 2, 10, 11, 12, 13, 18, 19, 20, 21, 22, 23, 24, 25, 26, 27, 157, 158, 159, 160, 161, 162, 163, 164, 165, 166, 167, 168, 169, 170, 171, 172, 179, 180, 181, 182, 183, 184, 185, 186] (by decide +kernel) (by decide +kernel)
set_option maxRecDepth 20000 in
theorem gX11_tried_X11_canBeTried : GoodIn wsX11_tried (wsV RX11 180 RX11 yX11_canBeTried wsX11_canBeTried) := goodIn_app (goodIn_of _ (by decide +kernel)) ggX11_tried_X11_canBeTried
set_option maxRecDepth 20000 in
theorem ggX11_tried_X9_copyFrom : GoodIn wsX11_tried wsX9_copyFrom := goodIn_r _ [31, 32, 33, 34, 35, 36, 37, 38, 39, 23, 40, 41, 42, 179, 180, 181, 182, 183, 184, 185, 186] (by decide +kernel) (by decide +kernel)
set_option maxRecDepth 20000 in
theorem gX11_tried_X9_copyFrom : GoodIn wsX11_tried (wsV RX11 183 RX9 yX9_copyFrom wsX9_copyFrom) := goodIn_app (goodIn_of _ (by decide +kernel)) ggX11_tried_X9_copyFrom
set_option maxRecDepth 20000 in
theorem ggX11_tried_X7_pass : GoodIn wsX11_tried wsX7_pass := goodIn_r _ [47, 48, 49, 50, 51, 52, 53, 54, 55, 56, 57, 26, 12, 27, 58, 59, 60, 46, 61, 62, 63, 64, 65, 66, 67, 68, 69, 70, 71, 72, 73, 74, 75, 76, 77, 78, 79, 80, 81, 82, 83, 84, 85, 86, 87, 88, 89, 90, 91, 92, 93, 94, 95, 96, 97, 98, 99, 100, 101, 102, 103, 104, 105, 106, 107, 108, 109, 110, 111, 112, 113, 114, 115, 116, 21, 117, 32, 118, 119, 120, 121, 122, 123, 124, 125, 126, 127, 128, 129, 130, 24, 25, 10, 11, 13, 131, 132, 133, 134, 135, 136, 137, 138, 23, 40, 139, 140, 141, 142, 42, 143, 144, 145, 146, 147, 148, 149, 150, 173, 174, 175, 176, 177, 178, 179, 180, 181, 182, 183, 184, 185, 186, 187, 188, 189, 190, 191, 192, 193, 194, 195, 196] (by decide +kernel) (by decide +kernel)
set_option maxRecDepth 20000 in
theorem gX11_tried_X7_pass : GoodIn wsX11_tried (wsV RX11 173 RX7 yX7_pass wsX7_pass) := goodIn_app (goodIn_of _ (by decide +kernel)) ggX11_tried_X7_pass
set_option maxRecDepth 20000 in
theorem ggX11_tried_X9_factOf : GoodIn wsX11_tried wsX9_factOf := goodIn_r _ [154, 32, 37, 40, 38, 39, 155, 19, 20, 21, 22, 23, 24, 12, 25, 10, 11, 13, 26, 27, 179, 180, 181, 182, 183, 184, 185, 186] (by decide +kernel) (by decide +kernel)
set_option maxRecDepth 20000 in
theorem gX11_tried_X9_factOf : GoodIn wsX11_tried (wsV RX11 186 RX9 yX9_factOf wsX9_factOf) := goodIn_app (goodIn_of _ (by decide +kernel)) ggX11_tried_X9_factOf
set_option maxRecDepth 20000 in
theorem ggX11_tried_J6_bitCount_0f7a4 : GoodIn wsX11_tried wsJ6_bitCount_0f7a4 := goodIn_r _ [82, 83, 84, 85] (by decide +kernel) (by decide +kernel)
set_option maxRecDepth 20000 in
theorem gX11_tried_J6_bitCount_0f7a4 : GoodIn wsX11_tried (va_wsS RX11 199 yJ6_bitCount_0f7a4 wsJ6_bitCount_0f7a4) := goodIn_app (goodIn_of _ (by decide +kernel)) ggX11_tried_J6_bitCount_0f7a4
theorem dX11_tried_0 : decode cX11_tried 0 = .ok (.iload_n 1, 1) := by decide +kernel
theorem dX11_tried_1 : decode cX11_tried 1 = .ok (.iconst 1, 1) := by decide +kernel
theorem dX11_tried_2 : decode cX11_tried 2 = .ok (.sipush 240, 3) := by decide +kernel
theorem dX11_tried_5 : decode cX11_tried 5 = .ok (.invokestatic 110, 3) := by decide +kernel
theorem dX11_tried_8 : decode cX11_tried 8 = .ok (.ifCond .eq 11, 3) := by decide +kernel
theorem dX11_tried_11 : decode cX11_tried 11 = .ok (.aload_n 0, 1) := by decide +kernel
theorem dX11_tried_12 : decode cX11_tried 12 = .ok (.iload_n 2, 1) := by decide +kernel
theorem dX11_tried_13 : decode cX11_tried 13 = .ok (.invokevirtual 180, 3) := by decide +kernel
theorem dX11_tried_16 : decode cX11_tried 16 = .ok (.ifCond .ne 5, 3) := by decide +kernel
theorem dX11_tried_19 : decode cX11_tried 19 = .ok (.iconst (-1), 1) := by decide +kernel
theorem dX11_tried_20 : decode cX11_tried 20 = .ok (.ireturn, 1) := by decide +kernel
theorem dX11_tried_21 : decode cX11_tried 21 = .ok (.aload_n 0, 1) := by decide +kernel
theorem dX11_tried_22 : decode cX11_tried 22 = .ok (.getfield 35, 3) := by decide +kernel
theorem dX11_tried_25 : decode cX11_tried 25 = .ok (.aload_n 0, 1) := by decide +kernel
theorem dX11_tried_26 : decode cX11_tried 26 = .ok (.getfield 28, 3) := by decide +kernel
theorem dX11_tried_29 : decode cX11_tried 29 = .ok (.invokevirtual 183, 3) := by decide +kernel
theorem dX11_tried_32 : decode cX11_tried 32 = .ok (.aload_n 0, 1) := by decide +kernel
theorem dX11_tried_33 : decode cX11_tried 33 = .ok (.getfield 41, 3) := by decide +kernel
theorem dX11_tried_36 : decode cX11_tried 36 = .ok (.aload_n 0, 1) := by decide +kernel
theorem dX11_tried_37 : decode cX11_tried 37 = .ok (.getfield 35, 3) := by decide +kernel
theorem dX11_tried_40 : decode cX11_tried 40 = .ok (.aload_n 0, 1) := by decide +kernel
theorem dX11_tried_41 : decode cX11_tried 41 = .ok (.getfield 85, 3) := by decide +kernel
theorem dX11_tried_44 : decode cX11_tried 44 = .ok (.iload_n 1, 1) := by decide +kernel
theorem dX11_tried_45 : decode cX11_tried 45 = .ok (.invokevirtual 173, 3) := by decide +kernel
theorem dX11_tried_48 : decode cX11_tried 48 = .ok (.iload_n 2, 1) := by decide +kernel
theorem dX11_tried_49 : decode cX11_tried 49 = .ok (.sipush 200, 3) := by decide +kernel
theorem dX11_tried_52 : decode cX11_tried 52 = .ok (.if_icmp .lt 17, 3) := by decide +kernel
